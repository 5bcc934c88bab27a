/-! the component's walk over the tree -/
def xw_I (g : ig_T) (t : Nat → Nat) (n R p0 : Nat) (T : Nat → Nat → Nat × Nat) (L : List tr_T) (K : Nat) (tR tS tE tP wI wP : ar_T) (v : Int32) (c : List xw_T) (L0 : List tr_T) : Prop :=
  L0.length = K ∧ tr_A L0 tR tS tE tP ∧ xw_C g t n R p0 T tR tS tP wI wP v c ∧ (∀ y, y ∈ c → y.1 < K) ∧ L0 ++ tr_L (tk_K g t n T) (65 - K) (xw_S g t n T c) K = L
theorem tr_Lstep (Kd : Nat → Nat → List (Nat × Nat × Nat)) {K : Nat} (hK : K ≤ 64) (x : tr_T) (S L0 : List tr_T) :
    L0 ++ tr_L Kd (65 - K) (x :: S) K = (L0 ++ [x]) ++ tr_L Kd (65 - (K + 1)) ((Kd x.1 x.2.1).map (tr_k (K + 1)) ++ S) (K + 1) := by
  have e : 65 - K = (65 - (K + 1)) + 1 := by omega
  rw [e, List.append_assoc]
  rfl
section
variable {g : ig_T} {t : Nat → Nat} {n R cp : Nat} {fz rc oR oN : Int32} {nu od ro mE mR mA tR tS tE tP wI wP : Nat → Int32} {T : Nat → Nat → Nat × Nat} {N : Nat → Bool}
theorem xa_add {post : Int32 → St2 → Prop} {K r p : Nat} {par : Int32} (hK : K ≤ 64) (hr : r < 8) (hp : p ≤ 24)
    (h1 : K = 64 → post (nI 64) (nI R, nI cp, fz, nI (ig_A g), nI n, rc, oR, nI 65, ip_e (ig_O g), ip_e (ig_C g), ip_eb (ig_B g), ip_e (ig_L g), ip_e (ig_H g), ip_e (ig_M g), nu, od, ro, ip_e t, mE, mR, mA, tR, tS, tE, tP, wI, wP))
    (h2 : K < 64 → post (nI K) (nI R, nI cp, fz, nI (ig_A g), nI n, rc, oR, nI (K + 1), ip_e (ig_O g), ip_e (ig_C g), ip_eb (ig_B g), ip_e (ig_L g), ip_e (ig_H g), ip_e (ig_M g), nu, od, ro, ip_e t, mE, mR, mA, upd tR K (nI r), upd tS K (nI p), upd tE K (mE (r * 25 + p)), upd tP K par, upd wI K 0, upd wP K (nI p))) :
    wpX_addNode post (nI R, nI cp, fz, nI (ig_A g), nI n, rc, oR, nI K, ip_e (ig_O g), ip_e (ig_C g), ip_eb (ig_B g), ip_e (ig_L g), ip_e (ig_H g), ip_e (ig_M g), nu, od, ro, ip_e t, mE, mR, mA, tR, tS, tE, tP, wI, wP) (nI r) (nI p) par := by
  refine nm_r (nI_1 K) (pk_le 64 K (fun z => ?_) (fun z => ?_))
  · obtain rfl : K = 64 := by omega
    exact h1 rfl
  · have hi : vp_in (nI K) 64 := vp_in_nI z (by decide)
    have ec : (nI K).toNatClampNeg = K := nI_clamp (by omega)
    have h2' := h2 z
    refine ⟨hi, nm_r (by rw [ec]) ⟨hi, nm_r (by rw [ec]) ⟨?_, ⟨hi, nm_r (e' := upd tE K (mE (r * 25 + p))) (by rw [ec, ip_l25, nI_clamp (by omega)]) ⟨hi, nm_r (by rw [ec]) ⟨hi, nm_r (by rw [ec]) ⟨hi, nm_r (by rw [ec]) h2'⟩⟩⟩⟩⟩⟩⟩
    rw [ip_l25]
    exact vp_in_nI (by omega) (by decide)
theorem xw_gives {post : Int32 → Prop} {it : Nat} (F : xk_F g t n R) (hit : it < 64) (h1 : tk_g g it → post 1) (h0 : ¬ tk_g g it → post 0) : wpX_givesNodes post (nI R, nI cp, fz, nI (ig_A g), nI n, rc, oR, oN, ip_e (ig_O g), ip_e (ig_C g), ip_eb (ig_B g), ip_e (ig_L g), ip_e (ig_H g), ip_e (ig_M g), nu, od, ro, ip_e t, mE, mR, mA, tR, tS, tE, tP, wI, wP) (nI it) := by
  have hM := (F.2.2.1.2 it).2.2.1
  have c1 : it < 2 ^ 31 := by omega
  have hi : vp_in (nI it) 64 := vp_in_nI hit (by decide)
  refine ⟨hi, ip_br (ip_cb _ c1) (fun b => h0 (fun z => ?_)) (fun b => ⟨hi, pk_eq (ig_M g it) 4 (fun z => h0 (fun w => by have := w.2; omega)) (fun z => ⟨hi, pk_eq (ig_M g it) 5 (fun z2 => h0 (fun w => by have := w.2; omega)) (fun z2 => h1 ⟨b, by omega⟩) (ip_ce _ c1)⟩) (ip_ce _ c1)⟩)⟩
  have z1 := z.1
  rw [b] at z1
  exact absurd z1 (by decide)
/-- what a step of the walk must keep -/
def xw_go (g : ig_T) (t : Nat → Nat) (n R p0 : Nat) (T : Nat → Nat → Nat × Nat) (L : List tr_T) (m : Nat) (P : Int32 → Nat → Nat → ar_T → ar_T → ar_T → ar_T → ar_T → ar_T → Prop) : Prop :=
  (∀ (x K : Nat) (tR tS tE tP wI wP : ar_T) (v : Int32) (c : List xw_T) (L0 : List tr_T), x ≤ 25 → K ≤ 64 → 6 * (64 - K) + xw_m c < m → xw_I g t n R p0 T L K tR tS tE tP wI wP v c L0 → P v x K tR tS tE tP wI wP) ∧
  (∀ (x : Nat) (tR tS tE tP wI wP : ar_T), x ≤ 25 → L.length = 65 → tr_A L tR tS tE tP → P (nI 64) x 65 tR tS tE tP wI wP)
/-- a new node behind a node whose item has been put on -/
theorem xw_new {post : Int32 → St2 → Prop} {p0 K nd a i i' q e x s m : Nat} {c : List xw_T} {L0 L : List tr_T} (F : xk_F g t n R) (hG : pu_G g t n R N T) (hM : ∀ s q, s < R → p0 ≤ q → q ≤ n → xk_P g t N n T mE mR mA s q)
    (hx : x ≤ 25) (hK : K ≤ 64) (hs : s < R) (hq0 : p0 ≤ q) (hq : q ≤ n) (hz : (T s q).1 = e + 1) (hLl : L0.length = K) (hA : tr_A L0 tR tS tE tP)
    (hC : xw_C g t n R p0 T tR tS tP wI wP (nI nd) ((nd, a, i', e) :: c)) (hc : ∀ y, y ∈ c → y.1 < K) (hnd : nd < K) (hi : i ≤ i') (hi4 : i < 5) (hm : 6 * (64 - K) + (5 - i) + xw_m c ≤ m)
    (hL : L0 ++ tr_L (tk_K g t n T) (65 - K) ((s, q, e, nd + 1) :: xw_S g t n T ((nd, a, i', e) :: c)) K = L)
    (hgo : xw_go g t n R p0 T L m (fun v x K tR tS tE tP wI wP => post v (nI R, nI cp, fz, nI (ig_A g), nI n, ip_m x, oR, nI K, ip_e (ig_O g), ip_e (ig_C g), ip_eb (ig_B g), ip_e (ig_L g), ip_e (ig_H g), ip_e (ig_M g), nu, od, ro, ip_e t, mE, mR, mA, tR, tS, tE, tP, wI, wP))) :
    wpX_addNode post (nI R, nI cp, fz, nI (ig_A g), nI n, ip_m x, oR, nI K, ip_e (ig_O g), ip_e (ig_C g), ip_eb (ig_B g), ip_e (ig_L g), ip_e (ig_H g), ip_e (ig_M g), nu, od, ro, ip_e t, mE, mR, mA, tR, tS, tE, tP, wI, wP) (nI s) (nI q) (nI nd) := by
  have hn24 := F.1
  have hR8 := F.2.1
  obtain ⟨hQ, hW⟩ := hM s q hs hq0 hq
  have hme : mE (s * 25 + q) = nI e := by rw [hQ.1, hz]; rfl
  rw [tr_Lstep _ hK] at hL
  refine xa_add hK (by omega) (by omega) (fun z => ?_) (fun z => ?_)
  · subst z
    have hL' : L0 ++ [(s, q, e, nd + 1)] = L := by
      rw [show 65 - (64 + 1) = 0 from rfl] at hL
      rw [← hL]
      exact (List.append_nil _).symm
    refine hgo.2 x tR tS tE tP wI wP hx ?_ ?_
    · rw [← hL', List.length_append, hLl]; rfl
    · rw [← hL']
      exact tr_Aadd (fun _ _ => rfl) (fun _ _ => rfl) (fun _ _ => rfl) (fun _ _ => rfl) (fun w => by omega) hA
  · obtain ⟨w1, w2, w3, w4⟩ := pu_W hG hs hq (by omega)
    have hne : ∀ j, j < K → j ≠ K := fun j hj => by omega
    refine hgo.1 x (K + 1) _ _ _ _ _ _ (nI K) ((K, (pu_M g t n T s q).2.2, 0, q) :: (nd, a, i', e) :: c) (L0 ++ [(s, q, e, nd + 1)]) hx (by omega) ?_ ⟨?_, ?_, ⟨rfl, ⟨z, s, q, pk_us, pk_us, hs, hq0, Nat.le_refl q, hq, by omega, rfl, Nat.zero_le _, pk_us, pk_us, ?_⟩, ?_, ?_⟩, ?_, ?_⟩
    · show 6 * (64 - (K + 1)) + ((5 - 0) + ((5 - i') + xw_m c)) < m
      omega
    · rw [List.length_append, hLl]; rfl
    · refine tr_Aadd (fun j hj => pk_un (by omega)) (fun j hj => pk_un (by omega)) (fun j hj => pk_un (by omega)) (fun j hj => pk_un (by omega)) (fun _ => ?_) hA
      rw [hLl]
      exact ⟨pk_us, pk_us, pk_us.trans hme, pk_us⟩
    · exact tk_okA (ig_C g (pu_M g t n T s q).2.2) (4 * (pu_M g t n T s q).2.2) q (by rw [w3]; omega)
    · intro y hy
      rcases List.mem_cons.mp hy with e1 | e1
      · rw [e1]; exact hnd
      · exact hc y e1
    · show xw_C g t n R p0 T _ _ _ _ _ (upd tP K (nI nd) K) _
      rw [pk_us]
      refine xw_Ccg K (fun j hj => pk_un (by omega)) (fun j hj => pk_un (by omega)) (fun j hj => pk_un (by omega)) (fun j hj => pk_un (by omega)) (fun j hj => pk_un (by omega)) _ _ ?_ hC
      intro y hy
      rcases List.mem_cons.mp hy with e1 | e1
      · rw [e1]; exact hnd
      · exact hc y e1
    · intro y hy
      rcases List.mem_cons.mp hy with e1 | e1
      · rw [e1]; exact Nat.lt_succ_self K
      · rcases List.mem_cons.mp e1 with e2 | e2
        · rw [e2]; exact Nat.lt_succ_of_lt hnd
        · exact Nat.lt_succ_of_lt (hc y e2)
    · exact hL
/-- one step of the walk -/
theorem xw_39 {post : Int32 → St2 → Prop} {it nd : Nat} {x3 v : Int32} (hit : it < 64) (hnd : nd < 64) (h0 : v = -1 → post (nI nd) (nI R, nI cp, fz, nI (ig_A g), nI n, rc, oR, oN, ip_e (ig_O g), ip_e (ig_C g), ip_eb (ig_B g), ip_e (ig_L g), ip_e (ig_H g), ip_e (ig_M g), nu, od, ro, ip_e t, mE, mR, mA, tR, tS, tE, tP, wI, wP))
    (h1 : v ≠ -1 → wpX_addNode post (nI R, nI cp, fz, nI (ig_A g), nI n, rc, oR, oN, ip_e (ig_O g), ip_e (ig_C g), ip_eb (ig_B g), ip_e (ig_L g), ip_e (ig_H g), ip_e (ig_M g), nu, od, ro, ip_e t, mE, mR, mA, tR, tS, tE, tP, wI, upd wP nd v) (nI (ig_L g it)) x3 (nI nd)) : wX_walkTest_39 post (nI nd) (nI it) x3 v (nI R) (nI cp) fz (nI (ig_A g)) (nI n) rc oR oN (ip_e (ig_O g)) (ip_e (ig_C g)) (ip_eb (ig_B g)) (ip_e (ig_L g)) (ip_e (ig_H g)) (ip_e (ig_M g)) nu od ro (ip_e t) mE mR mA tR tS tE tP wI wP := by
  refine br_c h0 (fun z => ⟨vp_in_nI hnd (by decide), nm_r (by rw [nI_clamp (by omega)]) ⟨vp_in_nI hit (by decide), ?_⟩⟩)
  rw [ip_ce _ (by omega)]
  exact h1 z
theorem xw_29 {post : Int32 → St2 → Prop} {nd i : Nat} {x2 x3 v : Int32} (hnd : nd < 64) (hw : wI nd = nI i) (h : wX_walkTest_39 post (nI nd) x2 x3 v (nI R) (nI cp) fz (nI (ig_A g)) (nI n) rc oR oN (ip_e (ig_O g)) (ip_e (ig_C g)) (ip_eb (ig_B g)) (ip_e (ig_L g)) (ip_e (ig_H g)) (ip_e (ig_M g)) nu od ro (ip_e t) mE mR mA tR tS tE tP (upd wI nd (nI (i + 1))) wP) : wX_walkTest_29 post (nI nd) x2 x3 v (nI R) (nI cp) fz (nI (ig_A g)) (nI n) rc oR oN (ip_e (ig_O g)) (ip_e (ig_C g)) (ip_eb (ig_B g)) (ip_e (ig_L g)) (ip_e (ig_H g)) (ip_e (ig_M g)) nu od ro (ip_e t) mE mR mA tR tS tE tP wI wP := by
  have hi : vp_in (nI nd) 64 := vp_in_nI hnd (by decide)
  refine ⟨hi, hi, nm_r (e' := upd wI nd (nI (i + 1))) ?_ h⟩
  rw [nI_clamp (by omega), hw, nI_1]
theorem xw_on {post : Int32 → St2 → Prop} {p0 K nd a i q x m : Nat} {c : List xw_T} {L0 L : List tr_T} {v : Int32} (F : xk_F g t n R) (hG : pu_G g t n R N T) (hNb : ig_Nb g N) (hM : ∀ s q, s < R → p0 ≤ q → q ≤ n → xk_P g t N n T mE mR mA s q)
    (hx : x ≤ 25) (hK : K ≤ 64) (I : xw_I g t n R p0 T L K tR tS tE tP wI wP v ((nd, a, i, q) :: c) L0) (hm : 6 * (64 - K) + xw_m ((nd, a, i, q) :: c) ≤ m)
    (hgo : xw_go g t n R p0 T L m (fun v x K tR tS tE tP wI wP => post v (nI R, nI cp, fz, nI (ig_A g), nI n, ip_m x, oR, nI K, ip_e (ig_O g), ip_e (ig_C g), ip_eb (ig_B g), ip_e (ig_L g), ip_e (ig_H g), ip_e (ig_M g), nu, od, ro, ip_e t, mE, mR, mA, tR, tS, tE, tP, wI, wP))) :
    wpX_walkOn post (nI R, nI cp, fz, nI (ig_A g), nI n, ip_m x, oR, nI K, ip_e (ig_O g), ip_e (ig_C g), ip_eb (ig_B g), ip_e (ig_L g), ip_e (ig_H g), ip_e (ig_M g), nu, od, ro, ip_e t, mE, mR, mA, tR, tS, tE, tP, wI, wP) (nI nd) := by
  obtain ⟨hLl, hA, ⟨hv, ⟨n64, r, s, h1, h2, h3, h4, h5, h6, h7, h8, h9, h10, h11, h12⟩, hc2, hC⟩, hc, hL⟩ := I
  dsimp only at hv n64 h1 h2 h5 h6 h8 h9 h10 h11 h12 hc2 hC
  have hn24 := F.1
  have hR8 := F.2.1
  have hV := F.2.2.1
  have hS := pu_GS hG
  have hnd : nd < K := hc _ List.mem_cons_self
  have hc' : ∀ y, y ∈ c → y.1 < K := fun y hy => hc y (List.mem_cons_of_mem _ hy)
  obtain ⟨w1, w2, w3, w4⟩ := pu_W hG h3 (by omega) h7
  rw [← h8] at w1 w2 w3 w4
  have ha : a < 16 := by have := hV.1; omega
  have hC4 := (hV.2 a).2.1
  have cn : nd < 2 ^ 31 := by omega
  have hi : vp_in (nI nd) 64 := vp_in_nI n64 (by decide)
  obtain ⟨hQ, hW⟩ := hM r s h3 h4 (by omega)
  have em : tR (nI nd).toNatClampNeg * 25 + tS (nI nd).toNatClampNeg = nI (r * 25 + s) := by rw [nI_clamp cn, h1, h2, ip_l25]
  refine ⟨hi, hi, ?_, nm_r (e' := nI a) ?_ ⟨hi, vp_in_nI ha (by decide), pk_lt i (ig_C g a) (fun z => ?_) (fun z => ?_) (by rw [nI_clamp cn]; exact h10) (ip_ce _ (by omega))⟩⟩
  · rw [em]; exact vp_in_nI (by omega) (by decide)
  · rw [em, nI_clamp (by omega), h8]; exact hW h7
  · have hit : 4 * a + i < 64 := by omega
    have hn : ig_it g N (4 * a + i) := fun y1 y2 => hNb a i w1 z y1 y2
    obtain ⟨kk, hkk⟩ : ∃ kk, ig_C g a - i = kk + 1 := ⟨ig_C g a - i - 1, by omega⟩
    have hkk' : ig_C g a - (i + 1) = kk := by omega
    rw [hkk] at h12
    obtain ⟨ok1, ok2⟩ := h12
    have rd : ∀ q', q ≤ q' → q' ≤ n → ig_B g (4 * a + i) = true → xk_Q N n T mE mR (ig_L g (4 * a + i)) q' := fun q' z1 z2 b => (hM _ q' ((hV.2 _).2.2.2.2.2 b) (by omega) z2).1
    have hS0 : xw_S g t n T ((nd, a, i, q) :: c) = (tk_A g t n T (kk + 1) (4 * a + i) q).map (tr_k (nd + 1)) ++ xw_S g t n T c := by
      show (tk_A g t n T (ig_C g a - i) (4 * a + i) q).map (tr_k (nd + 1)) ++ xw_S g t n T c = _
      rw [hkk]
    have hS1 : ∀ e, xw_S g t n T ((nd, a, i + 1, e) :: c) = (tk_A g t n T kk (4 * a + i + 1) e).map (tr_k (nd + 1)) ++ xw_S g t n T c := by
      intro e
      show (tk_A g t n T (ig_C g a - (i + 1)) (4 * a + (i + 1)) e).map (tr_k (nd + 1)) ++ xw_S g t n T c = _
      rw [hkk']
      rfl
    have hm1 : 6 * (64 - K) + (5 - i) + xw_m c ≤ m := by
      have : 6 * (64 - K) + ((5 - i) + xw_m c) ≤ m := hm
      omega
    rw [hS0] at hL
    -- the chain behind the node stays as it is
    have keep : ∀ (wI' wP' : ar_T) (i' e : Nat), s ≤ e → e ≤ n → i' ≤ ig_C g a → tk_ok g t n T (ig_C g a - i') (4 * a + i') e → wI' nd = nI i' → wP' nd = nI e → (∀ j, j < nd → wI' j = wI j) → (∀ j, j < nd → wP' j = wP j) →
        xw_C g t n R p0 T tR tS tP wI' wP' (nI nd) ((nd, a, i', e) :: c) := fun wI' wP' i' e y1 y2 y3 y4 y5 y6 y7 y8 =>
      ⟨rfl, ⟨n64, r, s, h1, h2, h3, h4, y1, y2, h7, h8, y3, y5, y6, y4⟩, hc2, xw_Ccg nd (fun _ _ => rfl) (fun _ _ => rfl) (fun _ _ => rfl) y7 y8 c _ hc2 hC⟩
    refine ⟨hi, nm_r (e' := nI (4 * a + i)) (by rw [nI_clamp cn, h10]; exact ip_ls a i) (xw_gives F hit (fun gn => br_f (by decide) ?_) (fun gn => br_t rfl ⟨hi, ?_⟩))⟩
    · -- a test that gives a node
      have hb := gn.1
      have hl := (hV.2 _).2.2.2.2.2 hb
      have hT : pu_T g t n T (4 * a + i) q = T (ig_L g (4 * a + i)) q := pu_Tr hb
      have hb2 := (pu_Tall (t := t) (it := 4 * a + i) hV hS h6)
      refine ⟨hi, nm_r (e' := nI q) (by rw [nI_clamp cn]; exact h11) (xt_test (T := T) (N := N) F hit h6 hx (rd q (Nat.le_refl q) h6) ?_)⟩
      have hx' : max x (pu_T g t n T (4 * a + i) q).2 ≤ 25 := by have := hb2.1; omega
      have hs1 := hb2.2
      revert hx' hs1
      rw [hT]
      intro hx' hs1
      cases hz : (T (ig_L g (4 * a + i)) q).1 with
      | zero =>
        refine br_t rfl (xw_29 n64 h10 (xw_39 hit n64 (fun _ => ?_) (fun y => absurd rfl y)))
        rw [tk_s3 gn hz] at hL
        rw [tk_x0 gn hz] at ok2
        refine hgo.1 _ K tR tS tE tP _ wP (nI nd) ((nd, a, i + 1, q) :: c) L0 hx' hK ?_ ⟨hLl, hA, keep _ _ _ _ h5 h6 (by omega) (by rw [hkk']; exact ok2) pk_us h11 (fun j hj => pk_un (by omega)) (fun j hj => rfl), ?_, ?_⟩
        · show 6 * (64 - K) + ((5 - (i + 1)) + xw_m c) < m
          omega
        · intro y hy
          rcases List.mem_cons.mp hy with e1 | e1
          · rw [e1]; exact hnd
          · exact hc' y e1
        · rw [hS1]; exact hL
      | succ e =>
        obtain ⟨b1, b2⟩ := hs1 e hz
        have hne : ¬ ip_m (e + 1) = -1 := fun y => by
          have := (ip_mn (x := e + 1) (by omega)).mp y
          omega
        refine br_f hne (xt_rep F hit (fun rp => br_f (by decide) ?_) (fun rp => br_t rfl ?_))
        · -- a repeat stays at its item
          have hP := pu_Pall (t := t) q hV hS hn rp
          rw [tk_s5 gn rp h6 hP hz] at hL
          rw [tk_x2 gn rp h6 hP hz] at ok2
          refine xw_39 hit n64 (fun y => absurd y hne) (fun _ => ?_)
          refine xw_new (T := T) (N := N) (i := i) (i' := i) (a := a) (e := e) F hG hM hx' hK hl (by omega) h6 hz hLl hA (keep _ _ i e (by omega) b2 h9 (by rw [hkk]; exact ⟨Or.inl gn, ok2⟩) h10 pk_us (fun j hj => rfl) (fun j hj => pk_un (by omega))) hc' hnd (Nat.le_refl i) (by omega) hm1 ?_ hgo
          show L0 ++ tr_L (tk_K g t n T) (65 - K) ((ig_L g (4 * a + i), q, e, nd + 1) :: ((tk_A g t n T (ig_C g a - i) (4 * a + i) e).map (tr_k (nd + 1)) ++ xw_S g t n T c)) K = L
          rw [hkk]
          exact hL
        · -- another item is left behind
          rw [tk_s4 gn rp hz] at hL
          rw [tk_x1 gn rp hz] at ok2
          refine xw_29 n64 h10 (xw_39 hit n64 (fun y => absurd y hne) (fun _ => ?_))
          refine xw_new (T := T) (N := N) (i := i) (i' := i + 1) (a := a) (e := e) F hG hM hx' hK hl (by omega) h6 hz hLl hA (keep _ _ (i + 1) e (by omega) b2 (by omega) (by rw [hkk']; exact ok2) pk_us pk_us (fun j hj => pk_un (by omega)) (fun j hj => pk_un (by omega))) hc' hnd (by omega) (by omega) hm1 ?_ hgo
          rw [hS1]
          exact hL
    · -- an item without nodes
      rw [nI_clamp cn, h11]
      have ok1' : (pu_I g t n T (4 * a + i) q).1 ≠ 0 := ok1.elim (fun y => absurd y gn) id
      obtain ⟨e, he⟩ : ∃ e, (pu_I g t n T (4 * a + i) q).1 = e + 1 := ⟨(pu_I g t n T (4 * a + i) q).1 - 1, by omega⟩
      obtain ⟨b1, b2⟩ := (pu_Iall (t := t) hV hS hn h6).2 e he
      have b3 := (pu_Iall (t := t) (it := 4 * a + i) hV hS hn h6).1
      refine xt2_item (T := T) (N := N) F hit h6 hx hn (rd q (Nat.le_refl q) h6) (fun q' z1 z2 b => rd q' (by omega) z2 b) ?_
      rw [he]
      rw [tk_s2 gn, he] at hL
      rw [tk_xI he] at ok2
      refine ⟨hi, nm_r (e' := upd wP nd (nI e)) rfl ⟨hi, hi, nm_r (e' := upd wI nd (nI (i + 1))) (by rw [h10, nI_1]) ?_⟩⟩
      refine hgo.1 _ K tR tS tE tP _ _ (nI nd) ((nd, a, i + 1, e) :: c) L0 (by omega) hK ?_ ⟨hLl, hA, keep _ _ _ _ (by omega) b2 (by omega) (by rw [hkk']; exact ok2) pk_us pk_us (fun j hj => pk_un (by omega)) (fun j hj => pk_un (by omega)), ?_, ?_⟩
      · show 6 * (64 - K) + ((5 - (i + 1)) + xw_m c) < m
        omega
      · intro y hy
        rcases List.mem_cons.mp hy with e1 | e1
        · rw [e1]; exact hnd
        · exact hc' y e1
      · rw [hS1]; exact hL
  · -- up to the parent
    obtain rfl : i = ig_C g a := by omega
    refine ⟨hi, ?_⟩
    rw [nI_clamp cn]
    refine hgo.1 x K tR tS tE tP wI wP (tP nd) c L0 hx hK ?_ ⟨hLl, hA, hC, hc', ?_⟩
    · have : 6 * (64 - K) + ((5 - ig_C g a) + xw_m c) ≤ m := hm
      omega
    · have e0 : xw_S g t n T ((nd, a, ig_C g a, q) :: c) = xw_S g t n T c := by
        show (tk_A g t n T (ig_C g a - ig_C g a) (4 * a + ig_C g a) q).map (tr_k (nd + 1)) ++ xw_S g t n T c = _
        rw [Nat.sub_self]
        rfl
      rw [e0] at hL
      exact hL
end
