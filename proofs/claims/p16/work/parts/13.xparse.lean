/-! the component's tree and its parse -/
section
variable {g : ig_T} {t : Nat → Nat} {n R cp : Nat} {fz rc oR oN : Int32} {nu od ro mE mR mA tR tS tE tP wI wP : Nat → Int32} {T : Nat → Nat → Nat × Nat} {N : Nat → Bool}
theorem xg_loop {post : St2 → Prop} {p0 : Nat} {L : List tr_T} (F : xk_F g t n R) (hG : pu_G g t n R N T) (hNb : ig_Nb g N) (hM : ∀ s q, s < R → p0 ≤ q → q ≤ n → xk_P g t N n T mE mR mA s q)
    (hpost : ∀ (x K : Nat) (tR tS tE tP wI wP : ar_T), x ≤ 25 → L.length = K → tr_A L tR tS tE tP → post (nI R, nI cp, fz, nI (ig_A g), nI n, ip_m x, oR, nI K, ip_e (ig_O g), ip_e (ig_C g), ip_eb (ig_B g), ip_e (ig_L g), ip_e (ig_H g), ip_e (ig_M g), nu, od, ro, ip_e t, mE, mR, mA, tR, tS, tE, tP, wI, wP)) :
    ∀ (m nn st x K : Nat) (tR tS tE tP wI wP : ar_T) (v : Int32) (c : List xw_T) (L0 : List tr_T), m < nn → 6 * (64 - K) + xw_m c ≤ m → st + m ≤ 384 → x ≤ 25 → K ≤ 64 → xw_I g t n R p0 T L K tR tS tE tP wI wP v c L0 →
    wX_growTree_11 post nn v (nI st) (nI R) (nI cp) fz (nI (ig_A g)) (nI n) (ip_m x) oR (nI K) (ip_e (ig_O g)) (ip_e (ig_C g)) (ip_eb (ig_B g)) (ip_e (ig_L g)) (ip_e (ig_H g)) (ip_e (ig_M g)) nu od ro (ip_e t) mE mR mA tR tS tE tP wI wP := by
  intro m
  induction m with
  | zero =>
    intro nn st x K tR tS tE tP wI wP v c L0 hnn hm hst hx hK I
    obtain ⟨nn, rfl⟩ : ∃ k, nn = k + 1 := ⟨nn - 1, by omega⟩
    cases c with
    | nil =>
      obtain ⟨hLl, hA, hv, _, hL⟩ := I
      have hL' : L0 = L := by
        rw [← hL]
        show L0 = L0 ++ tr_L (tk_K g t n T) (65 - K) [] K
        rw [tr_L0, List.append_nil]
      rw [hL'] at hLl hA
      have P := hpost x K tR tS tE tP wI wP hx hLl hA
      exact br_c (fun _ => P) (fun _ => br_t hv P)
    | cons y c =>
      obtain ⟨_, _, ⟨_, ⟨_, _, _, _, _, _, _, _, _, _, _, h9, _⟩, _⟩, _⟩ := I
      have h4 := (F.2.2.1.2 y.2.1).2.1
      have : 6 * (64 - K) + ((5 - y.2.2.1) + xw_m c) ≤ 0 := hm
      omega
  | succ m ih =>
    intro nn st x K tR tS tE tP wI wP v c L0 hnn hm hst hx hK I
    obtain ⟨nn, rfl⟩ : ∃ k, nn = k + 1 := ⟨nn - 1, by omega⟩
    cases c with
    | nil =>
      obtain ⟨hLl, hA, hv, _, hL⟩ := I
      have hL' : L0 = L := by
        rw [← hL]
        show L0 = L0 ++ tr_L (tk_K g t n T) (65 - K) [] K
        rw [tr_L0, List.append_nil]
      rw [hL'] at hLl hA
      have P := hpost x K tR tS tE tP wI wP hx hLl hA
      exact br_c (fun _ => P) (fun _ => br_t hv P)
    | cons y c =>
      obtain ⟨nd, a, i, q⟩ := y
      have hv : v = nI nd := I.2.2.1.1
      have n64 : nd < 64 := I.2.2.1.2.1.1
      subst hv
      refine pk_le 384 st (fun z => by omega) (fun z => ip_m1br (y := nd + 1) rfl (by omega) (fun z => by omega) (fun _ => pk_lt 64 K (fun z => by omega) (fun _ => ?_)))
      refine xw_on (T := T) (N := N) (p0 := p0) (L := L) (m := m + 1) F hG hNb hM hx hK I hm ⟨?_, ?_⟩
      · intro x' K' tR' tS' tE' tP' wI' wP' v' c' L0' hx' hK' hm' I'
        exact nm_r (nI_1 st) (ih nn (st + 1) x' K' tR' tS' tE' tP' wI' wP' v' c' L0' (by omega) (by omega) (by omega) hx' hK' I')
      · intro x' tR' tS' tE' tP' wI' wP' hx' hl' hA'
        have P := hpost x' 65 tR' tS' tE' tP' wI' wP' hx' hl' hA'
        obtain ⟨nn, rfl⟩ : ∃ k, nn = k + 1 := ⟨nn - 1, by omega⟩
        exact nm_r (nI_1 st) (br_c (fun _ => P) (fun _ => br_c (fun _ => P) (fun _ => br_t (nI_lt (a := 64) (b := 65) (by decide) (by decide)) P)))
theorem xg_grow {post : St2 → Prop} {r p e x : Nat} (F : xk_F g t n R) (hG : pu_G g t n R N T) (hNb : ig_Nb g N) (hr : r < R) (hp : p ≤ n) (hM : ∀ s q, s < R → p ≤ q → q ≤ n → xk_P g t N n T mE mR mA s q) (hx : x ≤ 25) (hz : (T r p).1 = e + 1)
    (hpost : ∀ (x : Nat) (tR tS tE tP wI wP : ar_T), x ≤ 25 → tr_A (tr_L (tk_K g t n T) 65 [(r, p, e, 0)] 0) tR tS tE tP → post (nI R, nI cp, fz, nI (ig_A g), nI n, ip_m x, oR, nI (tr_L (tk_K g t n T) 65 [(r, p, e, 0)] 0).length, ip_e (ig_O g), ip_e (ig_C g), ip_eb (ig_B g), ip_e (ig_L g), ip_e (ig_H g), ip_e (ig_M g), nu, od, ro, ip_e t, mE, mR, mA, tR, tS, tE, tP, wI, wP)) :
    wpX_growTree post (nI R, nI cp, fz, nI (ig_A g), nI n, ip_m x, oR, 0, ip_e (ig_O g), ip_e (ig_C g), ip_eb (ig_B g), ip_e (ig_L g), ip_e (ig_H g), ip_e (ig_M g), nu, od, ro, ip_e t, mE, mR, mA, tR, tS, tE, tP, wI, wP) (nI r) (nI p) := by
  have hn24 := F.1
  have hR8 := F.2.1
  obtain ⟨w1, w2, w3, w4⟩ := pu_W hG hr hp (by omega)
  have hme : mE (r * 25 + p) = nI e := by rw [(hM r p hr (Nat.le_refl p) hp).1.1, hz]; rfl
  unfold wpX_growTree
  dsimp only
  refine xa_add (K := 0) (by omega) (by omega) (by omega) (fun z => by omega) (fun _ => ⟨385, ?_⟩)
  refine xg_loop (T := T) (N := N) (p0 := p) (L := tr_L (tk_K g t n T) 65 [(r, p, e, 0)] 0) F hG hNb hM (fun x K tR tS tE tP wI wP hx hl hA => ?_) 384 385 0 x 1 (upd tR 0 (nI r)) (upd tS 0 (nI p)) (upd tE 0 (mE (r * 25 + p))) (upd tP 0 (-1)) (upd wI 0 0) (upd wP 0 (nI p)) (nI 0) [(0, (pu_M g t n T r p).2.2, 0, p)] [(r, p, e, 0)] (by omega) ?_ (by omega) hx (by omega) ⟨rfl, ?_, ⟨rfl, ⟨Nat.zero_lt_succ 63, r, p, pk_us, pk_us, hr, Nat.le_refl p, Nat.le_refl p, hp, by omega, rfl, Nat.zero_le _, pk_us, pk_us, ?_⟩, ?_, pk_us⟩, ?_, ?_⟩
  · rw [← hl]
    exact hpost x tR tS tE tP wI wP hx hA
  · show 6 * (64 - 1) + ((5 - 0) + 0) ≤ 384
    omega
  · refine tr_Aadd (L := []) (tR := tR) (tS := tS) (tE := tE) (tP := tP) (fun j hj => absurd hj (Nat.not_lt_zero j)) (fun j hj => absurd hj (Nat.not_lt_zero j)) (fun j hj => absurd hj (Nat.not_lt_zero j)) (fun j hj => absurd hj (Nat.not_lt_zero j)) (fun _ => ?_) (tr_A0 _ _ _ _)
    exact ⟨pk_us, pk_us, pk_us.trans hme, pk_us⟩
  · exact tk_okA (ig_C g (pu_M g t n T r p).2.2) (4 * (pu_M g t n T r p).2.2) p (by rw [w3]; omega)
  · intro y hy
    exact absurd hy (by simp)
  · intro y hy
    rw [List.mem_singleton.mp hy]
    exact Nat.one_pos
  · rfl
/-- what a parse that is not refused answers and leaves -/
def xp_A (T : Nat → Nat → Nat × Nat) (K : Nat → Nat → List (Nat × Nat × Nat)) (r p : Nat) : List tr_T := if (T r p).1 = 0 then [] else tr_L K 65 [(r, p, (T r p).1 - 1, 0)] 0
theorem xp_parse {post : Int32 → St2 → Prop} {r p x : Nat} {rk rO : Nat → Nat} (F : xk_F g t n R) (hK : ig_K g R N rk) (hG : pu_G g t n R N T) (hO : ∀ k, k < R → rO k < R ∧ rk (rO k) = k) (hO' : ∀ r, r < R → rO (rk r) = r)
    (hr : r < R) (hp : p ≤ n) (hx : x ≤ 25)
    (h : ∀ (x : Nat) (mE mR mA tR tS tE tP wI wP : ar_T), x ≤ 25 → tr_A (xp_A T (tk_K g t n T) r p) tR tS tE tP → post (ip_m (T r p).1) (nI R, nI cp, 1, nI (ig_A g), nI n, ip_m x, ip_m (T r p).2, nI (xp_A T (tk_K g t n T) r p).length, ip_e (ig_O g), ip_e (ig_C g), ip_eb (ig_B g), ip_e (ig_L g), ip_e (ig_H g), ip_e (ig_M g), nu, od, ip_e rO, ip_e t, mE, mR, mA, tR, tS, tE, tP, wI, wP)) :
    wpX_parse post (nI R, nI cp, 1, nI (ig_A g), nI n, ip_m x, oR, oN, ip_e (ig_O g), ip_e (ig_C g), ip_eb (ig_B g), ip_e (ig_L g), ip_e (ig_H g), ip_e (ig_M g), nu, od, ip_e rO, ip_e t, mE, mR, mA, tR, tS, tE, tP, wI, wP) (nI r) (nI p) := by
  have hn24 := F.1
  have hR8 := F.2.1
  have hc : r * 25 + p < 200 := by omega
  have hi : vp_in (nI (r * 25 + p)) 200 := vp_in_nI hc (by decide)
  have ec : (nI (r * 25 + p)).toNatClampNeg = r * 25 + p := nI_clamp (by omega)
  refine br_f (by decide) (br_f (nI_pos (by omega)) (pk_le R r (fun z => by omega) (fun _ => br_f (by decide) (br_f (nI_pos (by omega)) (pk_le p n (fun _ => ?_) (fun z => by omega))))))
  refine xf_memo (T := T) (N := N) hx F hK hG hO hO' hp (fun x mE mR mA hx hM => nm_r (ip_l25 r p) ⟨hi, ?_⟩)
  obtain ⟨⟨q1, q2, q3⟩, _⟩ := hM r p hr (Nat.le_refl p) hp
  refine nm_r (e' := ip_m (T r p).2) (by rw [ec]; exact q2) ⟨hi, ?_⟩
  have q4 := q3.2
  have hb : (T r p).1 < 2 ^ 31 := by
    cases hz : (T r p).1 with
    | zero => decide
    | succ e => have := (q4 e hz).2.1; omega
  refine ip_m1br (y := (T r p).1) (by rw [ec]; exact q1) hb (fun z => ?_) (fun z => ?_)
  · have hl : xp_A T (tk_K g t n T) r p = [] := if_pos z
    have h' := h x mE mR mA tR tS tE tP wI wP hx (by rw [hl]; exact tr_A0 _ _ _ _)
    rw [hl, z] at h'
    exact h'
  · obtain ⟨e, he⟩ : ∃ e, (T r p).1 = e + 1 := ⟨(T r p).1 - 1, by omega⟩
    have hl : xp_A T (tk_K g t n T) r p = tr_L (tk_K g t n T) 65 [(r, p, e, 0)] 0 := by
      unfold xp_A
      rw [if_neg z, he]
      rfl
    refine xg_grow (T := T) (N := N) F hG hK.2.1 hr hp hM hx he (fun x tR tS tE tP wI wP hx hA => ⟨hi, ?_⟩)
    have h' := h x mE mR mA tR tS tE tP wI wP hx (by rw [hl]; exact hA)
    rw [hl] at h'
    rw [ec, q1]
    exact h'
end
