/-! the nodes that are read -/
def pn_v (L : List tr_T) (f : tr_T → Int32) : Nat → Int32
  | 0 => -1
  | i + 1 => if i < 64 then (match L[i]? with | some x => f x | none => -1) else -1
theorem pn_lo {L : List tr_T} {f : tr_T → Int32} {i : Nat} (h6 : i < 64) (hi : i < L.length) : pn_v L f (i + 1) = f L[i] := by
  show (if i < 64 then (match L[i]? with | some x => f x | none => -1) else -1) = f L[i]
  rw [if_pos h6, List.getElem?_eq_getElem hi]
theorem pn_no {L : List tr_T} {f : tr_T → Int32} {i : Nat} (hi : L.length ≤ i) : pn_v L f (i + 1) = -1 := by
  show (if i < 64 then (match L[i]? with | some x => f x | none => -1) else -1) = -1
  rw [List.getElem?_eq_none hi]
  split <;> rfl
theorem pn_hi {L : List tr_T} {f : tr_T → Int32} {i : Nat} (h6 : 64 ≤ i) : pn_v L f (i + 1) = -1 := by
  show (if i < 64 then (match L[i]? with | some x => f x | none => -1) else -1) = -1
  rw [if_neg (by omega)]
section
variable {g : ig_T} {t : Nat → Nat} {n R cp : Nat} {fz rc oR oN : Int32} {nu od ro mE mR mA tR tS tE tP wI wP : Nat → Int32}
theorem pn_nodeRule {post : Int32 → Prop} {L : List tr_T} {y : Nat} (hl : L.length ≤ 65) (hy : y ≤ 67) (hA : tr_A L tR tS tE tP) (h : post (pn_v L (fun x => nI x.1) y)) : wpX_nodeRule post (nI R, nI cp, fz, nI (ig_A g), nI n, rc, oR, nI L.length, ip_e (ig_O g), ip_e (ig_C g), ip_eb (ig_B g), ip_e (ig_L g), ip_e (ig_H g), ip_e (ig_M g), nu, od, ro, ip_e t, mE, mR, mA, tR, tS, tE, tP, wI, wP) (ip_m y) := by
  unfold wpX_nodeRule
  dsimp only
  cases y with
  | zero => exact br_t (by decide) (br_t rfl h)
  | succ i =>
    refine br_f (nI_pos (by omega)) (pk_le L.length i (fun z1 => br_t rfl ?_) (fun z1 => pk_le 64 i (fun z2 => br_t rfl ?_) (fun z2 => br_f (by decide) ⟨vp_in_nI z2 (by decide), ?_⟩)))
    · rw [pn_no z1] at h; exact h
    · rw [pn_hi z2] at h; exact h
    · rw [pn_lo z2 z1] at h
      rw [ip_ms, nI_clamp (by omega), (hA i L[i] (List.getElem?_eq_getElem z1) z2).1]
      exact h
theorem pn_nodeStart {post : Int32 → Prop} {L : List tr_T} {y : Nat} (hl : L.length ≤ 65) (hy : y ≤ 67) (hA : tr_A L tR tS tE tP) (h : post (pn_v L (fun x => nI x.2.1) y)) : wpX_nodeStart post (nI R, nI cp, fz, nI (ig_A g), nI n, rc, oR, nI L.length, ip_e (ig_O g), ip_e (ig_C g), ip_eb (ig_B g), ip_e (ig_L g), ip_e (ig_H g), ip_e (ig_M g), nu, od, ro, ip_e t, mE, mR, mA, tR, tS, tE, tP, wI, wP) (ip_m y) := by
  unfold wpX_nodeStart
  dsimp only
  cases y with
  | zero => exact br_t (by decide) (br_t rfl h)
  | succ i =>
    refine br_f (nI_pos (by omega)) (pk_le L.length i (fun z1 => br_t rfl ?_) (fun z1 => pk_le 64 i (fun z2 => br_t rfl ?_) (fun z2 => br_f (by decide) ⟨vp_in_nI z2 (by decide), ?_⟩)))
    · rw [pn_no z1] at h; exact h
    · rw [pn_hi z2] at h; exact h
    · rw [pn_lo z2 z1] at h
      rw [ip_ms, nI_clamp (by omega), (hA i L[i] (List.getElem?_eq_getElem z1) z2).2.1]
      exact h
theorem pn_nodeEnd {post : Int32 → Prop} {L : List tr_T} {y : Nat} (hl : L.length ≤ 65) (hy : y ≤ 67) (hA : tr_A L tR tS tE tP) (h : post (pn_v L (fun x => nI x.2.2.1) y)) : wpX_nodeEnd post (nI R, nI cp, fz, nI (ig_A g), nI n, rc, oR, nI L.length, ip_e (ig_O g), ip_e (ig_C g), ip_eb (ig_B g), ip_e (ig_L g), ip_e (ig_H g), ip_e (ig_M g), nu, od, ro, ip_e t, mE, mR, mA, tR, tS, tE, tP, wI, wP) (ip_m y) := by
  unfold wpX_nodeEnd
  dsimp only
  cases y with
  | zero => exact br_t (by decide) (br_t rfl h)
  | succ i =>
    refine br_f (nI_pos (by omega)) (pk_le L.length i (fun z1 => br_t rfl ?_) (fun z1 => pk_le 64 i (fun z2 => br_t rfl ?_) (fun z2 => br_f (by decide) ⟨vp_in_nI z2 (by decide), ?_⟩)))
    · rw [pn_no z1] at h; exact h
    · rw [pn_hi z2] at h; exact h
    · rw [pn_lo z2 z1] at h
      rw [ip_ms, nI_clamp (by omega), (hA i L[i] (List.getElem?_eq_getElem z1) z2).2.2.1]
      exact h
theorem pn_nodeParent {post : Int32 → Prop} {L : List tr_T} {y : Nat} (hl : L.length ≤ 65) (hy : y ≤ 67) (hA : tr_A L tR tS tE tP) (h : post (pn_v L (fun x => ip_m x.2.2.2) y)) : wpX_nodeParent post (nI R, nI cp, fz, nI (ig_A g), nI n, rc, oR, nI L.length, ip_e (ig_O g), ip_e (ig_C g), ip_eb (ig_B g), ip_e (ig_L g), ip_e (ig_H g), ip_e (ig_M g), nu, od, ro, ip_e t, mE, mR, mA, tR, tS, tE, tP, wI, wP) (ip_m y) := by
  unfold wpX_nodeParent
  dsimp only
  cases y with
  | zero => exact br_t (by decide) (br_t rfl h)
  | succ i =>
    refine br_f (nI_pos (by omega)) (pk_le L.length i (fun z1 => br_t rfl ?_) (fun z1 => pk_le 64 i (fun z2 => br_t rfl ?_) (fun z2 => br_f (by decide) ⟨vp_in_nI z2 (by decide), ?_⟩)))
    · rw [pn_no z1] at h; exact h
    · rw [pn_hi z2] at h; exact h
    · rw [pn_lo z2 z1] at h
      rw [ip_ms, nI_clamp (by omega), (hA i L[i] (List.getElem?_eq_getElem z1) z2).2.2.2]
      exact h
end
section
variable {g : ig_T} {t : Nat → Nat} {n R cp : Nat} {fz rc oR oN : Int32} {nu od ro mE mR mA tR tS tE tP wI wP : Nat → Int32} {rc' oR' : Int32} {mE' mR' mA' tR' tS' tE' tP' wI' wP' : Nat → Int32} {tb : Nat → Nat} {kc ks LL : Nat} {xs : Nat → Int32}
theorem pn_682 {L : List tr_T} (hl : L.length ≤ 65) (hA : tr_A L tR tS tE tP) (hB : tr_A L tR' tS' tE' tP') :
    ∃ fu, wL_law_682 (fun r => r = 1) LL xs kc ks (nI R) (nI cp) fz (nI (ig_A g)) (nI n) rc oR (nI L.length) (ip_e (ig_O g)) (ip_e (ig_C g)) (ip_eb (ig_B g)) (ip_e (ig_L g)) (ip_e (ig_H g)) (ip_e (ig_M g)) nu od ro (ip_e t) mE mR mA tR tS tE tP wI wP (nI R) (nI cp) fz (nI (ig_A g)) (nI n) rc' oR' (nI L.length) (ip_e (ig_O g)) (ip_e (ig_C g)) (ip_eb (ig_B g)) (ip_e (ig_L g)) (ip_e (ig_H g)) (ip_e (ig_M g)) nu od ro (ip_e tb) mE' mR' mA' tR' tS' tE' tP' wI' wP' fu (-1) := by
  have key : ∀ (d nn y : Nat), y + d = 67 → d < nn → wL_law_682 (fun r => r = 1) LL xs kc ks (nI R) (nI cp) fz (nI (ig_A g)) (nI n) rc oR (nI L.length) (ip_e (ig_O g)) (ip_e (ig_C g)) (ip_eb (ig_B g)) (ip_e (ig_L g)) (ip_e (ig_H g)) (ip_e (ig_M g)) nu od ro (ip_e t) mE mR mA tR tS tE tP wI wP (nI R) (nI cp) fz (nI (ig_A g)) (nI n) rc' oR' (nI L.length) (ip_e (ig_O g)) (ip_e (ig_C g)) (ip_eb (ig_B g)) (ip_e (ig_L g)) (ip_e (ig_H g)) (ip_e (ig_M g)) nu od ro (ip_e tb) mE' mR' mA' tR' tS' tE' tP' wI' wP' nn (ip_m y) := by
    intro d
    induction d with
    | zero =>
      intro nn y hy hnn
      obtain ⟨nn, rfl⟩ : ∃ k, nn = k + 1 := ⟨nn - 1, by omega⟩
      exact br_t ((ip_mlt (x := 66) (y := y) (by omega) (by omega)).mpr (by omega)) rfl
    | succ d ih =>
      intro nn y hy hnn
      obtain ⟨nn, rfl⟩ : ∃ k, nn = k + 1 := ⟨nn - 1, by omega⟩
      have hn : ¬ (65 : Int32) < ip_m y := fun z => by
        have := (ip_mlt (x := 66) (y := y) (by omega) (by omega)).mp z
        omega
      refine br_f hn (pn_nodeRule hl (by omega) hA (pn_nodeRule hl (by omega) hB (br_t rfl (pn_nodeStart hl (by omega) hA (pn_nodeStart hl (by omega) hB (br_t rfl (pn_nodeEnd hl (by omega) hA (pn_nodeEnd hl (by omega) hB (br_t rfl (pn_nodeParent hl (by omega) hA (pn_nodeParent hl (by omega) hB (br_t rfl (nm_r (e' := ip_m (y + 1)) ?_ (ih nn (y + 1) (by omega) (by omega)))))))))))))))
      cases y with
      | zero => rfl
      | succ i => rw [ip_ms, ip_ms, nI_1]
  exact ⟨68, key 67 68 0 (by omega) (by omega)⟩
end
/-! the facts of the object that was changed, behind compile -/
def pv_F (g : ig_T) (t : Nat → Nat) (n R cp x : Nat) (fz oR : Int32) (L : List tr_T) (rO : Nat → Nat) (tR tS tE tP : ar_T) : Prop :=
  xk_F g t n R ∧ 1 ≤ R ∧ n ≤ cp ∧ 8 ≤ cp ∧ cp ≤ 24 ∧ x ≤ 25 ∧ L.length ≤ 65 ∧ tr_A L tR tS tE tP ∧ ((fz = 0 ∧ oR = -1 ∧ L = []) ∨ (fz = 1 ∧ pv_C g R rO))
section
variable {g : ig_T} {t tb : Nat → Nat} {n m R cp x kc ks LL : Nat} {fz oR : Int32} {L : List tr_T} {N O : Nat → Bool} {rO : Nat → Nat} {mE mR mA tR tS tE tP wI wP : ar_T} {xs : Nat → Int32}
/-- the second object has the text: both parse, and all that is read is the same -/
theorem pe_end (hL : LL ≤ 260) (F : pv_F g t n R cp x fz oR L rO tR tS tE tP) (htb : tx_c tb) (ht : ∀ j, j < n → t j = tb j) (nn : Nat) :
    wL_law_576 (fun r => r = 1) LL xs (nI R) (nI n) kc ks (nn + 1) (nI n) (nI R) (nI cp) fz (nI (ig_A g)) (nI n) (ip_m x) oR (nI L.length) (ip_e (ig_O g)) (ip_e (ig_C g)) (ip_eb (ig_B g)) (ip_e (ig_L g)) (ip_e (ig_H g)) (ip_e (ig_M g)) (ip_eb N) (ip_eb O) (ip_e rO) (ip_e t) mE mR mA tR tS tE tP wI wP (nI R) (nI cp) fz (nI (ig_A g)) (nI n) (ip_m 0) (-1) 0 (ip_e (ig_O g)) (ip_e (ig_C g)) (ip_eb (ig_B g)) (ip_e (ig_L g)) (ip_e (ig_H g)) (ip_e (ig_M g)) (ip_eb N) (ip_eb O) (ip_e rO) (ip_e tb) (fun _ => 0) (fun _ => 0) (fun _ => 0) (fun _ => 0) (fun _ => 0) (fun _ => 0) (fun _ => 0) (fun _ => 0) (fun _ => 0) := by
  obtain ⟨F1, f2, f3, f4, f5, f6, f7, f8, f9⟩ := F
  have hn24 := F1.1
  have hR8 := F1.2.1
  have hV := F1.2.2.1
  refine pk_le n n (fun _ => ?_) (fun z => by omega)
  obtain ⟨v3, K3⟩ := lm_cell xs hL (k := 3) (by decide)
  refine K3 _ ?_
  obtain ⟨r, hr, Kr⟩ := lm_mod v3 (M := R) (by omega) (by omega)
  refine Kr _ ?_
  obtain ⟨v4, K4⟩ := lm_cell xs hL (k := 4) (by decide)
  refine K4 _ ?_
  obtain ⟨p, hp, Kp⟩ := lm_mod v4 (M := n + 1) (by omega) (by omega)
  rw [nI_1 n]
  refine Kp _ ?_
  rcases f9 with ⟨rfl, rfl, rfl⟩ | ⟨rfl, N0, rk, hK, hO, hO'⟩
  · exact br_t rfl (br_t rfl (br_t rfl (br_t rfl (br_t rfl (pn_682 (L := []) (by decide) (tr_A0 _ _ _ _) (tr_A0 _ _ _ _))))))
  · obtain ⟨G, hG⟩ := pu_ex t n hV hK
    have hG' := tc_G ht hG
    have F1' : xk_F g tb n R := ⟨hn24, hR8, hV, htb⟩
    have hlen : (xp_A G (tk_K g t n G) r p).length ≤ 65 := by
      unfold xp_A
      by_cases e : (G r p).1 = 0
      · rw [if_pos e]; decide
      · rw [if_neg e]; exact tr_Lle _ 65 _ _
    refine xp_parse (T := G) (N := N0) F1 hK hG hO hO' hr (by omega) f6 (fun x mE mR mA tR tS tE tP wI wP hx hT => ?_)
    refine xp_parse (T := G) (N := N0) F1' hK hG' hO hO' hr (by omega) (by decide) (fun x' mE' mR' mA' tR' tS' tE' tP' wI' wP' hx' hT' => ?_)
    rw [← tc_K ht] at hT' ⊢
    exact br_t rfl (br_t rfl (br_t rfl (pn_682 hlen hT hT')))
theorem pe_576 (hL : LL ≤ 260) (F : pv_F g t n R cp x fz oR L rO tR tS tE tP) : ∀ (d nn m : Nat) (tb : Nat → Nat), m + d = n → d < nn → tx_c tb → (∀ j, j < m → t j = tb j) →
    wL_law_576 (fun r => r = 1) LL xs (nI R) (nI n) kc ks nn (nI m) (nI R) (nI cp) fz (nI (ig_A g)) (nI n) (ip_m x) oR (nI L.length) (ip_e (ig_O g)) (ip_e (ig_C g)) (ip_eb (ig_B g)) (ip_e (ig_L g)) (ip_e (ig_H g)) (ip_e (ig_M g)) (ip_eb N) (ip_eb O) (ip_e rO) (ip_e t) mE mR mA tR tS tE tP wI wP (nI R) (nI cp) fz (nI (ig_A g)) (nI m) (ip_m 0) (-1) 0 (ip_e (ig_O g)) (ip_e (ig_C g)) (ip_eb (ig_B g)) (ip_e (ig_L g)) (ip_e (ig_H g)) (ip_e (ig_M g)) (ip_eb N) (ip_eb O) (ip_e rO) (ip_e tb) (fun _ => 0) (fun _ => 0) (fun _ => 0) (fun _ => 0) (fun _ => 0) (fun _ => 0) (fun _ => 0) (fun _ => 0) (fun _ => 0) := by
  have hn24 := F.1.1
  have hnc := F.2.2.1
  have hcp := F.2.2.2.2.1
  intro d
  induction d with
  | zero =>
    intro nn m tb hm hnn htb ht
    obtain ⟨nn, rfl⟩ : ∃ k, nn = k + 1 := ⟨nn - 1, by omega⟩
    obtain rfl : m = n := by omega
    exact pe_end hL F htb ht nn
  | succ d ih =>
    intro nn m tb hm hnn htb ht
    obtain ⟨nn, rfl⟩ : ∃ k, nn = k + 1 := ⟨nn - 1, by omega⟩
    have hc := F.1.2.2.2 m
    refine pk_le n m (fun z => by omega) (fun _ => br_f (nI_pos (by omega)) (pk_lt m n (fun _ => ⟨vp_in_nI (by omega) (by decide), ?_⟩) (fun z => by omega)))
    rw [ip_ce t (by omega)]
    dsimp only
    rw [pk_char, pk_tn (by omega), Nat.mod_eq_of_lt hc]
    refine xe_ins (pos := m) hcp (by omega) (Nat.le_refl m) hc htb (nm_r (nI_1 m) ?_)
    rw [Nat.sub_self]
    refine ih nn (m + 1) (ip_u tb m (t m)) (by omega) (by omega) (tx_u htb hc) (fun j hj => ?_)
    by_cases e : j = m
    · rw [e, ip_us]
    · rw [ip_un e]; exact ht j (by omega)
theorem pe_567 (hL : LL ≤ 260) (F : pv_F g t n R cp x fz oR L rO tR tS tE tP) : wL_law_567 (fun r => r = 1) LL xs (nI R) kc ks (nI R) (nI cp) fz (nI (ig_A g)) (nI n) (ip_m x) oR (nI L.length) (ip_e (ig_O g)) (ip_e (ig_C g)) (ip_eb (ig_B g)) (ip_e (ig_L g)) (ip_e (ig_H g)) (ip_e (ig_M g)) (ip_eb N) (ip_eb O) (ip_e rO) (ip_e t) mE mR mA tR tS tE tP wI wP (nI R) (nI cp) fz (nI (ig_A g)) (nI 0) (ip_m 0) (-1) 0 (ip_e (ig_O g)) (ip_e (ig_C g)) (ip_eb (ig_B g)) (ip_e (ig_L g)) (ip_e (ig_H g)) (ip_e (ig_M g)) (ip_eb N) (ip_eb O) (ip_e rO) (ip_e (fun _ => 0)) (fun _ => 0) (fun _ => 0) (fun _ => 0) (fun _ => 0) (fun _ => 0) (fun _ => 0) (fun _ => 0) (fun _ => 0) (fun _ => 0) :=
  ⟨n + 1, pe_576 hL F n (n + 1) 0 (fun _ => 0) (by omega) (by omega) (fun j => by show 0 < 65536; decide) (fun j hj => absurd hj (Nat.not_lt_zero j))⟩
/-- the facts behind an edit -/
theorem pv_ed {t' : Nat → Nat} {n' : Nat} (F : pv_F g t n R cp x fz oR L rO tR tS tE tP) (hn : n' ≤ cp) (ht : tx_c t') : pv_F g t' n' R cp x fz (-1) [] rO tR tS tE tP := by
  obtain ⟨⟨a1, a2, a3, a4⟩, f2, f3, f4, f5, f6, f7, f8, f9⟩ := F
  refine ⟨⟨by omega, a2, a3, ht⟩, f2, hn, f4, f5, f6, by decide, tr_A0 _ _ _ _, ?_⟩
  rcases f9 with ⟨h1, _, _⟩ | h
  · exact Or.inl ⟨h1, rfl, rfl⟩
  · exact Or.inr h
end
/-- what a step may leave -/
def pv_go (g : ig_T) (R cp : Nat) (fz : Int32) (N O : Nat → Bool) (rO : Nat → Nat) (P : St2 → Prop) : Prop :=
  ∀ (t : Nat → Nat) (n x : Nat) (oR : Int32) (L : List tr_T) (mE mR mA tR tS tE tP wI wP : ar_T), pv_F g t n R cp x fz oR L rO tR tS tE tP → P (nI R, nI cp, fz, nI (ig_A g), nI n, ip_m x, oR, nI L.length, ip_e (ig_O g), ip_e (ig_C g), ip_eb (ig_B g), ip_e (ig_L g), ip_e (ig_H g), ip_e (ig_M g), ip_eb N, ip_eb O, ip_e rO, ip_e t, mE, mR, mA, tR, tS, tE, tP, wI, wP)
section
variable {g : ig_T} {t : Nat → Nat} {n R cp x : Nat} {fz oR : Int32} {L : List tr_T} {N O : Nat → Bool} {rO : Nat → Nat} {mE mR mA tR tS tE tP wI wP : ar_T}
theorem ps_ins {post : Int32 → St2 → Prop} {i c : Nat} (hi : i < 2 ^ 31) (hc : c < 65536) (F : pv_F g t n R cp x fz oR L rO tR tS tE tP) (h : ∀ r, pv_go g R cp fz N O rO (post r)) : wpX_insertChar post (nI R, nI cp, fz, nI (ig_A g), nI n, ip_m x, oR, nI L.length, ip_e (ig_O g), ip_e (ig_C g), ip_eb (ig_B g), ip_e (ig_L g), ip_e (ig_H g), ip_e (ig_M g), ip_eb N, ip_eb O, ip_e rO, ip_e t, mE, mR, mA, tR, tS, tE, tP, wI, wP) (nI i) (nI c) := by
  have hcp := F.2.2.2.2.1
  have hnc := F.2.2.1
  have z : ¬ nI i < 0 := nI_pos hi
  by_cases z1 : n < i
  · exact br_f z (pk_lt n i (fun _ => h 0 t n x oR L mE mR mA tR tS tE tP wI wP F) (fun w => by omega))
  · by_cases z2 : n < cp
    · refine xe_ins hcp z2 (by omega) hc F.1.2.2.2 ?_
      exact h 1 _ (n + 1) x (-1) [] mE mR mA tR tS tE tP wI wP (pv_ed F (by omega) (tx_u (tx_ic _ _ _ F.1.2.2.2) hc))
    · exact br_f z (pk_lt n i (fun w => by omega) (fun _ => pk_lt n cp (fun w => by omega) (fun _ => h 0 t n x oR L mE mR mA tR tS tE tP wI wP F)))
theorem ps_del {post : Int32 → St2 → Prop} {a b : Int32} (F : pv_F g t n R cp x fz oR L rO tR tS tE tP) (h : ∀ r, pv_go g R cp fz N O rO (post r)) : wpX_deleteRange post (nI R, nI cp, fz, nI (ig_A g), nI n, ip_m x, oR, nI L.length, ip_e (ig_O g), ip_e (ig_C g), ip_eb (ig_B g), ip_e (ig_L g), ip_e (ig_H g), ip_e (ig_M g), ip_eb N, ip_eb O, ip_e rO, ip_e t, mE, mR, mA, tR, tS, tE, tP, wI, wP) a b := by
  have hnc := F.2.2.1
  exact xe_del F.1.1 F.1.2.2.2 (fun p l _ _ hl => h 1 _ _ x (-1) [] mE mR mA tR tS tE tP wI wP (pv_ed F (by omega) (tx_dc _ _ _ _ F.1.2.2.2))) (fun _ => h 0 t n x oR L mE mR mA tR tS tE tP wI wP F)
theorem ps_rep {post : Int32 → St2 → Prop} {a b : Int32} {c : Nat} (hc : c < 65536) (F : pv_F g t n R cp x fz oR L rO tR tS tE tP) (h : ∀ r, pv_go g R cp fz N O rO (post r)) : wpX_replaceRange post (nI R, nI cp, fz, nI (ig_A g), nI n, ip_m x, oR, nI L.length, ip_e (ig_O g), ip_e (ig_C g), ip_eb (ig_B g), ip_e (ig_L g), ip_e (ig_H g), ip_e (ig_M g), ip_eb N, ip_eb O, ip_e rO, ip_e t, mE, mR, mA, tR, tS, tE, tP, wI, wP) a b (nI c) := by
  have hnc := F.2.2.1
  exact xe_rep F.1.1 hc F.1.2.2.2 (fun p l _ _ hl => h 1 _ _ x (-1) [] mE mR mA tR tS tE tP wI wP (pv_ed F (by omega) (tx_dc _ _ _ _ (tx_u F.1.2.2.2 hc)))) (fun _ => h 0 t n x oR L mE mR mA tR tS tE tP wI wP F)
theorem ps_parse {post : Int32 → St2 → Prop} {r p : Nat} (hr : r < R) (hp : p ≤ n) (F : pv_F g t n R cp x fz oR L rO tR tS tE tP) (h : ∀ r, pv_go g R cp fz N O rO (post r)) : wpX_parse post (nI R, nI cp, fz, nI (ig_A g), nI n, ip_m x, oR, nI L.length, ip_e (ig_O g), ip_e (ig_C g), ip_eb (ig_B g), ip_e (ig_L g), ip_e (ig_H g), ip_e (ig_M g), ip_eb N, ip_eb O, ip_e rO, ip_e t, mE, mR, mA, tR, tS, tE, tP, wI, wP) (nI r) (nI p) := by
  obtain ⟨F1, f2, f3, f4, f5, f6, f7, f8, f9⟩ := id F
  rcases f9 with ⟨rfl, rfl, rfl⟩ | ⟨rfl, N0, rk, hK, hO, hO'⟩
  · exact br_t rfl (h (-2) t n x (-1) [] mE mR mA tR tS tE tP wI wP F)
  · obtain ⟨G, hG⟩ := pu_ex t n F1.2.2.1 hK
    refine xp_parse (T := G) (N := N0) F1 hK hG hO hO' hr hp f6 (fun x mE mR mA tR tS tE tP wI wP hx hT => ?_)
    refine h _ t n x _ (xp_A G (tk_K g t n G) r p) mE mR mA tR tS tE tP wI wP ⟨F1, f2, f3, f4, f5, hx, ?_, hT, Or.inr ⟨rfl, N0, rk, hK, hO, hO'⟩⟩
    unfold xp_A
    by_cases e : (G r p).1 = 0
    · rw [if_pos e]; decide
    · rw [if_neg e]; exact tr_Lle _ 65 _ _
end
section
variable {g : ig_T} {R cp kc ks LL : Nat} {fz : Int32} {N O : Nat → Bool} {rO : Nat → Nat} {xs : Nat → Int32}
/-- the steps on the first object alone -/
theorem pw_378 (hL : LL ≤ 260) : ∀ (d nn i k : Nat) (t : Nat → Nat) (n x : Nat) (oR : Int32) (L : List tr_T) (mE mR mA tR tS tE tP wI wP : ar_T), i + d = 300 → d < nn → k < 2000 → pv_F g t n R cp x fz oR L rO tR tS tE tP →
    wL_law_378 (fun r => r = 1) LL xs (nI R) kc ks nn (nI k) (nI i) (nI R) (nI cp) fz (nI (ig_A g)) (nI n) (ip_m x) oR (nI L.length) (ip_e (ig_O g)) (ip_e (ig_C g)) (ip_eb (ig_B g)) (ip_e (ig_L g)) (ip_e (ig_H g)) (ip_e (ig_M g)) (ip_eb N) (ip_eb O) (ip_e rO) (ip_e t) mE mR mA tR tS tE tP wI wP (nI R) (nI cp) fz (nI (ig_A g)) (nI 0) (ip_m 0) (-1) 0 (ip_e (ig_O g)) (ip_e (ig_C g)) (ip_eb (ig_B g)) (ip_e (ig_L g)) (ip_e (ig_H g)) (ip_e (ig_M g)) (ip_eb N) (ip_eb O) (ip_e rO) (ip_e (fun _ => 0)) (fun _ => 0) (fun _ => 0) (fun _ => 0) (fun _ => 0) (fun _ => 0) (fun _ => 0) (fun _ => 0) (fun _ => 0) (fun _ => 0) := by
  intro d
  induction d with
  | zero =>
    intro nn i k t n x oR L mE mR mA tR tS tE tP wI wP hi hnn hk F
    obtain ⟨nn, rfl⟩ : ∃ k, nn = k + 1 := ⟨nn - 1, by omega⟩
    exact pk_le LL k (fun _ => pe_567 hL F) (fun _ => pk_le 300 i (fun _ => pe_567 hL F) (fun z => by omega))
  | succ d ih =>
    intro nn i k t n x oR L mE mR mA tR tS tE tP wI wP hi hnn hk F
    obtain ⟨nn, rfl⟩ : ∃ k, nn = k + 1 := ⟨nn - 1, by omega⟩
    have hn24 := F.1.1
    have hR8 := F.1.2.1
    have hR1 := F.2.1
    refine pk_le LL k (fun _ => pe_567 hL F) (fun hk' => pk_le 300 i (fun z => by omega) (fun _ => ?_))
    have next : ∀ (r : Int32), pv_go g R cp fz N O rO (fun u => match u with | (b1, b2, b3, b4, b5, b6, b7, b8, b9, b10, b11, b12, b13, b14, b15, b16, b17, b18, b19, b20, b21, b22, b23, b24, b25, b26, b27) => wL_law_378 (fun r => r = 1) LL xs (nI R) kc ks nn (nI (k + 3)) (nI (i + 1)) b1 b2 b3 b4 b5 b6 b7 b8 b9 b10 b11 b12 b13 b14 b15 b16 b17 b18 b19 b20 b21 b22 b23 b24 b25 b26 b27 (nI R) (nI cp) fz (nI (ig_A g)) (nI 0) (ip_m 0) (-1) 0 (ip_e (ig_O g)) (ip_e (ig_C g)) (ip_eb (ig_B g)) (ip_e (ig_L g)) (ip_e (ig_H g)) (ip_e (ig_M g)) (ip_eb N) (ip_eb O) (ip_e rO) (ip_e (fun _ => 0)) (fun _ => 0) (fun _ => 0) (fun _ => 0) (fun _ => 0) (fun _ => 0) (fun _ => 0) (fun _ => 0) (fun _ => 0) (fun _ => 0)) :=
      fun _ t n x oR L mE mR mA tR tS tE tP wI wP F' => ih nn (i + 1) (k + 3) t n x oR L mE mR mA tR tS tE tP wI wP (by omega) (by omega) (by omega) F'
    obtain ⟨v1, K1⟩ := lm_cell xs hL (k := k) (by omega)
    refine K1 _ ?_
    obtain ⟨op, hop, Ko⟩ := lm_mod v1 (M := 5) (by decide) (by decide)
    refine Ko _ ?_
    obtain ⟨vx, Kx⟩ := lm_cell xs hL (k := k + 1) (by omega)
    rw [nI_1 k]
    refine Kx _ ?_
    obtain ⟨vy, Ky⟩ := lm_cell xs hL (k := k + 2) (by omega)
    rw [show nI k + 2 = nI (k + 2) from nI_add k 2]
    refine Ky _ (nm_r (e' := nI (k + 3)) (nI_add k 3) (nm_r (nI_1 i) ?_))
    refine pk_lt 1 op (fun _ => pk_eq op 2 (fun _ => ?_) (fun _ => pk_eq op 3 (fun _ => ?_) (fun _ => ?_))) (fun _ => ?_)
    · obtain ⟨a, ha, Ka⟩ := lm_mod vx (M := n + 1) (by omega) (by omega)
      rw [nI_1 n]
      refine Ka _ ?_
      obtain ⟨b, hb, Kb⟩ := lm_mod vy (M := 3) (by decide) (by decide)
      exact Kb _ (ps_del F next)
    · obtain ⟨a, ha, Ka⟩ := lm_mod vx (M := n + 1) (by omega) (by omega)
      rw [nI_1 n]
      refine Ka _ ?_
      obtain ⟨b, hb, Kb⟩ := lm_mod vy (M := 3) (by decide) (by decide)
      refine Kb _ ?_
      obtain ⟨c, hc, Kc⟩ := lm_mod (vy >>> ((2 : Int32) &&& 31)) (M := 4) (by decide) (by decide)
      refine Kc _ ?_
      rw [pk_char]
      exact ps_rep (Nat.mod_lt _ (by decide)) F next
    · obtain ⟨a, ha, Ka⟩ := lm_mod vx (M := R) (by omega) (by omega)
      refine Ka _ ?_
      obtain ⟨b, hb, Kb⟩ := lm_mod vy (M := n + 1) (by omega) (by omega)
      rw [nI_1 n]
      exact Kb _ (ps_parse ha (by omega) F next)
    · obtain ⟨a, ha, Ka⟩ := lm_mod vx (M := n + 2) (by omega) (by omega)
      rw [show nI n + 2 = nI (n + 2) from nI_add n 2]
      refine Ka _ ?_
      obtain ⟨b, hb, Kb⟩ := lm_mod vy (M := 4) (by decide) (by decide)
      refine Kb _ ?_
      rw [pk_char]
      exact ps_ins (by omega) (Nat.mod_lt _ (by decide)) F next
end
