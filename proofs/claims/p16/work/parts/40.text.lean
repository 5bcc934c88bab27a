/-! the text and its edits -/
def tx_i (pos : Nat) : Nat → (Nat → Nat) → (Nat → Nat)
  | 0, t => t
  | d + 1, t => tx_i pos d (ip_u t (pos + d + 1) (t (pos + d)))
def tx_d (len : Nat) : Nat → Nat → (Nat → Nat) → (Nat → Nat)
  | 0, _, t => t
  | d + 1, j, t => tx_d len d (j + 1) (ip_u t j (t (j + len)))
def tx_c (t : Nat → Nat) : Prop := ∀ j, t j < 65536
theorem tx_u {t : Nat → Nat} {k v : Nat} (h : tx_c t) (hv : v < 65536) : tx_c (ip_u t k v) := by
  intro j
  by_cases e : j = k
  · rw [e, ip_us]; exact hv
  · rw [ip_un e]; exact h j
theorem tx_ic (pos : Nat) : ∀ d t, tx_c t → tx_c (tx_i pos d t) := by
  intro d
  induction d with
  | zero => intro t h; exact h
  | succ d ih => intro t h; exact ih _ (tx_u h (h _))
theorem tx_dc (len : Nat) : ∀ d j t, tx_c t → tx_c (tx_d len d j t) := by
  intro d
  induction d with
  | zero => intro j t h; exact h
  | succ d ih => intro j t h; exact ih _ _ (tx_u h (h _))
section
variable {g : ig_T} {t : Nat → Nat} {n R cp : Nat} {fz rc oR oN : Int32} {nu od ro mE mR mA tR tS tE tP wI wP : Nat → Int32}
theorem xe_30 {post : Int32 → St2 → Prop} {pos c : Nat} (hn : n < 24) (hp : pos ≤ n) (hc : c < 65536) : ∀ (d nn : Nat) (t : Nat → Nat), d < nn → pos + d ≤ n → tx_c t → post 1 (nI R, nI cp, fz, nI (ig_A g), nI (n + 1), rc, -1, 0, ip_e (ig_O g), ip_e (ig_C g), ip_eb (ig_B g), ip_e (ig_L g), ip_e (ig_H g), ip_e (ig_M g), nu, od, ro, ip_e (ip_u (tx_i pos d t) pos c), mE, mR, mA, tR, tS, tE, tP, wI, wP) →
    wX_insertChar_30 post (nI pos) (nI c) (nI R) (nI cp) fz (nI (ig_A g)) (nI n) rc oR oN nn (nI (pos + d)) (ip_e (ig_O g)) (ip_e (ig_C g)) (ip_eb (ig_B g)) (ip_e (ig_L g)) (ip_e (ig_H g)) (ip_e (ig_M g)) nu od ro (ip_e t) mE mR mA tR tS tE tP wI wP := by
  intro d
  induction d with
  | zero =>
    intro nn t hnn hd ht h
    obtain ⟨nn, rfl⟩ : ∃ k, nn = k + 1 := ⟨nn - 1, by omega⟩
    refine pk_le (pos + 0) pos (fun _ => ⟨vp_in_nI (by omega) (by decide), nm_r (e' := ip_e (ip_u t pos c)) ?_ (nm_r (nI_1 n) h)⟩) (fun z => by omega)
    rw [nI_clamp (by omega), ip_nch hc]
    exact ip_ue t pos c
  | succ d ih =>
    intro nn t hnn hd ht h
    obtain ⟨nn, rfl⟩ : ∃ k, nn = k + 1 := ⟨nn - 1, by omega⟩
    have e1 : nI (pos + (d + 1)) - 1 = nI (pos + d) := nI_pred (pos + d)
    refine pk_le (pos + (d + 1)) pos (fun z => by omega) (fun _ => ⟨?_, vp_in_nI (by omega) (by decide), nm_r (e' := ip_e (ip_u t (pos + d + 1) (t (pos + d)))) ?_ (nm_r (pk_m1 (pos + d)) ?_)⟩)
    · rw [e1]; exact vp_in_nI (by omega) (by decide)
    · rw [e1, nI_clamp (by omega), ip_ce _ (by omega), ip_nch (ht _)]
      exact ip_ue t _ _
    · exact ih nn _ (by omega) (by omega) (tx_u ht (ht _)) h
theorem xe_ins {post : Int32 → St2 → Prop} {pos c : Nat} (hcp : cp ≤ 24) (hn : n < cp) (hp : pos ≤ n) (hc : c < 65536) (ht : tx_c t) (h : post 1 (nI R, nI cp, fz, nI (ig_A g), nI (n + 1), rc, -1, 0, ip_e (ig_O g), ip_e (ig_C g), ip_eb (ig_B g), ip_e (ig_L g), ip_e (ig_H g), ip_e (ig_M g), nu, od, ro, ip_e (ip_u (tx_i pos (n - pos) t) pos c), mE, mR, mA, tR, tS, tE, tP, wI, wP)) : wpX_insertChar post (nI R, nI cp, fz, nI (ig_A g), nI n, rc, oR, oN, ip_e (ig_O g), ip_e (ig_C g), ip_eb (ig_B g), ip_e (ig_L g), ip_e (ig_H g), ip_e (ig_M g), nu, od, ro, ip_e t, mE, mR, mA, tR, tS, tE, tP, wI, wP) (nI pos) (nI c) := by
  refine br_f (nI_pos (by omega)) (pk_lt n pos (fun z => by omega) (fun _ => pk_lt n cp (fun _ => ⟨n - pos + 1, ?_⟩) (fun z => by omega)))
  have := xe_30 (post := post) (g := g) (R := R) (cp := cp) (fz := fz) (rc := rc) (oR := oR) (oN := oN) (nu := nu) (od := od) (ro := ro) (mE := mE) (mR := mR) (mA := mA) (tR := tR) (tS := tS) (tE := tE) (tP := tP) (wI := wI) (wP := wP) (by omega) hp hc (n - pos) (n - pos + 1) t (by omega) (by omega) ht h
  rw [show pos + (n - pos) = n by omega] at this
  exact this
theorem xe_4 {post : St2 → Prop} {len : Nat} (hn : n ≤ 24) : ∀ (d nn j : Nat) (t : Nat → Nat), j + len + d = n → d < nn → tx_c t → post (nI R, nI cp, fz, nI (ig_A g), nI (n - len), rc, oR, oN, ip_e (ig_O g), ip_e (ig_C g), ip_eb (ig_B g), ip_e (ig_L g), ip_e (ig_H g), ip_e (ig_M g), nu, od, ro, ip_e (tx_d len d j t), mE, mR, mA, tR, tS, tE, tP, wI, wP) → wX_closeGap_4 post (nI len) (nI R) (nI cp) fz (nI (ig_A g)) (nI n) rc oR oN nn (nI (j + len)) (ip_e (ig_O g)) (ip_e (ig_C g)) (ip_eb (ig_B g)) (ip_e (ig_L g)) (ip_e (ig_H g)) (ip_e (ig_M g)) nu od ro (ip_e t) mE mR mA tR tS tE tP wI wP := by
  intro d
  induction d with
  | zero =>
    intro nn j t hj hnn ht h
    obtain ⟨nn, rfl⟩ : ∃ k, nn = k + 1 := ⟨nn - 1, by omega⟩
    exact pk_le n (j + len) (fun _ => nm_r (pk_sub (by omega)) h) (fun z => by omega)
  | succ d ih =>
    intro nn j t hj hnn ht h
    obtain ⟨nn, rfl⟩ : ∃ k, nn = k + 1 := ⟨nn - 1, by omega⟩
    have e1 : nI (j + len) - nI len = nI j := by rw [pk_sub (by omega), Nat.add_sub_cancel]
    refine pk_le n (j + len) (fun z => by omega) (fun _ => ⟨vp_in_nI (by omega) (by decide), ?_, nm_r (e' := ip_e (ip_u t j (t (j + len)))) ?_ (nm_r (e' := nI (j + 1 + len)) ?_ ?_)⟩)
    · rw [e1]; exact vp_in_nI (by omega) (by decide)
    · rw [e1, nI_clamp (by omega), ip_ce _ (by omega), ip_nch (ht _)]
      exact ip_ue t _ _
    · rw [nI_1, show j + len + 1 = j + 1 + len by omega]
    · exact ih nn (j + 1) _ (by omega) (by omega) (tx_u ht (ht _)) h
theorem xe_gap {post : St2 → Prop} {pos len : Nat} (hn : n ≤ 24) (hp : pos + len ≤ n) (ht : tx_c t) (h : post (nI R, nI cp, fz, nI (ig_A g), nI (n - len), rc, oR, oN, ip_e (ig_O g), ip_e (ig_C g), ip_eb (ig_B g), ip_e (ig_L g), ip_e (ig_H g), ip_e (ig_M g), nu, od, ro, ip_e (tx_d len (n - (pos + len)) pos t), mE, mR, mA, tR, tS, tE, tP, wI, wP)) : wpX_closeGap post (nI R, nI cp, fz, nI (ig_A g), nI n, rc, oR, oN, ip_e (ig_O g), ip_e (ig_C g), ip_eb (ig_B g), ip_e (ig_L g), ip_e (ig_H g), ip_e (ig_M g), nu, od, ro, ip_e t, mE, mR, mA, tR, tS, tE, tP, wI, wP) (nI pos) (nI len) :=
  nm_r (nI_add pos len) ⟨n - (pos + len) + 1, xe_4 hn (n - (pos + len)) _ pos t (by omega) (by omega) ht h⟩
/-- a range of the text -/
def tx_r (n : Nat) (a b : Int32) : Prop := ∃ p l, a = nI p ∧ b = nI (l + 1) ∧ p + l < n
theorem xe_range {post : Int32 → Prop} {a b : Int32} (hn : n ≤ 24) (h1 : tx_r n a b → post 1) (h0 : ¬ tx_r n a b → post 0) : wpX_isTextRange post (nI R, nI cp, fz, nI (ig_A g), nI n, rc, oR, oN, ip_e (ig_O g), ip_e (ig_C g), ip_eb (ig_B g), ip_e (ig_L g), ip_e (ig_H g), ip_e (ig_M g), nu, od, ro, ip_e t, mE, mR, mA, tR, tS, tE, tP, wI, wP) a b := by
  refine br_c (fun z => h0 (fun w => ?_)) (fun z => ?_)
  · obtain ⟨p, l, rfl, _, hl⟩ := w
    exact nI_pos (by omega) z
  · obtain ⟨p, hp, rfl⟩ := nI_of z
    refine pk_lt n p (fun z2 => h0 (fun w => ?_)) (fun z2 => br_c (fun z3 => h0 (fun w => ?_)) (fun z3 => ?_))
    · obtain ⟨p', l, e, _, hl⟩ := w
      have := (nI_eq hp (by omega)).mp e
      omega
    · obtain ⟨p', l, e, rfl, hl⟩ := w
      exact nI_nlt (a := l + 1) (b := 1) (by omega) (by omega) z3
    · have z4 : ¬ b < 0 := fun w => z3 (Int32.lt_trans w (by decide))
      obtain ⟨l, hl, rfl⟩ := nI_of z4
      have hl1 : 1 ≤ l := by
        rcases Nat.lt_or_ge l 1 with w | w
        · exact absurd (nI_lt (a := l) (b := 1) w (by decide)) z3
        · exact w
      rw [pk_sub (by omega)]
      refine pk_lt (n - p) l (fun z5 => h0 (fun w => ?_)) (fun z5 => h1 ⟨p, l - 1, rfl, by rw [show l - 1 + 1 = l by omega], by omega⟩)
      obtain ⟨p', l', e, e', hl'⟩ := w
      have e1 := (nI_eq hp (by omega)).mp e
      have e2 := (nI_eq hl (by omega)).mp e'
      omega
theorem xe_del {post : Int32 → St2 → Prop} {a b : Int32} (hn : n ≤ 24) (ht : tx_c t) (h1 : ∀ p l, a = nI p → b = nI (l + 1) → p + l < n → post 1 (nI R, nI cp, fz, nI (ig_A g), nI (n - (l + 1)), rc, -1, 0, ip_e (ig_O g), ip_e (ig_C g), ip_eb (ig_B g), ip_e (ig_L g), ip_e (ig_H g), ip_e (ig_M g), nu, od, ro, ip_e (tx_d (l + 1) (n - (p + (l + 1))) p t), mE, mR, mA, tR, tS, tE, tP, wI, wP)) (h0 : ¬ tx_r n a b → post 0 (nI R, nI cp, fz, nI (ig_A g), nI n, rc, oR, oN, ip_e (ig_O g), ip_e (ig_C g), ip_eb (ig_B g), ip_e (ig_L g), ip_e (ig_H g), ip_e (ig_M g), nu, od, ro, ip_e t, mE, mR, mA, tR, tS, tE, tP, wI, wP)) : wpX_deleteRange post (nI R, nI cp, fz, nI (ig_A g), nI n, rc, oR, oN, ip_e (ig_O g), ip_e (ig_C g), ip_eb (ig_B g), ip_e (ig_L g), ip_e (ig_H g), ip_e (ig_M g), nu, od, ro, ip_e t, mE, mR, mA, tR, tS, tE, tP, wI, wP) a b := by
  unfold wpX_deleteRange
  dsimp only
  refine xe_range hn (fun z => br_f (by decide) ?_) (fun z => br_t rfl (h0 z))
  obtain ⟨p, l, rfl, rfl, hl⟩ := z
  exact xe_gap hn (by omega) ht (h1 p l rfl rfl hl)
theorem xe_rep {post : Int32 → St2 → Prop} {a b : Int32} {c : Nat} (hn : n ≤ 24) (hc : c < 65536) (ht : tx_c t) (h1 : ∀ p l, a = nI p → b = nI (l + 1) → p + l < n → post 1 (nI R, nI cp, fz, nI (ig_A g), nI (n - l), rc, -1, 0, ip_e (ig_O g), ip_e (ig_C g), ip_eb (ig_B g), ip_e (ig_L g), ip_e (ig_H g), ip_e (ig_M g), nu, od, ro, ip_e (tx_d l (n - (p + 1 + l)) (p + 1) (ip_u t p c)), mE, mR, mA, tR, tS, tE, tP, wI, wP)) (h0 : ¬ tx_r n a b → post 0 (nI R, nI cp, fz, nI (ig_A g), nI n, rc, oR, oN, ip_e (ig_O g), ip_e (ig_C g), ip_eb (ig_B g), ip_e (ig_L g), ip_e (ig_H g), ip_e (ig_M g), nu, od, ro, ip_e t, mE, mR, mA, tR, tS, tE, tP, wI, wP)) : wpX_replaceRange post (nI R, nI cp, fz, nI (ig_A g), nI n, rc, oR, oN, ip_e (ig_O g), ip_e (ig_C g), ip_eb (ig_B g), ip_e (ig_L g), ip_e (ig_H g), ip_e (ig_M g), nu, od, ro, ip_e t, mE, mR, mA, tR, tS, tE, tP, wI, wP) a b (nI c) := by
  unfold wpX_replaceRange
  dsimp only
  refine xe_range hn (fun z => br_f (by decide) ?_) (fun z => br_t rfl (h0 z))
  obtain ⟨p, l, rfl, rfl, hl⟩ := z
  refine ⟨vp_in_nI (by omega) (by decide), nm_r (e' := ip_e (ip_u t p c)) ?_ ?_⟩
  · rw [nI_clamp (by omega), ip_nch hc]
    exact ip_ue t _ _
  · rw [nI_1, nI_pred]
    exact xe_gap hn (by omega) (tx_u ht hc) (h1 p l rfl rfl hl)
end
