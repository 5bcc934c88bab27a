/-! the calls that only read -/
theorem i_vc_isCompiled {k : Nat} {u : SX} {v : SY} (I : i_Rel k u v) (hk : k + 5 ≤ 2562) : wpX_isCompiled (fun r => wpY_isCompiled (fun r' => r' = r ∧ i_Rel (k + 5) u v) v) u := by
  obtain ⟨g, t, n, R, cp, x, fz, oR, L, N, O, N', O', E, rO, mE, mR, mA, tR, tS, tE, tP, wI, wP, e1, e2, e3, e4, sp, cc, kd, kA, kB, tR', tS', tE', tP', re, ex, sR, sS, sE, sP, cR, cS, cE, rfl, rfl, F⟩ := I
  rcases F.2.2.2.2.2.2.2.2.2.2.2.2.2.2.2 with rfl | ⟨rfl, _⟩
  · exact ⟨rfl, rfl, rfl, rl_mk F⟩
  · exact ⟨rfl, rfl, rfl, rl_mk F⟩
theorem i_vc_textLength {k : Nat} {u : SX} {v : SY} (I : i_Rel k u v) (hk : k + 5 ≤ 2562) : wpX_textLength (fun r => wpY_textLength (fun r' => r' = r ∧ i_Rel (k + 5) u v) v) u := by
  obtain ⟨g, t, n, R, cp, x, fz, oR, L, N, O, N', O', E, rO, mE, mR, mA, tR, tS, tE, tP, wI, wP, e1, e2, e3, e4, sp, cc, kd, kA, kB, tR', tS', tE', tP', re, ex, sR, sS, sE, sP, cR, cS, cE, rfl, rfl, F⟩ := I
  exact ⟨rfl, rl_mk F⟩
theorem i_vc_furthest {k : Nat} {u : SX} {v : SY} (I : i_Rel k u v) (hk : k + 5 ≤ 2562) : wpX_furthest (fun r => wpY_furthest (fun r' => r' = r ∧ i_Rel (k + 5) u v) v) u := by
  obtain ⟨g, t, n, R, cp, x, fz, oR, L, N, O, N', O', E, rO, mE, mR, mA, tR, tS, tE, tP, wI, wP, e1, e2, e3, e4, sp, cc, kd, kA, kB, tR', tS', tE', tP', re, ex, sR, sS, sE, sP, cR, cS, cE, rfl, rfl, F⟩ := I
  exact ⟨rfl, rl_mk F⟩
theorem i_vc_nodeCount {k : Nat} {u : SX} {v : SY} (I : i_Rel k u v) (hk : k + 5 ≤ 2562) : wpX_nodeCount (fun r => wpY_nodeCount (fun r' => r' = r ∧ i_Rel (k + 5) u v) v) u := by
  obtain ⟨g, t, n, R, cp, x, fz, oR, L, N, O, N', O', E, rO, mE, mR, mA, tR, tS, tE, tP, wI, wP, e1, e2, e3, e4, sp, cc, kd, kA, kB, tR', tS', tE', tP', re, ex, sR, sS, sE, sP, cR, cS, cE, rfl, rfl, F⟩ := I
  exact ⟨rfl, rl_mk F⟩
theorem i_vc_charAt {k : Nat} {u : SX} {v : SY} (I : i_Rel k u v) (hk : k + 5 ≤ 2562) (v1 : Int32) : wpX_charAt (fun r => wpY_charAt (fun r' => r' = r ∧ i_Rel (k + 5) u v) v v1) u v1 := by
  obtain ⟨g, t, n, R, cp, x, fz, oR, L, N, O, N', O', E, rO, mE, mR, mA, tR, tS, tE, tP, wI, wP, e1, e2, e3, e4, sp, cc, kd, kA, kB, tR', tS', tE', tP', re, ex, sR, sS, sE, sP, cR, cS, cE, rfl, rfl, F⟩ := I
  have hn24 := F.1.1
  by_cases z : v1 < 0
  · exact br_t z (br_t z ⟨rfl, rl_mk F⟩)
  · obtain ⟨i, hi, rfl⟩ := nI_of z
    refine br_f z (pk_lt i n (fun z1 => ⟨vp_in_nI (by omega) (by decide), br_f z (pk_lt i n (fun _ => ⟨vp_in_nI (by omega) (by decide), rfl, rl_mk F⟩) (fun w => by omega))⟩) (fun z1 => br_f z (pk_lt i n (fun w => by omega) (fun _ => ⟨rfl, rl_mk F⟩))))
theorem rn_at {L : List tr_T} {tR tS tE tP tR' tS' tE' tP' : ar_T} {i : Nat} (h : tr_A L tR tS tE tP) (h' : tr_A L tR' tS' tE' tP') (hi : i < L.length) (h6 : i < 64) : tR' i = tR i ∧ tS' i = tS i ∧ tE' i = tE i ∧ tP' i = tP i := by
  obtain ⟨a1, a2, a3, a4⟩ := h i L[i] (List.getElem?_eq_getElem hi) h6
  obtain ⟨b1, b2, b3, b4⟩ := h' i L[i] (List.getElem?_eq_getElem hi) h6
  exact ⟨b1.trans a1.symm, b2.trans a2.symm, b3.trans a3.symm, b4.trans a4.symm⟩
theorem i_vc_nodeRule {k : Nat} {u : SX} {v : SY} (I : i_Rel k u v) (hk : k + 5 ≤ 2562) (v1 : Int32) : wpX_nodeRule (fun r => wpY_nodeRule (fun r' => r' = r ∧ i_Rel (k + 5) u v) v v1) u v1 := by
  obtain ⟨g, t, n, R, cp, x, fz, oR, L, N, O, N', O', E, rO, mE, mR, mA, tR, tS, tE, tP, wI, wP, e1, e2, e3, e4, sp, cc, kd, kA, kB, tR', tS', tE', tP', re, ex, sR, sS, sE, sP, cR, cS, cE, rfl, rfl, F⟩ := I
  have hL := F.2.2.2.2.2.2.2.1
  unfold wpX_nodeRule
  dsimp only
  by_cases z : v1 < 0
  · exact br_t z (br_t rfl (br_t z ⟨rfl, rl_mk F⟩))
  · obtain ⟨i, hi, rfl⟩ := nI_of z
    refine br_f z (pk_le L.length i (fun z1 => br_t rfl ?_) (fun z1 => pk_le 64 i (fun z2 => br_t rfl ?_) (fun z2 => br_f (by decide) ⟨vp_in_nI z2 (by decide), ?_⟩)))
    · exact br_f z (pk_le L.length i (fun _ => ⟨rfl, rl_mk F⟩) (fun w => by omega))
    · exact br_f z (pk_le L.length i (fun w => by omega) (fun _ => pk_lt i 64 (fun w => by omega) (fun _ => ⟨rfl, rl_mk F⟩)))
    · refine br_f z (pk_le L.length i (fun w => by omega) (fun _ => pk_lt i 64 (fun _ => ⟨vp_in_nI z2 (by decide), ?_, rl_mk F⟩) (fun w => by omega)))
      rw [nI_clamp hi]
      exact (rn_at F.2.2.2.2.2.2.2.2.1 F.2.2.2.2.2.2.2.2.2.1 z1 z2).1
theorem i_vc_nodeStart {k : Nat} {u : SX} {v : SY} (I : i_Rel k u v) (hk : k + 5 ≤ 2562) (v1 : Int32) : wpX_nodeStart (fun r => wpY_nodeStart (fun r' => r' = r ∧ i_Rel (k + 5) u v) v v1) u v1 := by
  obtain ⟨g, t, n, R, cp, x, fz, oR, L, N, O, N', O', E, rO, mE, mR, mA, tR, tS, tE, tP, wI, wP, e1, e2, e3, e4, sp, cc, kd, kA, kB, tR', tS', tE', tP', re, ex, sR, sS, sE, sP, cR, cS, cE, rfl, rfl, F⟩ := I
  have hL := F.2.2.2.2.2.2.2.1
  unfold wpX_nodeStart
  dsimp only
  by_cases z : v1 < 0
  · exact br_t z (br_t rfl (br_t z ⟨rfl, rl_mk F⟩))
  · obtain ⟨i, hi, rfl⟩ := nI_of z
    refine br_f z (pk_le L.length i (fun z1 => br_t rfl ?_) (fun z1 => pk_le 64 i (fun z2 => br_t rfl ?_) (fun z2 => br_f (by decide) ⟨vp_in_nI z2 (by decide), ?_⟩)))
    · exact br_f z (pk_le L.length i (fun _ => ⟨rfl, rl_mk F⟩) (fun w => by omega))
    · exact br_f z (pk_le L.length i (fun w => by omega) (fun _ => pk_lt i 64 (fun w => by omega) (fun _ => ⟨rfl, rl_mk F⟩)))
    · refine br_f z (pk_le L.length i (fun w => by omega) (fun _ => pk_lt i 64 (fun _ => ⟨vp_in_nI z2 (by decide), ?_, rl_mk F⟩) (fun w => by omega)))
      rw [nI_clamp hi]
      exact (rn_at F.2.2.2.2.2.2.2.2.1 F.2.2.2.2.2.2.2.2.2.1 z1 z2).2.1
theorem i_vc_nodeEnd {k : Nat} {u : SX} {v : SY} (I : i_Rel k u v) (hk : k + 5 ≤ 2562) (v1 : Int32) : wpX_nodeEnd (fun r => wpY_nodeEnd (fun r' => r' = r ∧ i_Rel (k + 5) u v) v v1) u v1 := by
  obtain ⟨g, t, n, R, cp, x, fz, oR, L, N, O, N', O', E, rO, mE, mR, mA, tR, tS, tE, tP, wI, wP, e1, e2, e3, e4, sp, cc, kd, kA, kB, tR', tS', tE', tP', re, ex, sR, sS, sE, sP, cR, cS, cE, rfl, rfl, F⟩ := I
  have hL := F.2.2.2.2.2.2.2.1
  unfold wpX_nodeEnd
  dsimp only
  by_cases z : v1 < 0
  · exact br_t z (br_t rfl (br_t z ⟨rfl, rl_mk F⟩))
  · obtain ⟨i, hi, rfl⟩ := nI_of z
    refine br_f z (pk_le L.length i (fun z1 => br_t rfl ?_) (fun z1 => pk_le 64 i (fun z2 => br_t rfl ?_) (fun z2 => br_f (by decide) ⟨vp_in_nI z2 (by decide), ?_⟩)))
    · exact br_f z (pk_le L.length i (fun _ => ⟨rfl, rl_mk F⟩) (fun w => by omega))
    · exact br_f z (pk_le L.length i (fun w => by omega) (fun _ => pk_lt i 64 (fun w => by omega) (fun _ => ⟨rfl, rl_mk F⟩)))
    · refine br_f z (pk_le L.length i (fun w => by omega) (fun _ => pk_lt i 64 (fun _ => ⟨vp_in_nI z2 (by decide), ?_, rl_mk F⟩) (fun w => by omega)))
      rw [nI_clamp hi]
      exact (rn_at F.2.2.2.2.2.2.2.2.1 F.2.2.2.2.2.2.2.2.2.1 z1 z2).2.2.1
theorem i_vc_nodeParent {k : Nat} {u : SX} {v : SY} (I : i_Rel k u v) (hk : k + 5 ≤ 2562) (v1 : Int32) : wpX_nodeParent (fun r => wpY_nodeParent (fun r' => r' = r ∧ i_Rel (k + 5) u v) v v1) u v1 := by
  obtain ⟨g, t, n, R, cp, x, fz, oR, L, N, O, N', O', E, rO, mE, mR, mA, tR, tS, tE, tP, wI, wP, e1, e2, e3, e4, sp, cc, kd, kA, kB, tR', tS', tE', tP', re, ex, sR, sS, sE, sP, cR, cS, cE, rfl, rfl, F⟩ := I
  have hL := F.2.2.2.2.2.2.2.1
  unfold wpX_nodeParent
  dsimp only
  by_cases z : v1 < 0
  · exact br_t z (br_t rfl (br_t z ⟨rfl, rl_mk F⟩))
  · obtain ⟨i, hi, rfl⟩ := nI_of z
    refine br_f z (pk_le L.length i (fun z1 => br_t rfl ?_) (fun z1 => pk_le 64 i (fun z2 => br_t rfl ?_) (fun z2 => br_f (by decide) ⟨vp_in_nI z2 (by decide), ?_⟩)))
    · exact br_f z (pk_le L.length i (fun _ => ⟨rfl, rl_mk F⟩) (fun w => by omega))
    · exact br_f z (pk_le L.length i (fun w => by omega) (fun _ => pk_lt i 64 (fun w => by omega) (fun _ => ⟨rfl, rl_mk F⟩)))
    · refine br_f z (pk_le L.length i (fun w => by omega) (fun _ => pk_lt i 64 (fun _ => ⟨vp_in_nI z2 (by decide), ?_, rl_mk F⟩) (fun w => by omega)))
      rw [nI_clamp hi]
      exact (rn_at F.2.2.2.2.2.2.2.2.1 F.2.2.2.2.2.2.2.2.2.1 z1 z2).2.2.2
/-! the edits -/
/-- the facts behind an edit -/
theorem rl_ed {g : ig_T} {t t' : Nat → Nat} {n n' R cp x : Nat} {fz : Int32} {L : List tr_T} {N O N' O' E : Nat → Bool} {rO : Nat → Nat} {kd kA kB tR tS tE tP tR' tS' tE' tP' : ar_T} (F : rl_F g t n R cp x fz L N O N' O' E rO kd kA kB tR tS tE tP tR' tS' tE' tP') (hn : n' ≤ cp) (ht : tx_c t') :
    rl_F g t' n' R cp x fz [] N O N' O' E rO kd kA kB tR tS tE tP tR' tS' tE' tP' := by
  obtain ⟨⟨f1, f2, f3, f4⟩, f5, f6, f7, f8, f9, f10, f11, f12, f13, f14, f15, f16, f17, f18, f19⟩ := F
  exact ⟨⟨by omega, f2, f3, ht⟩, f5, hn, f7, f8, f9, f10, by decide, tr_A0 _ _ _ _, tr_A0 _ _ _ _, f14, f15, f16, f17, f18, f19⟩
theorem i_vc_insertChar {k : Nat} {u : SX} {v : SY} (I : i_Rel k u v) (hk : k + 5 ≤ 2562) (v1 : Int32) (v2 : Int32) : wpX_insertChar (fun r u' => wpY_insertChar (fun r' v' => r' = r ∧ i_Rel (k + 5) u' v') v v1 (lw_u16 v2)) u v1 (lw_u16 v2) := by
  obtain ⟨g, t, n, R, cp, x, fz, oR, L, N, O, N', O', E, rO, mE, mR, mA, tR, tS, tE, tP, wI, wP, e1, e2, e3, e4, sp, cc, kd, kA, kB, tR', tS', tE', tP', re, ex, sR, sS, sE, sP, cR, cS, cE, rfl, rfl, F⟩ := I
  obtain ⟨c, hc, e⟩ := ip_u16 v2
  rw [e]
  have hcp := F.2.2.2.2.1
  have hnc := F.2.2.1
  by_cases z : v1 < 0
  · exact br_t z (br_t z ⟨rfl, rl_mk F⟩)
  · obtain ⟨i, hi, rfl⟩ := nI_of z
    by_cases z1 : n < i
    · exact br_f z (pk_lt n i (fun _ => br_f z (pk_lt n i (fun _ => ⟨rfl, rl_mk F⟩) (fun w => by omega))) (fun w => by omega))
    · by_cases z2 : n < cp
      · refine xe_ins hcp z2 (by omega) hc F.1.2.2.2 (ye_ins hcp z2 (by omega) hc F.1.2.2.2 ⟨rfl, ?_⟩)
        exact rl_mk (rl_ed (n' := n + 1) F (by omega) (tx_u (tx_ic _ _ _ F.1.2.2.2) hc))
      · exact br_f z (pk_lt n i (fun w => by omega) (fun _ => pk_lt n cp (fun w => by omega) (fun _ => br_f z (pk_lt n i (fun w => by omega) (fun _ => pk_eq n cp (fun _ => ⟨rfl, rl_mk F⟩) (fun w => by omega))))))
theorem i_vc_deleteRange {k : Nat} {u : SX} {v : SY} (I : i_Rel k u v) (hk : k + 5 ≤ 2562) (v1 : Int32) (v2 : Int32) : wpX_deleteRange (fun r u' => wpY_deleteRange (fun r' v' => r' = r ∧ i_Rel (k + 5) u' v') v v1 v2) u v1 v2 := by
  obtain ⟨g, t, n, R, cp, x, fz, oR, L, N, O, N', O', E, rO, mE, mR, mA, tR, tS, tE, tP, wI, wP, e1, e2, e3, e4, sp, cc, kd, kA, kB, tR', tS', tE', tP', re, ex, sR, sS, sE, sP, cR, cS, cE, rfl, rfl, F⟩ := I
  have hn24 := F.1.1
  have hnc := F.2.2.1
  refine xe_del hn24 F.1.2.2.2 (fun p l e1' e2' hl => ye_del hn24 F.1.2.2.2 (fun p' l' e3' e4' hl' => ?_) (fun w => absurd ⟨p, l, e1', e2', hl⟩ w)) (fun w => ye_del hn24 F.1.2.2.2 (fun p' l' e3' e4' hl' => absurd ⟨p', l', e3', e4', hl'⟩ w) (fun _ => ⟨rfl, rl_mk F⟩))
  have a1 : p = p' := (nI_eq (by omega) (by omega)).mp (e1'.symm.trans e3')
  have a2 : l + 1 = l' + 1 := (nI_eq (by omega) (by omega)).mp (e2'.symm.trans e4')
  obtain rfl : l = l' := by omega
  subst a1
  exact ⟨rfl, rl_mk (rl_ed F (by omega) (tx_dc _ _ _ _ F.1.2.2.2))⟩
theorem i_vc_replaceRange {k : Nat} {u : SX} {v : SY} (I : i_Rel k u v) (hk : k + 5 ≤ 2562) (v1 : Int32) (v2 : Int32) (v3 : Int32) : wpX_replaceRange (fun r u' => wpY_replaceRange (fun r' v' => r' = r ∧ i_Rel (k + 5) u' v') v v1 v2 (lw_u16 v3)) u v1 v2 (lw_u16 v3) := by
  obtain ⟨g, t, n, R, cp, x, fz, oR, L, N, O, N', O', E, rO, mE, mR, mA, tR, tS, tE, tP, wI, wP, e1, e2, e3, e4, sp, cc, kd, kA, kB, tR', tS', tE', tP', re, ex, sR, sS, sE, sP, cR, cS, cE, rfl, rfl, F⟩ := I
  obtain ⟨c, hc, e⟩ := ip_u16 v3
  rw [e]
  have hn24 := F.1.1
  have hnc := F.2.2.1
  refine xe_rep hn24 hc F.1.2.2.2 (fun p l e1' e2' hl => ye_rep hn24 hc F.1.2.2.2 (fun p' l' e3' e4' hl' => ?_) (fun w => absurd ⟨p, l, e1', e2', hl⟩ w)) (fun w => ye_rep hn24 hc F.1.2.2.2 (fun p' l' e3' e4' hl' => absurd ⟨p', l', e3', e4', hl'⟩ w) (fun _ => ⟨rfl, rl_mk F⟩))
  have a1 : p = p' := (nI_eq (by omega) (by omega)).mp (e1'.symm.trans e3')
  have a2 : l + 1 = l' + 1 := (nI_eq (by omega) (by omega)).mp (e2'.symm.trans e4')
  obtain rfl : l = l' := by omega
  subst a1
  exact ⟨rfl, rl_mk (rl_ed F (by omega) (tx_dc _ _ _ _ (tx_u F.1.2.2.2 hc)))⟩
