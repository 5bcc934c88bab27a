/-! the reference's items; what is owed of the builders, of compile and of parse -/
def ga_M (v : Int32) : Prop := ∃ m, m ≤ 5 ∧ v = nI m
theorem ga_m {v : Int32} {A B : Prop} (h1 : ga_M v → A) (h0 : ¬ ga_M v → B) : (v < 0 → B) ∧ (¬ v < 0 → ((v ≤ 5 → A) ∧ (¬ v ≤ 5 → B))) := by
  refine br_c (fun z => h0 (fun w => ?_)) (fun z => ?_)
  · obtain ⟨m, hm, rfl⟩ := w
    exact nI_pos (by omega) z
  · obtain ⟨m, hm, rfl⟩ := nI_of z
    refine pk_le m 5 (fun z2 => h1 ⟨m, z2, rfl⟩) (fun z2 => h0 (fun w => ?_))
    obtain ⟨m', hm', e⟩ := w
    have := (nI_eq hm (by omega)).mp e
    omega
section
variable {g : ig_T} {t : Nat → Nat} {n R cp : Nat} {fz oR oN e1 e2 e3 e4 sp cc : Int32} {kd kA kB tR tS tE tP re ex nu ed rm sR sS sE sP cR cS cE : Nat → Int32}
theorem ya_100 {post : Int32 → SY → Prop} {k a b : Int32} {m al c : Nat} (hA : ig_A g = al + 1) (h16 : ig_A g ≤ 16) (hc : ig_C g al = c) (h4 : c < 4) 
    (h : post (nI c) (nI R, nI cp, fz, nI (ig_A g), nI n, oR, oN, e1, e2, e3, e4, sp, cc, ip_e (ig_O g), ip_e (ip_u (ig_C g) al (c + 1)), upd kd (4 * al + c) k, upd kA (4 * al + c) a, upd kB (4 * al + c) b, ip_e (ip_u (ig_M g) (4 * al + c) m), ip_e t, tR, tS, tE, tP, re, ex, nu, ed, rm, sR, sS, sE, sP, cR, cS, cE)) : wY_addItem_100 post k a b (nI m) (nI R) (nI cp) fz (nI (ig_A g)) (nI n) oR oN e1 e2 e3 e4 sp cc (ip_e (ig_O g)) (ip_e (ig_C g)) kd kA kB (ip_e (ig_M g)) (ip_e t) tR tS tE tP re ex nu ed rm sR sS sE sP cR cS cE := by
  have e0 : nI (ig_A g) - 1 = nI al := by rw [hA]; exact nI_pred al
  have hv : vp_in (nI al) 16 := vp_in_nI (by omega) (by decide)
  have hv2 : vp_in (nI (4 * al + c)) 64 := vp_in_nI (by omega) (by decide)
  have e1 : ip_e (ig_C g) (nI al).toNatClampNeg = nI c := by rw [ip_ce _ (by omega), hc]
  have e2 : (nI (4 * al + c)).toNatClampNeg = 4 * al + c := nI_clamp (by omega)
  have e3 : (nI al).toNatClampNeg = al := nI_clamp (by omega)
  refine nm_r e0 ⟨hv, pk_lt c 4 (fun _ => ⟨hv, nm_r (e' := nI (4 * al + c)) (by rw [e1]; exact ip_ls al c) ⟨hv2, nm_r (by rw [e2]) ⟨hv2, nm_r (by rw [e2]) ⟨hv2, nm_r (by rw [e2]) ⟨hv2, nm_r (e' := ip_e (ip_u (ig_M g) (4 * al + c) m)) (by rw [e2]; exact ip_ue _ _ _) ⟨hv, hv, nm_r (e' := ip_e (ip_u (ig_C g) al (c + 1))) (by rw [e1, e3, nI_1]; exact ip_ue _ _ _) ⟨hv, ?_⟩⟩⟩⟩⟩⟩⟩) (fun z => by omega) e1⟩
  rw [ip_ce _ (by omega), ip_us, nI_pred]
  exact h
theorem ya_item {post : Int32 → SY → Prop} {k a b v : Int32} (hR : R < 2 ^ 31) (hA : ¬ nI (ig_A g) = 0) (h1 : ga_B R k a b → ga_M v → wY_addItem_100 post k a b v (nI R) (nI cp) 0 (nI (ig_A g)) (nI n) oR oN e1 e2 e3 e4 sp cc (ip_e (ig_O g)) (ip_e (ig_C g)) kd kA kB (ip_e (ig_M g)) (ip_e t) tR tS tE tP re ex nu ed rm sR sS sE sP cR cS cE) (h0 : ¬ (ga_B R k a b ∧ ga_M v) → post (-1) (nI R, nI cp, 0, nI (ig_A g), nI n, oR, oN, e1, e2, e3, e4, sp, cc, ip_e (ig_O g), ip_e (ig_C g), kd, kA, kB, ip_e (ig_M g), ip_e t, tR, tS, tE, tP, re, ex, nu, ed, rm, sR, sS, sE, sP, cR, cS, cE)) : wpY_addItem post (nI R, nI cp, 0, nI (ig_A g), nI n, oR, oN, e1, e2, e3, e4, sp, cc, ip_e (ig_O g), ip_e (ig_C g), kd, kA, kB, ip_e (ig_M g), ip_e t, tR, tS, tE, tP, re, ex, nu, ed, rm, sR, sS, sE, sP, cR, cS, cE) k a b v := by
  refine br_t rfl (br_f hA (br_c (fun z => h0 (fun w => (ga_Bk w.1).1 z)) (fun zn => br_c (fun z3 => ?_) (fun z => h0 (fun w => z (Int32.not_lt.mp (ga_Bk w.1).2))))))
  refine ga_m (fun hm => ?_) (fun hm => h0 (fun w => hm w.2))
  have f0 : ¬ ga_B R k a b → post (-1) (nI R, nI cp, 0, nI (ig_A g), nI n, oR, oN, e1, e2, e3, e4, sp, cc, ip_e (ig_O g), ip_e (ig_C g), kd, kA, kB, ip_e (ig_M g), ip_e t, tR, tS, tE, tP, re, ex, nu, ed, rm, sR, sS, sE, sP, cR, cS, cE) := fun z => h0 (fun w => z w.1)
  have g81 : (k ≠ 3 → ga_B R k a b) → wY_addItem_81 post k a b v (nI R) (nI cp) 0 (nI (ig_A g)) (nI n) oR oN e1 e2 e3 e4 sp cc (ip_e (ig_O g)) (ip_e (ig_C g)) kd kA kB (ip_e (ig_M g)) (ip_e t) tR tS tE tP re ex nu ed rm sR sS sE sP cR cS cE := fun hk => by
    refine br_c (fun e => ?_) (fun ne => h1 (hk ne) hm)
    subst e
    exact ga_t3' hR (fun z => h1 z hm) f0
  have g58 : (k ≠ 3 → k ≠ 1 → ga_B R k a b) → wY_addItem_58 post k a b v (nI R) (nI cp) 0 (nI (ig_A g)) (nI n) oR oN e1 e2 e3 e4 sp cc (ip_e (ig_O g)) (ip_e (ig_C g)) kd kA kB (ip_e (ig_M g)) (ip_e t) tR tS tE tP re ex nu ed rm sR sS sE sP cR cS cE := fun hk => by
    refine br_c (fun e => ?_) (fun ne => g81 (fun n3 => hk n3 ne))
    subst e
    exact ga_t1' (fun z => g81 (fun _ => z)) f0
  refine br_c (fun e => ?_) (fun ne => g58 (fun n3 n1 => ?_))
  · subst e
    exact ga_t0' (fun z => g58 (fun _ _ => z)) f0
  · refine Or.inr (Or.inr (Or.inl ?_))
    -- of 0..3 only 2 is left
    obtain ⟨j, hj, rfl⟩ := nI_of zn
    have a1 : j ≤ 3 := (nI_leI hj (b := 3) (by decide)).mp z3
    have a2 : j ≠ 0 := fun z => ne (by rw [z]; rfl)
    have a3 : j ≠ 1 := fun z => n1 (by rw [z]; rfl)
    have a4 : j ≠ 3 := fun z => n3 (by rw [z]; rfl)
    rw [show j = 2 by omega]
    rfl
end
theorem i_vc_newAlt {k : Nat} {u : SX} {v : SY} (I : i_Rel k u v) (hk : k + 5 ≤ 2562) (v1 : Int32) : wpX_newAlt (fun r u' => wpY_newAlt (fun r' v' => r' = r ∧ i_Rel (k + 5) u' v') v v1) u v1 := by
  obtain ⟨g, t, n, R, cp, x, fz, oR, L, N, O, N', O', E, rO, mE, mR, mA, tR, tS, tE, tP, wI, wP, e1, e2, e3, e4, sp, cc, kd, kA, kB, tR', tS', tE', tP', re, ex, sR, sS, sE, sP, cR, cS, cE, rfl, rfl, F⟩ := I
  have hR8 := F.1.2.1
  have h16 := F.1.2.2.1.1
  rcases F.2.2.2.2.2.2.2.2.2.2.2.2.2.2.2 with rfl | ⟨rfl, _⟩
  · refine br_t rfl ?_
    by_cases z : v1 < 0
    · exact br_t z (br_t rfl (br_t rfl (br_t z ⟨rfl, rl_mk F⟩)))
    · obtain ⟨r, hr, rfl⟩ := nI_of z
      by_cases z1 : r < R
      · by_cases z2 : ig_A g < 16
        · have hv : vp_in (nI (ig_A g)) 16 := vp_in_nI z2 (by decide)
          have ec : (nI (ig_A g)).toNatClampNeg = ig_A g := nI_clamp (by omega)
          have w1 : upd (ip_e (ig_O g)) (nI (ig_A g)).toNatClampNeg (nI r) = ip_e (ip_u (ig_O g) (ig_A g) r) := by rw [ec]; exact ip_ue _ _ _
          have w2 : upd (ip_e (ig_C g)) (nI (ig_A g)).toNatClampNeg 0 = ip_e (ip_u (ig_C g) (ig_A g) 0) := by rw [ec]; exact ip_ue _ _ 0
          refine br_f z (pk_le R r (fun w => by omega) (fun _ => br_f (by decide) (pk_lt (ig_A g) 16 (fun _ => ⟨hv, nm_r w1 ⟨hv, nm_r w2 (nm_r (nI_1 _) ?_)⟩⟩) (fun w => by omega))))
          refine br_t rfl (br_f z (pk_lt r R (fun _ => pk_lt (ig_A g) 16 (fun _ => ⟨hv, nm_r w1 ⟨hv, nm_r w2 (nm_r (nI_1 _) ⟨nI_pred _, ?_⟩)⟩⟩) (fun w => by omega)) (fun w => by omega)))
          refine rl_mk (g := ga_A g r) ?_
          obtain ⟨⟨f1, f2, f3, f4⟩, f5, f6, f7, f8, f9, f10, f11, f12, f13, f14, f15, f16, f17, f18, f19⟩ := F
          exact ⟨⟨f1, f2, ga_V f3 z1 z2, f4⟩, f5, f6, f7, f8, f9, f10, f11, f12, f13, f14, f15, f16, f17, f18, Or.inl rfl⟩
        · refine br_f z (pk_le R r (fun w => by omega) (fun _ => br_f (by decide) (pk_lt (ig_A g) 16 (fun w => by omega) (fun _ => ?_))))
          exact br_t rfl (br_f z (pk_lt r R (fun _ => pk_lt (ig_A g) 16 (fun w => by omega) (fun _ => ⟨rfl, rl_mk F⟩)) (fun w => by omega)))
      · refine br_f z (pk_le R r (fun _ => br_t rfl ?_) (fun w => by omega))
        exact br_t rfl (br_f z (pk_lt r R (fun w => by omega) (fun _ => ⟨rfl, rl_mk F⟩)))
  · exact br_f (by decide) (br_f (by decide) ⟨rfl, rl_mk F⟩)
theorem i_vc_addItem {k : Nat} {u : SX} {v : SY} (I : i_Rel k u v) (hk : k + 5 ≤ 2562) (v1 : Int32) (v2 : Int32) (v3 : Int32) (v4 : Int32) : wpX_addItem (fun r u' => wpY_addItem (fun r' v' => r' = r ∧ i_Rel (k + 5) u' v') v v1 v2 v3 v4) u v1 v2 v3 v4 := by
  obtain ⟨g, t, n, R, cp, x, fz, oR, L, N, O, N', O', E, rO, mE, mR, mA, tR, tS, tE, tP, wI, wP, e1, e2, e3, e4, sp, cc, kd, kA, kB, tR', tS', tE', tP', re, ex, sR, sS, sE, sP, cR, cS, cE, rfl, rfl, F⟩ := I
  have hR8 := F.1.2.1
  have hV := F.1.2.2.1
  have h16 := hV.1
  rcases F.2.2.2.2.2.2.2.2.2.2.2.2.2.2.2 with rfl | ⟨rfl, _⟩
  · refine br_t rfl ?_
    by_cases z : ig_A g = 0
    · have z' : nI (ig_A g) = 0 := by rw [z]; rfl
      exact br_t z' (br_t rfl (br_t z' ⟨rfl, rl_mk F⟩))
    · have z' : ¬ nI (ig_A g) = 0 := nI_ne0 (by omega) (by omega)
      obtain ⟨al, hal⟩ : ∃ al, ig_A g = al + 1 := ⟨ig_A g - 1, by omega⟩
      have hC := (hV.2 al).2.1
      have no : ¬ (ga_B R v1 v2 v3 ∧ ga_M v4) → wpY_addItem (fun r' v' => r' = (-1) ∧ i_Rel (k + 5) (nI R, nI cp, 0, nI (ig_A g), nI n, ip_m x, oR, nI L.length, ip_e (ig_O g), ip_e (ig_C g), ip_eb (ig_B g), ip_e (ig_L g), ip_e (ig_H g), ip_e (ig_M g), ip_eb N, ip_eb O, ip_e rO, ip_e t, mE, mR, mA, tR, tS, tE, tP, wI, wP) v') (nI R, nI cp, 0, nI (ig_A g), nI n, oR, nI L.length, e1, e2, e3, e4, sp, cc, ip_e (ig_O g), ip_e (ig_C g), kd, kA, kB, ip_e (ig_M g), ip_e t, tR', tS', tE', tP', re, ex, ip_eb N', ip_eb E, ip_eb O', sR, sS, sE, sP, cR, cS, cE) v1 v2 v3 v4 := fun hno =>
        ya_item (by omega) z' (fun a b => absurd ⟨a, b⟩ hno) (fun _ => ⟨rfl, rl_mk F⟩)
      refine br_f z' (xa_base (by omega) (fun hB => br_f (by decide) (ga_m (fun hm => ?_) (fun hm => no (fun y => hm y.2)))) (fun hB => br_t rfl (no (fun y => hB y.1))))
      obtain ⟨m, hm5, rfl⟩ := hm
      have e0 : nI (ig_A g) - 1 = nI al := by rw [hal]; exact nI_pred al
      refine nm_r e0 ⟨vp_in_nI (by omega) (by decide), nm_r (ip_ce _ (by omega)) (pk_lt (ig_C g al) 4 (fun h4 => nm_r (ip_ls al (ig_C g al)) ?_) (fun h4 => ?_))⟩
      · refine xa_put (m := m) hR8 (by omega) (by omega) hB (fun lo hi br hN => ?_)
        refine ya_item (by omega) z' (fun _ _ => ya_100 hal h16 rfl h4 ⟨rfl, ?_⟩) (fun hno => absurd ⟨hB, m, hm5, rfl⟩ hno)
        refine rl_mk (g := ga_I g al (ig_C g al) (4 * al + ig_C g al) m lo hi br) ?_
        obtain ⟨⟨f1, f2, f3, f4⟩, f5, f6, f7, f8, f9, f10, f11, f12, f13, f14, f15, f16, f17, f18, f19⟩ := F
        exact ⟨⟨f1, f2, ga_IV f3 h4 hm5 hN, f4⟩, f5, f6, f7, f8, f9, ga_IG f10 hN, f11, f12, f13, f14, f15, f16, f17, f18, Or.inl rfl⟩
      · refine ya_item (by omega) z' (fun _ _ => ?_) (fun hno => absurd ⟨hB, m, hm5, rfl⟩ hno)
        exact nm_r e0 ⟨vp_in_nI (by omega) (by decide), pk_lt (ig_C g al) 4 (fun w => by omega) (fun _ => ⟨rfl, rl_mk F⟩) (ip_ce _ (by omega))⟩
  · exact br_f (by decide) (br_f (by decide) ⟨rfl, rl_mk F⟩)
theorem i_vc_compile {k : Nat} {u : SX} {v : SY} (I : i_Rel k u v) (hk : k + 5 ≤ 2562) : wpX_compile (fun r u' => wpY_compile (fun r' v' => r' = r ∧ i_Rel (k + 5) u' v') v) u := by
  obtain ⟨g, t, n, R, cp, x, fz, oR, L, N, O, N', O', E, rO, mE, mR, mA, tR, tS, tE, tP, wI, wP, e1, e2, e3, e4, sp, cc, kd, kA, kB, tR', tS', tE', tP', re, ex, sR, sS, sE, sP, cR, cS, cE, rfl, rfl, F⟩ := I
  have hR8 := F.1.2.1
  have hV := F.1.2.2.1
  obtain ⟨⟨f1, f2, f3, f4⟩, f5, f6, f7, f8, f9, f10, f11, f12, f13, f14, f15, f16, f17, f18, f19⟩ := id F
  rcases f19 with rfl | ⟨rfl, _⟩
  · have n8 : ∀ j, 8 ≤ j → cp_N g R j = false := fun j hj => cp_r8 hV R (fun _ => false) (fun _ _ => rfl) j (by omega)
    have hI : od_I g (cp_N g R) R (cp_O g R rO) := od_rI R _ (od_0 g (cp_N g R) R rO)
    have o8 : ∀ j, 8 ≤ j → (cp_O g R rO).1 j = false := fun j hj => hI.2.1 j (by omega)
    refine xc_compile F.1 f14 f15 (fun z => ?_) (fun z y => ?_) (fun z y => ?_)
    · exact ye_compile (rO := rO) F.1 f10 f16 f17 f18 (fun _ => ⟨rfl, rl_mk ⟨F.1, f5, f6, f7, f8, f9, f10, f11, f12, f13, n8, f15, n8, f17, f18, Or.inl rfl⟩⟩) (fun E' hE' hb => absurd hb z) (fun E' hE' hb => absurd hb z)
    · exact ye_compile (rO := rO) F.1 f10 f16 f17 f18 (fun w => absurd z w) (fun E' hE' _ _ => ⟨rfl, rl_mk ⟨F.1, f5, f6, f7, f8, f9, f10, f11, f12, f13, n8, o8, n8, o8, hE', Or.inl rfl⟩⟩) (fun E' hE' _ w => absurd w y)
    · refine ye_compile (rO := rO) F.1 f10 f16 f17 f18 (fun w => absurd z w) (fun E' hE' _ w => absurd y w) (fun E' hE' _ _ => ⟨rfl, rl_mk ⟨F.1, f5, f6, f7, f8, f9, f10, f11, f12, f13, n8, o8, n8, o8, hE', Or.inr ⟨rfl, ?_⟩⟩⟩)
      obtain ⟨rk, k1, k2, k3⟩ := od_K hV hI y (cp_rCl hV _) z
      exact ⟨cp_N g R, rk, k1, k3, k2⟩
  · exact br_f (by decide) (br_f (by decide) ⟨rfl, rl_mk F⟩)
theorem i_vc_parse {k : Nat} {u : SX} {v : SY} (I : i_Rel k u v) (hk : k + 5 ≤ 2562) (v1 : Int32) (v2 : Int32) : wpX_parse (fun r u' => wpY_parse (fun r' v' => r' = r ∧ i_Rel (k + 5) u' v') v v1 v2) u v1 v2 := by
  obtain ⟨g, t, n, R, cp, x, fz, oR, L, N, O, N', O', E, rO, mE, mR, mA, tR, tS, tE, tP, wI, wP, e1, e2, e3, e4, sp, cc, kd, kA, kB, tR', tS', tE', tP', re, ex, sR, sS, sE, sP, cR, cS, cE, rfl, rfl, F⟩ := I
  have hn24 := F.1.1
  have hR8 := F.1.2.1
  have hV := F.1.2.2.1
  obtain ⟨⟨f1, f2, f3, f4⟩, f5, f6, f7, f8, f9, f10, f11, f12, f13, f14, f15, f16, f17, f18, f19⟩ := id F
  rcases f19 with rfl | ⟨rfl, N0, rk, hK, hO, hO'⟩
  · exact br_t rfl (br_t rfl ⟨rfl, rl_mk F⟩)
  · have nz : ¬ (1 : Int32) = 0 := by decide
    by_cases z : v1 < 0
    · exact br_f nz (br_t z (br_t rfl (br_f nz (br_t z ⟨rfl, rl_mk F⟩))))
    · obtain ⟨r, hr, rfl⟩ := nI_of z
      by_cases z1 : r < R
      · by_cases y : v2 < 0
        · exact br_f nz (br_f z (pk_le R r (fun w => by omega) (fun _ => br_f nz (br_t y (br_f nz (br_f z (pk_le R r (fun w => by omega) (fun _ => br_t y ⟨rfl, rl_mk F⟩))))))))
        · obtain ⟨p, hp, rfl⟩ := nI_of y
          by_cases y1 : p ≤ n
          · obtain ⟨G, hG⟩ := pu_ex t n hV hK
            refine xp_parse (T := G) (N := N0) F.1 hK hG hO hO' z1 y1 f9 (fun x mE mR mA tR tS tE tP wI wP hx hT => ?_)
            refine yp_parse (T := G) (N := N0) F.1 f10 hK hG z1 y1 (fun e1 e2 e3 e4 sp cc re ex tR' tS' tE' tP' sR sS sE sP cR cS cE hT' => ⟨rfl, ?_⟩)
            refine rl_mk (L := xp_A G (tk_K g t n G) r p) ⟨F.1, f5, f6, f7, f8, hx, f10, ?_, hT, hT', f14, f15, f16, f17, f18, Or.inr ⟨rfl, N0, rk, hK, hO, hO'⟩⟩
            unfold xp_A
            by_cases e : (G r p).1 = 0
            · rw [if_pos e]; decide
            · rw [if_neg e]; exact tr_Lle _ 65 _ _
          · exact br_f nz (br_f z (pk_le R r (fun w => by omega) (fun _ => br_f nz (br_f y (pk_le p n (fun w => by omega) (fun _ => br_f nz (br_f z (pk_le R r (fun w => by omega) (fun _ => br_f y (pk_le p n (fun w => by omega) (fun _ => ⟨rfl, rl_mk F⟩)))))))))))
      · exact br_f nz (br_f z (pk_le R r (fun _ => br_t rfl (br_f nz (br_f z (pk_le R r (fun _ => ⟨rfl, rl_mk F⟩) (fun w => by omega))))) (fun w => by omega)))
