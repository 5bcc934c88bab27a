/-! the reference's children and tree -/
def ch_A (C : List (Nat × Nat × Nat)) (cR cS cE : ar_T) : Prop := ∀ j x, C[j]? = some x → cR j = nI x.1 ∧ cS j = nI x.2.1 ∧ cE j = nI x.2.2
theorem ch_0 (cR cS cE : ar_T) : ch_A [] cR cS cE := by
  intro j x hx
  exact absurd hx (by simp)
theorem ch_add {C : List (Nat × Nat × Nat)} {cR cS cE : ar_T} (s q e : Nat) (h : ch_A C cR cS cE) : ch_A (C ++ [(s, q, e)]) (upd cR C.length (nI s)) (upd cS C.length (nI q)) (upd cE C.length (nI e)) := by
  intro j x hx
  rcases Nat.lt_or_ge j C.length with z | z
  · rw [List.getElem?_append_left z] at hx
    have ne : j ≠ C.length := by omega
    rw [pk_un ne, pk_un ne, pk_un ne]
    exact h j x hx
  · rw [List.getElem?_append_right z] at hx
    have e1 : j - C.length = 0 := by
      rcases Nat.eq_zero_or_pos (j - C.length) with w | w
      · exact w
      · rw [List.getElem?_eq_none (by simp; omega)] at hx; exact absurd hx (by simp)
    rw [e1] at hx
    have hx' : (s, q, e) = x := by simpa using hx
    subst hx'
    have e2 : j = C.length := by omega
    subst e2
    rw [pk_us, pk_us, pk_us]
    exact ⟨rfl, rfl, rfl⟩
/-- what the stack holds, its top first -/
def sk_H (sR sS sE sP : ar_T) : List tr_T → Prop
  | [] => True
  | x :: S => sR S.length = nI x.1 ∧ sS S.length = nI x.2.1 ∧ sE S.length = nI x.2.2.1 ∧ sP S.length = ip_m x.2.2.2 ∧ sk_H sR sS sE sP S
theorem sk_cg {sR sS sE sP sR' sS' sE' sP' : ar_T} : ∀ (S : List tr_T) (b : Nat), S.length ≤ b → (∀ j, j < b → sR' j = sR j) → (∀ j, j < b → sS' j = sS j) → (∀ j, j < b → sE' j = sE j) → (∀ j, j < b → sP' j = sP j) → sk_H sR sS sE sP S → sk_H sR' sS' sE' sP' S := by
  intro S
  induction S with
  | nil => intro b _ _ _ _ _ _; trivial
  | cons x S ih =>
    intro b hb h1 h2 h3 h4 h
    have hl : S.length < b := by rw [List.length_cons] at hb; omega
    obtain ⟨k1, k2, k3, k4, k5⟩ := h
    refine ⟨?_, ?_, ?_, ?_, ih b (by omega) h1 h2 h3 h4 k5⟩
    · rw [h1 _ hl]; exact k1
    · rw [h2 _ hl]; exact k2
    · rw [h3 _ hl]; exact k3
    · rw [h4 _ hl]; exact k4
section
variable {g : ig_T} {t : Nat → Nat} {n R : Nat} {T : Nat → Nat → Nat × Nat} {N : Nat → Bool}
/-- a child is a place of the table where a rule goes through -/
def tk_v (R n : Nat) (T : Nat → Nat → Nat × Nat) (c : Nat × Nat × Nat) : Prop := c.1 < R ∧ c.2.1 ≤ n ∧ (T c.1 c.2.1).1 = c.2.2 + 1
theorem tk_Rv {it : Nat} (hV : ig_V g R) (hS : pu_SA R n N T) (hb : ig_B g it = true) : ∀ f q, q ≤ n → ∀ c, c ∈ tk_R g T it f q → tk_v R n T c := by
  have hl := (hV.2 it).2.2.2.2.2 hb
  intro f
  induction f with
  | zero => intro q _ c hc; exact absurd hc (by simp [tk_R])
  | succ f ih =>
    intro q hq c hc
    cases hz : (T (ig_L g it) q).1 with
    | zero => rw [tk_R0 hz] at hc; exact absurd hc (by simp)
    | succ e =>
      rw [tk_Rs hz] at hc
      rcases List.mem_cons.mp hc with h | h
      · subst h; exact ⟨hl, hq, hz⟩
      · exact ih e ((hS _ q hl hq).2 e hz).2.1 c h
theorem tk_Av (hV : ig_V g R) (hS : pu_SA R n N T) : ∀ k it q, (∀ j, j < k → ig_it g N (it + j)) → q ≤ n → tk_ok g t n T k it q → ∀ c, c ∈ tk_A g t n T k it q → tk_v R n T c := by
  intro k
  induction k with
  | zero => intro it q _ _ _ c hc; exact absurd hc (by simp [tk_A])
  | succ k ih =>
    intro it q hn hq h c hc
    obtain ⟨h1, h2⟩ := h
    obtain ⟨b1, b2⟩ := tk_xb (it := it) hV hS (hn 0 (by omega)) hq h1
    have hc' : c ∈ tk_I g n T it q ++ tk_A g t n T k (it + 1) (tk_x g t n T it q) := hc
    rcases List.mem_append.mp hc' with w | w
    · by_cases gn : tk_g g it
      · rw [tk_I, if_pos gn] at w
        exact tk_Rv hV hS gn.1 _ q hq c w
      · rw [tk_I, if_neg gn] at w
        exact absurd w (by simp)
    · exact ih (it + 1) _ (fun j hj => by rw [show it + 1 + j = it + (j + 1) by omega]; exact hn (j + 1) (by omega)) b2 h2 c w
theorem tk_Kv (hV : ig_V g R) (hNb : ig_Nb g N) (hG : pu_G g t n R N T) {r p : Nat} (hr : r < R) (hp : p ≤ n) (hz : (T r p).1 ≠ 0) : (tk_K g t n T r p).length ≤ 4 + n ∧ ∀ c, c ∈ tk_K g t n T r p → tk_v R n T c := by
  obtain ⟨w1, w2, w3, w4⟩ := pu_W hG hr hp hz
  have hok : tk_ok g t n T (ig_C g (pu_M g t n T r p).2.2) (4 * (pu_M g t n T r p).2.2) p := tk_okA _ _ _ (by rw [w3]; exact hz)
  have hC := (hV.2 (pu_M g t n T r p).2.2).2.1
  have hn : ∀ j, j < ig_C g (pu_M g t n T r p).2.2 → ig_it g N (4 * (pu_M g t n T r p).2.2 + j) := fun j hj y1 y2 => hNb _ j w1 hj y1 y2
  refine ⟨?_, tk_Av hV (pu_GS hG) _ _ _ hn hp hok⟩
  have := tk_Al hV (pu_GS hG) _ _ _ hn hp hok
  show (tk_A g t n T (ig_C g (pu_M g t n T r p).2.2) (4 * (pu_M g t n T r p).2.2) p).length ≤ 4 + n
  omega
end
section
variable {g : ig_T} {t : Nat → Nat} {n R cp : Nat} {fz oR oN e1 e2 e3 e4 sp cc : Int32} {kd kA kB tR tS tE tP re ex nu ed rm sR sS sE sP cR cS cE : Nat → Int32} {T : Nat → Nat → Nat × Nat} {N : Nat → Bool}
theorem yc_add {post : SY → Prop} {C : List (Nat × Nat × Nat)} {s q e : Nat} (hl : C.length < 128) (hC : ch_A C cR cS cE) (h : ∀ cR cS cE : ar_T, ch_A (C ++ [(s, q, e)]) cR cS cE → post (nI R, nI cp, fz, nI (ig_A g), nI n, oR, oN, e1, e2, e3, e4, sp, nI (C ++ [(s, q, e)]).length, ip_e (ig_O g), ip_e (ig_C g), kd, kA, kB, ip_e (ig_M g), ip_e t, tR, tS, tE, tP, re, ex, nu, ed, rm, sR, sS, sE, sP, cR, cS, cE)) :
    wpY_addChild post (nI R, nI cp, fz, nI (ig_A g), nI n, oR, oN, e1, e2, e3, e4, sp, nI C.length, ip_e (ig_O g), ip_e (ig_C g), kd, kA, kB, ip_e (ig_M g), ip_e t, tR, tS, tE, tP, re, ex, nu, ed, rm, sR, sS, sE, sP, cR, cS, cE) (nI s) (nI q) (nI e) := by
  have hi : vp_in (nI C.length) 128 := vp_in_nI hl (by decide)
  have ec : (nI C.length).toNatClampNeg = C.length := nI_clamp (by omega)
  refine pk_le 128 C.length (fun z => by omega) (fun _ => ⟨hi, nm_r (by rw [ec]) ⟨hi, nm_r (by rw [ec]) ⟨hi, nm_r (by rw [ec]) (nm_r (nI_1 _) ?_)⟩⟩⟩)
  have h' := h _ _ _ (ch_add s q e hC)
  rw [List.length_append] at h'
  exact h'
theorem yc_21 {post : SY → Prop} {it m : Nat} (F : xk_F g t n R) (hb : ig_B g it = true) (hm : m = 2 ∨ m = 3) (hA : yk_A R n T re ex) (hS : pu_SA R n N T) : ∀ (f nn i q : Nat) (C : List (Nat × Nat × Nat)) (cR cS cE : ar_T), i + f = 26 → f < nn → q ≤ n →
    C.length + (tk_R g T it f q).length ≤ 127 → ch_A C cR cS cE → (∀ cR cS cE : ar_T, ch_A (C ++ tk_R g T it f q) cR cS cE → post (nI R, nI cp, fz, nI (ig_A g), nI n, oR, oN, e1, e2, e3, e4, sp, nI (C ++ tk_R g T it f q).length, ip_e (ig_O g), ip_e (ig_C g), kd, kA, kB, ip_e (ig_M g), ip_e t, tR, tS, tE, tP, re, ex, nu, ed, rm, sR, sS, sE, sP, cR, cS, cE)) →
    wY_collectItem_21 post (nI (ig_L g it)) (nI m) nn (nI q) (nI i) (nI R) (nI cp) fz (nI (ig_A g)) (nI n) oR oN e1 e2 e3 e4 sp (nI C.length) (ip_e (ig_O g)) (ip_e (ig_C g)) kd kA kB (ip_e (ig_M g)) (ip_e t) tR tS tE tP re ex nu ed rm sR sS sE sP cR cS cE := by
  have hn24 := F.1
  have hR8 := F.2.1
  have hl := (F.2.2.1.2 it).2.2.2.2.2 hb
  intro f
  induction f with
  | zero =>
    intro nn i q C cR cS cE hi hnn hq hc hC h
    obtain ⟨nn, rfl⟩ : ∃ k, nn = k + 1 := ⟨nn - 1, by omega⟩
    have h' := h cR cS cE (by show ch_A (C ++ []) _ _ _; rw [List.append_nil]; exact hC)
    rw [show C ++ tk_R g T it 0 q = C from List.append_nil C] at h'
    exact pk_le 26 i (fun _ => h') (fun z => by omega)
  | succ f ih =>
    intro nn i q C cR cS cE hi hnn hq hc hC h
    obtain ⟨nn, rfl⟩ : ∃ k, nn = k + 1 := ⟨nn - 1, by omega⟩
    have ec : (nI (ig_L g it * 25 + q)).toNatClampNeg = ig_L g it * 25 + q := nI_clamp (by omega)
    refine pk_le 26 i (fun z => by omega) (fun _ => ?_)
    rw [ip_l25]
    refine ⟨vp_in_nI (by omega) (by decide), nm_r (e' := ip_m (T (ig_L g it) q).1) (by rw [ec]; exact (hA _ q hl hq).1) ?_⟩
    cases hz : (T (ig_L g it) q).1 with
    | zero =>
      rw [tk_R0 hz, List.append_nil] at h
      exact ip_m0br (y := 0) rfl (by decide) (fun z => absurd rfl z) (fun _ => h cR cS cE hC)
    | succ e =>
      have he := ((hS _ q hl hq).2 e hz).2.1
      rw [tk_Rs hz] at h hc
      rw [List.length_cons] at hc
      refine ip_m0br (y := e + 1) rfl (by omega) (fun _ => yc_add (by omega) hC (fun cR cS cE hC' => ?_)) (fun z => by omega)
      refine pk_eq m 0 (fun z => by omega) (fun _ => pk_eq m 1 (fun z => by omega) (fun _ => nm_r (nI_1 i) ?_))
      have ea : ∀ Z, C ++ (ig_L g it, q, e) :: Z = (C ++ [(ig_L g it, q, e)]) ++ Z := fun Z => by rw [List.append_assoc]; rfl
      rw [ea] at h
      exact ih nn (i + 1) e (C ++ [(ig_L g it, q, e)]) cR cS cE (by omega) (by omega) he (by rw [List.length_append]; show C.length + 1 + _ ≤ 127; omega) hC' h
theorem yc_item {post : SY → Prop} {it q : Nat} {C : List (Nat × Nat × Nat)} (F : xk_F g t n R) (hg : yk_G g kd kA kB) (hit : it < 64) (gn : tk_g g it) (hn : ig_it g N it) (hq : q ≤ n) (hA : yk_A R n T re ex) (hS : pu_SA R n N T)
    (hc : C.length + (tk_I g n T it q).length ≤ 127) (hC : ch_A C cR cS cE) (h : ∀ cR cS cE : ar_T, ch_A (C ++ tk_I g n T it q) cR cS cE → post (nI R, nI cp, fz, nI (ig_A g), nI n, oR, oN, e1, e2, e3, e4, sp, nI (C ++ tk_I g n T it q).length, ip_e (ig_O g), ip_e (ig_C g), kd, kA, kB, ip_e (ig_M g), ip_e t, tR, tS, tE, tP, re, ex, nu, ed, rm, sR, sS, sE, sP, cR, cS, cE)) :
    wpY_collectItem post (nI R, nI cp, fz, nI (ig_A g), nI n, oR, oN, e1, e2, e3, e4, sp, nI C.length, ip_e (ig_O g), ip_e (ig_C g), kd, kA, kB, ip_e (ig_M g), ip_e t, tR, tS, tE, tP, re, ex, nu, ed, rm, sR, sS, sE, sP, cR, cS, cE) (nI it) (nI q) := by
  have hn24 := F.1
  have hR8 := F.2.1
  have hb := gn.1
  have hl := (F.2.2.1.2 it).2.2.2.2.2 hb
  have hi : vp_in (nI it) 64 := vp_in_nI hit (by decide)
  have c1 : it < 2 ^ 31 := by omega
  rw [tk_I, if_pos gn] at hc h
  refine ⟨hi, nm_r (e' := nI (ig_L g it)) ((ip_c kA c1).trans ((hg it).1 hb).2) ⟨hi, nm_r (ip_ce _ c1) ⟨27, ?_⟩⟩⟩
  by_cases r : ig_rep g it
  · have hP := pu_Pall (t := t) q F.2.2.1 hS hn r
    rw [tk_fr r, tk_Rf hb (n + 1) 26 q hq hP (by omega) (by omega)] at hc h
    exact yc_21 (N := N) F hb r hA hS 26 27 0 q C cR cS cE (by omega) (by omega) hq hc hC h
  · rw [tk_fn r] at hc h
    have hm := gn.2
    have ec : (nI (ig_L g it * 25 + q)).toNatClampNeg = ig_L g it * 25 + q := nI_clamp (by omega)
    refine pk_le 26 0 (fun z => by omega) (fun _ => ?_)
    rw [ip_l25]
    refine ⟨vp_in_nI (by omega) (by decide), nm_r (e' := ip_m (T (ig_L g it) q).1) (by rw [ec]; exact (hA _ q hl hq).1) ?_⟩
    cases hz : (T (ig_L g it) q).1 with
    | zero =>
      rw [tk_R0 hz, List.append_nil] at h
      exact ip_m0br (y := 0) rfl (by decide) (fun z => absurd rfl z) (fun _ => h cR cS cE hC)
    | succ e =>
      have he := ((hS _ q hl hq).2 e hz).2.1
      rw [tk_Rs hz] at h hc
      rw [List.length_cons] at hc
      refine ip_m0br (y := e + 1) rfl (by omega) (fun _ => yc_add (by omega) hC (fun cR cS cE hC' => ?_)) (fun z => by omega)
      have h' := h cR cS cE hC'
      exact pk_eq (ig_M g it) 0 (fun _ => h') (fun z0 => pk_eq (ig_M g it) 1 (fun _ => h') (fun z1 => absurd (show ig_rep g it by unfold ig_rep; omega) r))
theorem yc_141 {post : Int32 → SY → Prop} {k : Nat} (hk : k ≤ 127) (h : post (nI k) (nI R, nI cp, fz, nI (ig_A g), nI n, oR, oN, e1, e2, e3, e4, sp, nI k, ip_e (ig_O g), ip_e (ig_C g), kd, kA, kB, ip_e (ig_M g), ip_e t, tR, tS, tE, tP, re, ex, nu, ed, rm, sR, sS, sE, sP, cR, cS, cE)) : wY_collectChildren_141 post (nI R) (nI cp) fz (nI (ig_A g)) (nI n) oR oN e1 e2 e3 e4 sp (nI k) (ip_e (ig_O g)) (ip_e (ig_C g)) kd kA kB (ip_e (ig_M g)) (ip_e t) tR tS tE tP re ex nu ed rm sR sS sE sP cR cS cE := pk_le 128 k (fun z => by omega) (fun _ => h)
theorem yc_64 {post : Int32 → SY → Prop} {w : Nat} (F : xk_F g t n R) (hg : yk_G g kd kA kB) (hw : w < ig_A g) (hN : ig_Nb g N) (hA : yk_A R n T re ex) (hS : pu_SA R n N T) : ∀ (k nn i q : Nat) (C : List (Nat × Nat × Nat)) (cR cS cE : ar_T) (e1 e2 : Int32), i + k = ig_C g w → k < nn → q ≤ n →
    (pu_A g t n T k (4 * w + i) q).1 ≠ 0 → C.length + (tk_A g t n T k (4 * w + i) q).length ≤ 127 → ch_A C cR cS cE →
    (∀ (cR cS cE : ar_T) (e1 e2 : Int32), ch_A (C ++ tk_A g t n T k (4 * w + i) q) cR cS cE → post (nI (C ++ tk_A g t n T k (4 * w + i) q).length) (nI R, nI cp, fz, nI (ig_A g), nI n, oR, oN, e1, e2, e3, e4, sp, nI (C ++ tk_A g t n T k (4 * w + i) q).length, ip_e (ig_O g), ip_e (ig_C g), kd, kA, kB, ip_e (ig_M g), ip_e t, tR, tS, tE, tP, re, ex, nu, ed, rm, sR, sS, sE, sP, cR, cS, cE)) →
    wY_collectChildren_64 post (nI w) nn (nI q) (nI i) (nI R) (nI cp) fz (nI (ig_A g)) (nI n) oR oN e1 e2 e3 e4 sp (nI C.length) (ip_e (ig_O g)) (ip_e (ig_C g)) kd kA kB (ip_e (ig_M g)) (ip_e t) tR tS tE tP re ex nu ed rm sR sS sE sP cR cS cE := by
  have hn24 := F.1
  have h16 := F.2.2.1.1
  have hC4 := (F.2.2.1.2 w).2.1
  intro k
  induction k with
  | zero =>
    intro nn i q C cR cS cE e1 e2 hi hnn hq hs hc hC h
    obtain ⟨nn, rfl⟩ : ∃ k, nn = k + 1 := ⟨nn - 1, by omega⟩
    have h' := h cR cS cE e1 e2 (by show ch_A (C ++ []) _ _ _; rw [List.append_nil]; exact hC)
    rw [show C ++ tk_A g t n T 0 (4 * w + i) q = C from List.append_nil C] at h'
    exact ⟨vp_in_nI (by omega) (by decide), pk_le (ig_C g w) i (fun _ => yc_141 (by omega) h') (fun z => by omega) (ip_ce _ (by omega))⟩
  | succ k ih =>
    intro nn i q C cR cS cE e1 e2 hi hnn hq hs hc hC h
    obtain ⟨nn, rfl⟩ : ∃ k, nn = k + 1 := ⟨nn - 1, by omega⟩
    have hn : ig_it g N (4 * w + i) := fun y1 y2 => hN w i hw (by omega) y1 y2
    have hit : 4 * w + i < 64 := by omega
    have c1 : 4 * w + i < 2 ^ 31 := by omega
    have hM5 := (F.2.2.1.2 (4 * w + i)).2.2.1
    have hv : vp_in (nI (4 * w + i)) 64 := vp_in_nI hit (by decide)
    obtain ⟨e, he⟩ : ∃ e, (pu_I g t n T (4 * w + i) q).1 = e + 1 := by
      cases hz : (pu_I g t n T (4 * w + i) q).1 with
      | zero => rw [pu_A0 hz] at hs; exact absurd rfl hs
      | succ e => exact ⟨e, rfl⟩
    obtain ⟨b1, b2⟩ := (pu_Iall (t := t) F.2.2.1 hS hn hq).2 e he
    rw [pu_As he] at hs
    have et : tk_A g t n T (k + 1) (4 * w + i) q = tk_I g n T (4 * w + i) q ++ tk_A g t n T k (4 * w + i + 1) e := by
      show tk_I g n T (4 * w + i) q ++ tk_A g t n T k (4 * w + i + 1) (tk_x g t n T (4 * w + i) q) = _
      rw [tk_xI he]
    rw [et, ← List.append_assoc] at h
    rw [et, List.length_append] at hc
    -- behind the children of this item
    have next : ∀ (cR cS cE : ar_T) (e1 e2 : Int32), ch_A (C ++ tk_I g n T (4 * w + i) q) cR cS cE → wY_collectChildren_113 post (wY_collectChildren_64 post (nI w) nn) (nI w) (nI q) (nI i) (nI (4 * w + i)) (nI R) (nI cp) fz (nI (ig_A g)) (nI n) oR oN e1 e2 e3 e4 sp (nI (C ++ tk_I g n T (4 * w + i) q).length) (ip_e (ig_O g)) (ip_e (ig_C g)) kd kA kB (ip_e (ig_M g)) (ip_e t) tR tS tE tP re ex nu ed rm sR sS sE sP cR cS cE := by
      intro cR cS cE e1 e2 hC'
      unfold wY_collectChildren_113
      refine yt_item (T := T) (N := N) F hg hit hq hn hA hS (fun e1 => ?_)
      rw [he]
      refine ip_m0br (y := e + 1) rfl (by omega) (fun _ => nm_r (nI_1 i) ?_) (fun z => by omega)
      exact ih nn (i + 1) e (C ++ tk_I g n T (4 * w + i) q) cR cS cE e1 _ (by omega) (by omega) b2 hs (by rw [List.length_append]; exact Nat.le_trans (Nat.le_of_eq (Nat.add_assoc _ _ _)) hc) hC' h
    refine ⟨vp_in_nI (by omega) (by decide), pk_le (ig_C g w) i (fun z => by omega) (fun _ => nm_r (e' := nI (4 * w + i)) (ip_ls w i) ⟨hv, ?_⟩) (ip_ce _ (by omega))⟩
    by_cases b : ig_B g (4 * w + i) = true
    · refine br_t ((ip_c kd c1).trans ((hg _).1 b).1) ⟨hv, pk_lt 3 (ig_M g (4 * w + i)) (fun z => ?_) (fun z => ?_) rfl (ip_ce _ c1)⟩
      · have gn : ¬ tk_g g (4 * w + i) := fun y => by have := y.2; omega
        have e0 : tk_I g n T (4 * w + i) q = [] := by rw [tk_I, if_neg gn]
        have := next cR cS cE e1 e2 (by rw [e0, List.append_nil]; exact hC)
        rw [e0, List.append_nil] at this
        exact this
      · exact yc_item (T := T) (N := N) F hg hit ⟨b, z⟩ hn hq hA hS (by omega) hC (fun cR cS cE hC' => next cR cS cE e1 e2 hC')
    · have b' : ig_B g (4 * w + i) = false := by cases hb : ig_B g (4 * w + i) with | true => exact absurd hb b | false => rfl
      have k3 : ¬ kd (nI (4 * w + i)).toNatClampNeg = 3 := by
        rw [ip_c kd c1]
        rcases (hg _).2 b' with ⟨k, _⟩ | ⟨k, _⟩ | ⟨k, _⟩ <;> rw [k] <;> decide
      have gn : ¬ tk_g g (4 * w + i) := fun y => b y.1
      have e0 : tk_I g n T (4 * w + i) q = [] := by rw [tk_I, if_neg gn]
      have := next cR cS cE e1 e2 (by rw [e0, List.append_nil]; exact hC)
      rw [e0, List.append_nil] at this
      exact br_f k3 this
theorem yc_kids {post : Int32 → SY → Prop} {r p : Nat} (F : xk_F g t n R) (hg : yk_G g kd kA kB) (hN : ig_Nb g N) (hG : pu_G g t n R N T) (hA : yk_A R n T re ex) (hr : r < R) (hp : p ≤ n) (hz : (T r p).1 ≠ 0)
    (h : ∀ (cR cS cE : ar_T) (e1 e2 e3 : Int32), ch_A (tk_K g t n T r p) cR cS cE → post (nI (tk_K g t n T r p).length) (nI R, nI cp, fz, nI (ig_A g), nI n, oR, oN, e1, e2, e3, e4, sp, nI (tk_K g t n T r p).length, ip_e (ig_O g), ip_e (ig_C g), kd, kA, kB, ip_e (ig_M g), ip_e t, tR, tS, tE, tP, re, ex, nu, ed, rm, sR, sS, sE, sP, cR, cS, cE)) :
    wpY_collectChildren post (nI R, nI cp, fz, nI (ig_A g), nI n, oR, oN, e1, e2, e3, e4, sp, cc, ip_e (ig_O g), ip_e (ig_C g), kd, kA, kB, ip_e (ig_M g), ip_e t, tR, tS, tE, tP, re, ex, nu, ed, rm, sR, sS, sE, sP, cR, cS, cE) (nI r) (nI p) := by
  have hn24 := F.1
  have hR8 := F.2.1
  have hV := F.2.2.1
  have h16 := hV.1
  have hS := pu_GS hG
  obtain ⟨w1, w2, w3, w4⟩ := pu_W hG hr hp hz
  have hl := (tk_Kv hV hN hG hr hp hz).1
  have key : ∀ (d nn a : Nat) (e1 e2 e3 : Int32), a + d = (pu_M g t n T r p).2.2 → d < nn → wY_collectChildren_10 post (nI r) (nI p) (-1) nn (nI a) (nI R) (nI cp) fz (nI (ig_A g)) (nI n) oR oN e1 e2 e3 e4 sp 0 (ip_e (ig_O g)) (ip_e (ig_C g)) kd kA kB (ip_e (ig_M g)) (ip_e t) tR tS tE tP re ex nu ed rm sR sS sE sP cR cS cE := by
    intro d
    induction d with
    | zero =>
      intro nn a e1 e2 e3 ha hnn
      obtain ⟨nn, rfl⟩ : ∃ k, nn = k + 1 := ⟨nn - 1, by omega⟩
      obtain rfl : a = (pu_M g t n T r p).2.2 := by omega
      refine pk_le (ig_A g) (pu_M g t n T r p).2.2 (fun z => by omega) (fun _ => ⟨vp_in_nI (by omega) (by decide), pk_eq (ig_O g (pu_M g t n T r p).2.2) r (fun _ => ?_) (fun z => absurd w2 z) (ip_ce _ (by omega))⟩)
      have hb := yf_Ab (T := T) (N := N) F hp w1 hN hS
      refine yf_alt (T := T) (N := N) F hg hp w1 hN hA hS (fun e1 e2 => ip_mlbr rfl (by omega) (fun z => absurd (w3.symm.trans z) hz) (fun _ => br_t (nI_pos' (by omega)) ⟨ig_C g (pu_M g t n T r p).2.2 + 1, ?_⟩))
      exact yc_64 (T := T) (N := N) F hg w1 hN hA hS _ _ 0 p [] cR cS cE e1 e2 (Nat.zero_add _) (Nat.lt_succ_self _) hp (by show (pu_A g t n T _ (4 * _) p).1 ≠ 0; rw [w3]; exact hz) (by show 0 + (tk_K g t n T r p).length ≤ 127; omega) (ch_0 _ _ _) (fun cR cS cE e1 e2 hC => h cR cS cE e1 e2 _ hC)
    | succ d ih =>
      intro nn a e1 e2 e3 ha hnn
      obtain ⟨nn, rfl⟩ : ∃ k, nn = k + 1 := ⟨nn - 1, by omega⟩
      have hO := (hV.2 a).1
      refine pk_le (ig_A g) a (fun z => by omega) (fun _ => ⟨vp_in_nI (by omega) (by decide), pk_eq (ig_O g a) r (fun ho => ?_) (fun _ => nm_r (nI_1 a) (ih nn (a + 1) e1 e2 e3 (by omega) (by omega))) (ip_ce _ (by omega))⟩)
      refine yf_alt (T := T) (N := N) F hg hp (by omega) hN hA hS (fun e1 e2 => ?_)
      rw [w4 a (by omega) ho]
      exact ip_mlbr (y := 0) rfl (by decide) (fun _ => nm_r (nI_1 a) (ih nn (a + 1) e1 e2 _ (by omega) (by omega))) (fun z => absurd rfl z)
  exact ⟨(pu_M g t n T r p).2.2 + 1, key _ _ 0 e1 e2 e3 (Nat.zero_add _) (Nat.lt_succ_self _)⟩
theorem yb_push {post : SY → Prop} {S : List tr_T} {x : tr_T} (hl : S.length < 2048) (hS : sk_H sR sS sE sP S) (h : ∀ sR sS sE sP : ar_T, sk_H sR sS sE sP (x :: S) → post (nI R, nI cp, fz, nI (ig_A g), nI n, oR, oN, e1, e2, e3, e4, nI (x :: S).length, cc, ip_e (ig_O g), ip_e (ig_C g), kd, kA, kB, ip_e (ig_M g), ip_e t, tR, tS, tE, tP, re, ex, nu, ed, rm, sR, sS, sE, sP, cR, cS, cE)) :
    wpY_push post (nI R, nI cp, fz, nI (ig_A g), nI n, oR, oN, e1, e2, e3, e4, nI S.length, cc, ip_e (ig_O g), ip_e (ig_C g), kd, kA, kB, ip_e (ig_M g), ip_e t, tR, tS, tE, tP, re, ex, nu, ed, rm, sR, sS, sE, sP, cR, cS, cE) (nI x.1) (nI x.2.1) (nI x.2.2.1) (ip_m x.2.2.2) := by
  have hi : vp_in (nI S.length) 2048 := vp_in_nI hl (by decide)
  have ec : (nI S.length).toNatClampNeg = S.length := nI_clamp (by omega)
  refine pk_le 2048 S.length (fun z => by omega) (fun _ => ⟨hi, nm_r (by rw [ec]) ⟨hi, nm_r (by rw [ec]) ⟨hi, nm_r (by rw [ec]) ⟨hi, nm_r (by rw [ec]) (nm_r (nI_1 _) ?_)⟩⟩⟩⟩)
  exact h _ _ _ _ ⟨pk_us, pk_us, pk_us, pk_us, sk_cg S S.length (Nat.le_refl _) (fun j hj => pk_un (by omega)) (fun j hj => pk_un (by omega)) (fun j hj => pk_un (by omega)) (fun j hj => pk_un (by omega)) hS⟩
theorem yb_159 {post : SY → Prop} {J : Int32 → Int32 → Int32 → Int32 → Int32 → Int32 → Int32 → Int32 → Int32 → Int32 → Int32 → Int32 → Int32 → Int32 → ar_T → ar_T → ar_T → ar_T → ar_T → ar_T → ar_T → ar_T → ar_T → ar_T → ar_T → ar_T → ar_T → ar_T → ar_T → ar_T → ar_T → ar_T → ar_T → ar_T → ar_T → ar_T → ar_T → Prop} {C : List (Nat × Nat × Nat)} {S : List tr_T} {m i : Nat}
    (hC : ch_A C cR cS cE) (hl : C.length ≤ 127) (hb : S.length + C.length ≤ 2048) (h : ∀ sR sS sE sP : ar_T, sk_H sR sS sE sP (C.map (tr_k (m + 1)) ++ S) → J (nI (i + 1)) (nI R) (nI cp) fz (nI (ig_A g)) (nI n) oR oN e1 e2 e3 e4 (nI (C.map (tr_k (m + 1)) ++ S).length) cc (ip_e (ig_O g)) (ip_e (ig_C g)) kd kA kB (ip_e (ig_M g)) (ip_e t) tR tS tE tP re ex nu ed rm sR sS sE sP cR cS cE) :
    ∀ (y nn : Nat) (sR sS sE sP : ar_T), y ≤ C.length → y < nn → sk_H sR sS sE sP ((C.drop y).map (tr_k (m + 1)) ++ S) → wY_buildTree_159 post J (nI i) (nI m) nn (ip_m y) (nI R) (nI cp) fz (nI (ig_A g)) (nI n) oR oN e1 e2 e3 e4 (nI ((C.drop y).map (tr_k (m + 1)) ++ S).length) cc (ip_e (ig_O g)) (ip_e (ig_C g)) kd kA kB (ip_e (ig_M g)) (ip_e t) tR tS tE tP re ex nu ed rm sR sS sE sP cR cS cE := by
  intro y
  induction y with
  | zero =>
    intro nn sR sS sE sP hy hnn hS
    obtain ⟨nn, rfl⟩ : ∃ k, nn = k + 1 := ⟨nn - 1, by omega⟩
    exact br_t (by decide) (nm_r (nI_1 i) (h sR sS sE sP hS))
  | succ y ih =>
    intro nn sR sS sE sP hy hnn hS
    obtain ⟨nn, rfl⟩ : ∃ k, nn = k + 1 := ⟨nn - 1, by omega⟩
    have hv : vp_in (nI y) 128 := vp_in_nI (by omega) (by decide)
    have ec : (nI y).toNatClampNeg = y := nI_clamp (by omega)
    obtain ⟨k1, k2, k3⟩ := hC y C[y] (List.getElem?_eq_getElem (by omega))
    have ed : C.drop y = C[y] :: C.drop (y + 1) := List.drop_eq_getElem_cons (by omega)
    have em : (C.drop y).map (tr_k (m + 1)) ++ S = tr_k (m + 1) C[y] :: ((C.drop (y + 1)).map (tr_k (m + 1)) ++ S) := by rw [ed]; rfl
    refine br_f (nI_pos (by omega)) ⟨hv, hv, hv, ?_⟩
    rw [ip_ms, ec, k1, k2, k3]
    refine yb_push (x := tr_k (m + 1) C[y]) ?_ hS (fun sR sS sE sP hS' => nm_r (ip_dec y) ?_)
    · rw [List.length_append, List.length_map, List.length_drop]; omega
    · have := ih nn sR sS sE sP (by omega) (by omega) (by rw [em]; exact hS')
      rw [em] at this
      exact this
theorem yb_21 {post : SY → Prop} {L : List tr_T} (F : xk_F g t n R) (hg : yk_G g kd kA kB) (hN : ig_Nb g N) (hG : pu_G g t n R N T) (hA : yk_A R n T re ex)
    (h : ∀ (e1 e2 e3 sp cc : Int32) (tR tS tE tP sR sS sE sP cR cS cE : ar_T), tr_A L tR tS tE tP → post (nI R, nI cp, fz, nI (ig_A g), nI n, oR, nI L.length, e1, e2, e3, e4, sp, cc, ip_e (ig_O g), ip_e (ig_C g), kd, kA, kB, ip_e (ig_M g), ip_e t, tR, tS, tE, tP, re, ex, nu, ed, rm, sR, sS, sE, sP, cR, cS, cE)) :
    ∀ (f nn K : Nat) (S L0 : List tr_T) (e1 e2 e3 cc : Int32) (tR tS tE tP sR sS sE sP cR cS cE : ar_T), K + f = 65 → f < nn → L0.length = K → S.length ≤ 1 + 27 * K → (∀ x, x ∈ S → tk_v R n T (x.1, x.2.1, x.2.2.1)) → tr_A L0 tR tS tE tP → sk_H sR sS sE sP S →
    L0 ++ tr_L (tk_K g t n T) f S K = L → wY_buildTree_21 post nn (nI K) (nI R) (nI cp) fz (nI (ig_A g)) (nI n) oR (nI K) e1 e2 e3 e4 (nI S.length) cc (ip_e (ig_O g)) (ip_e (ig_C g)) kd kA kB (ip_e (ig_M g)) (ip_e t) tR tS tE tP re ex nu ed rm sR sS sE sP cR cS cE := by
  have hn24 := F.1
  have hR8 := F.2.1
  intro f
  induction f with
  | zero =>
    intro nn K S L0 e1 e2 e3 cc tR tS tE tP sR sS sE sP cR cS cE hK hnn hl hs hv hT hH hL
    obtain ⟨nn, rfl⟩ : ∃ k, nn = k + 1 := ⟨nn - 1, by omega⟩
    have hL' : L0 = L := by rw [← hL]; exact (List.append_nil L0).symm
    subst hL'
    have h' := h e1 e2 e3 (nI S.length) cc tR tS tE tP sR sS sE sP cR cS cE hT
    rw [hl] at h'
    exact pk_le 65 K (fun _ => h') (fun z => by omega)
  | succ f ih =>
    intro nn K S L0 e1 e2 e3 cc tR tS tE tP sR sS sE sP cR cS cE hK hnn hl hs hv hT hH hL
    obtain ⟨nn, rfl⟩ : ∃ k, nn = k + 1 := ⟨nn - 1, by omega⟩
    refine pk_le 65 K (fun z => by omega) (fun _ => ?_)
    cases S with
    | nil =>
      have hL' : L0 = L := by rw [← hL]; exact (List.append_nil L0).symm
      subst hL'
      have h' := h e1 e2 e3 0 cc tR tS tE tP sR sS sE sP cR cS cE hT
      rw [hl] at h'
      exact br_t rfl h'
    | cons x S =>
      rw [List.length_cons] at hs
      obtain ⟨k1, k2, k3, k4, k5⟩ := hH
      obtain ⟨v1, v2, v3⟩ := hv x List.mem_cons_self
      dsimp only at v1 v2 v3
      have hz : (T x.1 x.2.1).1 ≠ 0 := by omega
      have hvs : vp_in (nI S.length) 2048 := vp_in_nI (by omega) (by decide)
      have ec : (nI S.length).toNatClampNeg = S.length := nI_clamp (by omega)
      have hne : ¬ nI (x :: S).length = 0 := nI_ne0 (Nat.succ_pos _) (by rw [List.length_cons]; omega)
      obtain ⟨kl, kv⟩ := tk_Kv F.2.2.1 hN hG v1 v2 hz
      have hL' : (L0 ++ [x]) ++ tr_L (tk_K g t n T) f ((tk_K g t n T x.1 x.2.1).map (tr_k (K + 1)) ++ S) (K + 1) = L := by
        rw [← hL, List.append_assoc]
        rfl
      -- behind the node that was stored
      have go : ∀ (tR tS tE tP : ar_T), tr_A (L0 ++ [x]) tR tS tE tP → wY_buildTree_133 post (wY_buildTree_21 post nn) (nI K) (nI x.1) (nI x.2.1) (nI K) (nI R) (nI cp) fz (nI (ig_A g)) (nI n) oR (nI K) e1 e2 e3 e4 (nI S.length) cc (ip_e (ig_O g)) (ip_e (ig_C g)) kd kA kB (ip_e (ig_M g)) (ip_e t) tR tS tE tP re ex nu ed rm sR sS sE sP cR cS cE := by
        intro tR tS tE tP hT'
        refine nm_r (nI_1 K) (yc_kids (T := T) (N := N) F hg hN hG hA v1 v2 hz (fun cR cS cE e1 e2 e3 hC => nm_r (ip_dec1 _) ⟨(tk_K g t n T x.1 x.2.1).length + 1, ?_⟩))
        have e0 : ((tk_K g t n T x.1 x.2.1).drop (tk_K g t n T x.1 x.2.1).length).map (tr_k (K + 1)) ++ S = S := by rw [List.drop_length]; rfl
        have P := yb_159 (post := post) (J := wY_buildTree_21 post nn) (C := tk_K g t n T x.1 x.2.1) (S := S) (m := K) (i := K) (g := g) (t := t) (n := n) (R := R) (cp := cp) (fz := fz) (oR := oR) (oN := nI (K + 1)) (e1 := e1) (e2 := e2) (e3 := e3) (e4 := e4) (cc := nI (tk_K g t n T x.1 x.2.1).length) (kd := kd) (kA := kA) (kB := kB) (tR := tR) (tS := tS) (tE := tE) (tP := tP) (re := re) (ex := ex) (nu := nu) (ed := ed) (rm := rm)
          hC (by omega) (by omega) (fun sR sS sE sP hS' => ?_) (tk_K g t n T x.1 x.2.1).length ((tk_K g t n T x.1 x.2.1).length + 1) sR sS sE sP (Nat.le_refl _) (Nat.lt_succ_self _) (by rw [e0]; exact k5)
        · rw [e0] at P
          exact P
        · refine ih nn (K + 1) _ (L0 ++ [x]) e1 e2 e3 _ tR tS tE tP sR sS sE sP cR cS cE (by omega) (by omega) (by rw [List.length_append, hl]; rfl) ?_ (fun y hy => ?_) hT' hS' hL'
          · rw [List.length_append, List.length_map]; omega
          · rcases List.mem_append.mp hy with w | w
            · obtain ⟨c, hc1, hc2⟩ := List.mem_map.mp w
              subst hc2
              exact kv c hc1
            · exact hv y (List.mem_cons_of_mem x w)
      refine br_f hne (nm_r (e' := nI S.length) (by rw [List.length_cons]; exact nI_pred _) ⟨hvs, nm_r (e' := nI x.1) (by rw [ec]; exact k1) ⟨hvs, nm_r (e' := nI x.2.1) (by rw [ec]; exact k2) (pk_le 64 K (fun z => ?_) (fun z => ?_))⟩⟩)
      · refine go tR tS tE tP (tr_Aadd (fun _ _ => rfl) (fun _ _ => rfl) (fun _ _ => rfl) (fun _ _ => rfl) (fun w => by omega) hT)
      · have hvk : vp_in (nI K) 64 := vp_in_nI z (by decide)
        have eck : (nI K).toNatClampNeg = K := nI_clamp (by omega)
        refine ⟨hvk, nm_r (by rw [eck]) ⟨hvk, nm_r (by rw [eck]) ⟨hvs, hvk, nm_r (e' := upd tE K (nI x.2.2.1)) (by rw [eck, ec, k3]) ⟨hvs, hvk, nm_r (e' := upd tP K (ip_m x.2.2.2)) (by rw [eck, ec, k4]) ?_⟩⟩⟩⟩
        refine go _ _ _ _ (tr_Aadd (fun j hj => pk_un (by omega)) (fun j hj => pk_un (by omega)) (fun j hj => pk_un (by omega)) (fun j hj => pk_un (by omega)) (fun _ => ?_) hT)
        rw [hl]
        exact ⟨pk_us, pk_us, pk_us, pk_us⟩
theorem yb_tree {post : SY → Prop} {r p e : Nat} (F : xk_F g t n R) (hg : yk_G g kd kA kB) (hN : ig_Nb g N) (hG : pu_G g t n R N T) (hA : yk_A R n T re ex) (hr : r < R) (hp : p ≤ n) (hz : (T r p).1 = e + 1)
    (h : ∀ (e1 e2 e3 sp cc : Int32) (tR tS tE tP sR sS sE sP cR cS cE : ar_T), tr_A (tr_L (tk_K g t n T) 65 [(r, p, e, 0)] 0) tR tS tE tP → post (nI R, nI cp, fz, nI (ig_A g), nI n, oR, nI (tr_L (tk_K g t n T) 65 [(r, p, e, 0)] 0).length, e1, e2, e3, e4, sp, cc, ip_e (ig_O g), ip_e (ig_C g), kd, kA, kB, ip_e (ig_M g), ip_e t, tR, tS, tE, tP, re, ex, nu, ed, rm, sR, sS, sE, sP, cR, cS, cE)) :
    wpY_buildTree post (nI R, nI cp, fz, nI (ig_A g), nI n, oR, oN, e1, e2, e3, e4, sp, cc, ip_e (ig_O g), ip_e (ig_C g), kd, kA, kB, ip_e (ig_M g), ip_e t, tR, tS, tE, tP, re, ex, nu, ed, rm, sR, sS, sE, sP, cR, cS, cE) (nI r) (nI p) (nI e) := by
  unfold wpY_buildTree
  dsimp only
  refine yb_push (S := []) (x := (r, p, e, 0)) (by decide) trivial (fun sR sS sE sP hS => ⟨66, ?_⟩)
  refine yb_21 (T := T) (N := N) (L := tr_L (tk_K g t n T) 65 [(r, p, e, 0)] 0) F hg hN hG hA h 65 66 0 [(r, p, e, 0)] [] e1 e2 e3 cc tR tS tE tP sR sS sE sP cR cS cE (by omega) (by omega) rfl (Nat.le_refl 1) (fun x hx => ?_) (tr_A0 _ _ _ _) hS rfl
  rw [List.mem_singleton.mp hx]
  exact ⟨hr, hp, hz⟩
theorem yp_parse {post : Int32 → SY → Prop} {r p : Nat} {rk : Nat → Nat} (F : xk_F g t n R) (hg : yk_G g kd kA kB) (hK : ig_K g R N rk) (hG : pu_G g t n R N T) (hr : r < R) (hp : p ≤ n)
    (h : ∀ (e1 e2 e3 e4 sp cc : Int32) (re ex tR tS tE tP sR sS sE sP cR cS cE : ar_T), tr_A (xp_A T (tk_K g t n T) r p) tR tS tE tP → post (ip_m (T r p).1) (nI R, nI cp, 1, nI (ig_A g), nI n, ip_m (T r p).2, nI (xp_A T (tk_K g t n T) r p).length, e1, e2, e3, e4, sp, cc, ip_e (ig_O g), ip_e (ig_C g), kd, kA, kB, ip_e (ig_M g), ip_e t, tR, tS, tE, tP, re, ex, nu, ed, rm, sR, sS, sE, sP, cR, cS, cE)) :
    wpY_parse post (nI R, nI cp, 1, nI (ig_A g), nI n, oR, oN, e1, e2, e3, e4, sp, cc, ip_e (ig_O g), ip_e (ig_C g), kd, kA, kB, ip_e (ig_M g), ip_e t, tR, tS, tE, tP, re, ex, nu, ed, rm, sR, sS, sE, sP, cR, cS, cE) (nI r) (nI p) := by
  have hn24 := F.1
  have hR8 := F.2.1
  have hc : r * 25 + p < 200 := by omega
  have hi : vp_in (nI (r * 25 + p)) 200 := vp_in_nI hc (by decide)
  have ec : (nI (r * 25 + p)).toNatClampNeg = r * 25 + p := nI_clamp (by omega)
  refine br_f (by decide) (br_f (nI_pos (by omega)) (pk_le R r (fun z => by omega) (fun _ => br_f (nI_pos (by omega)) (pk_le p n (fun _ => ?_) (fun z => by omega)))))
  refine yf_table (G := T) (N := N) (rk := rk) F hg hK hG (fun e1 e2 e3 e4 re ex hA => nm_r (ip_l25 r p) ⟨hi, ?_⟩)
  obtain ⟨q1, q2⟩ := hA r p hr hp
  refine nm_r (e' := ip_m (T r p).2) (by rw [ec]; exact q2) ⟨hi, nm_r (e' := ip_m (T r p).1) (by rw [ec]; exact q1) ?_⟩
  have q4 := (hG r p hr hp).2.2
  cases hz : (T r p).1 with
  | zero =>
    have hl : xp_A T (tk_K g t n T) r p = [] := if_pos hz
    have h' := h e1 e2 e3 e4 sp cc re ex tR tS tE tP sR sS sE sP cR cS cE (by rw [hl]; exact tr_A0 _ _ _ _)
    rw [hl, hz] at h'
    exact ip_m0br (y := 0) rfl (by decide) (fun z => absurd rfl z) (fun _ => h')
  | succ e =>
    have he := (q4 e hz).2.1
    have hl : xp_A T (tk_K g t n T) r p = tr_L (tk_K g t n T) 65 [(r, p, e, 0)] 0 := by
      unfold xp_A
      rw [if_neg (by omega), hz]
      rfl
    rw [hl, hz] at h
    refine ip_m0br (y := e + 1) rfl (by omega) (fun _ => ?_) (fun z => by omega)
    exact yb_tree (T := T) (N := N) F hg hK.2.1 hG hA hr hp hz (fun e1 e2 e3 sp cc tR tS tE tP sR sS sE sP cR cS cE hT => h e1 e2 e3 e4 sp cc re ex tR tS tE tP sR sS sE sP cR cS cE hT)
end
