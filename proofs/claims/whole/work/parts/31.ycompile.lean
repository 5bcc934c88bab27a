/-! the reference's compile -/
section
variable {g : ig_T} {t : Nat → Nat} {n R cp : Nat} {fz oR oN e1 e2 e3 e4 sp cc : Int32} {kd kA kB tR tS tE tP re ex nu ed rm sR sS sE sP cR cS cE : Nat → Int32} {N O : Nat → Bool}
theorem yc_kind {j : Nat} (hg : yk_G g kd kA kB) (h : ¬ ig_B g j = true) : ¬ kd j = 3 := by
  have b' : ig_B g j = false := by cases hb : ig_B g j with | true => exact absurd hb h | false => rfl
  rcases (hg j).2 b' with ⟨k, _⟩ | ⟨k, _⟩ | ⟨k, _⟩ <;> rw [k] <;> decide
theorem yn_item {post : Int32 → Prop} {it : Nat} (F : xk_F g t n R) (hg : yk_G g kd kA kB) (hit : it < 64) (h : post (ip_b (ig_nb g N it))) : wpY_itemNullable post (nI R, nI cp, fz, nI (ig_A g), nI n, oR, oN, e1, e2, e3, e4, sp, cc, ip_e (ig_O g), ip_e (ig_C g), kd, kA, kB, ip_e (ig_M g), ip_e t, tR, tS, tE, tP, re, ex, ip_eb N, ed, rm, sR, sS, sE, sP, cR, cS, cE) (nI it) := by
  have hR8 := F.2.1
  obtain ⟨_, _, hM, hL, _, hB⟩ := F.2.2.1.2 it
  have c1 : it < 2 ^ 31 := by omega
  have hi : vp_in (nI it) 64 := vp_in_nI hit (by decide)
  have ht : (ig_M g it ≠ 0 ∧ ig_M g it ≠ 3) → post 1 := fun hm => by
    have e : ig_nb g N it = true := (ig_nbI g N it).mpr (Or.inl hm)
    rw [e] at h; exact h
  refine ⟨hi, nm_r (ip_ce _ c1) (pk_eq (ig_M g it) 1 (fun z => ht (by omega)) (fun z1 => pk_eq (ig_M g it) 2 (fun z => ht (by omega)) (fun z2 => pk_eq (ig_M g it) 4 (fun z => ht (by omega)) (fun z4 => pk_eq (ig_M g it) 5 (fun z => ht (by omega)) (fun z5 => ⟨hi, ?_⟩)))))⟩
  by_cases b : ig_B g it = true
  · obtain ⟨k1, k2⟩ := (hg it).1 b
    refine br_t ((ip_c kd c1).trans k1) ⟨hi, ?_, ip_br (b := N (ig_L g it)) ?_ (fun b2 => ?_) (fun b2 => ?_)⟩
    · rw [ip_c kA c1, k2]; exact vp_in_nI (by have := hB b; omega) (by decide)
    · rw [ip_c kA c1, k2]; exact ip_cb N (by omega)
    · have e : ig_nb g N it = false := (ig_nbF g N it).mpr (fun w => w.elim (fun w => by omega) (fun w => by rw [b2] at w; exact absurd w.2 (by decide)))
      rw [e] at h; exact h
    · have e : ig_nb g N it = true := (ig_nbI g N it).mpr (Or.inr ⟨b, b2⟩)
      rw [e] at h; exact h
  · refine br_f (by rw [ip_c kd c1]; exact yc_kind hg b) ?_
    have e : ig_nb g N it = false := (ig_nbF g N it).mpr (fun w => w.elim (fun w => by omega) (fun w => b w.1))
    rw [e] at h; exact h
theorem yn_alt {post : Int32 → Prop} {a : Nat} (F : xk_F g t n R) (hg : yk_G g kd kA kB) (ha : a < 16) (h : post (ip_b (cp_a g N (ig_C g a) (4 * a)))) : wpY_altNullable post (nI R, nI cp, fz, nI (ig_A g), nI n, oR, oN, e1, e2, e3, e4, sp, cc, ip_e (ig_O g), ip_e (ig_C g), kd, kA, kB, ip_e (ig_M g), ip_e t, tR, tS, tE, tP, re, ex, ip_eb N, ed, rm, sR, sS, sE, sP, cR, cS, cE) (nI a) := by
  have hC := (F.2.2.1.2 a).2.1
  have key : ∀ (k nn i : Nat), i + k = ig_C g a → k < nn → post (ip_b (cp_a g N k (4 * a + i))) → wY_altNullable_2 post (nI a) (nI R) (nI cp) fz (nI (ig_A g)) (nI n) oR oN e1 e2 e3 e4 sp cc (ip_e (ig_O g)) (ip_e (ig_C g)) kd kA kB (ip_e (ig_M g)) (ip_e t) tR tS tE tP re ex (ip_eb N) ed rm sR sS sE sP cR cS cE nn (nI i) := by
    intro k
    induction k with
    | zero =>
      intro nn i hi hnn hp
      obtain ⟨nn, rfl⟩ : ∃ k, nn = k + 1 := ⟨nn - 1, by omega⟩
      exact ⟨vp_in_nI ha (by decide), pk_le (ig_C g a) i (fun _ => hp) (fun z => by omega) (ip_ce _ (by omega))⟩
    | succ k ih =>
      intro nn i hi hnn hp
      obtain ⟨nn, rfl⟩ : ∃ k, nn = k + 1 := ⟨nn - 1, by omega⟩
      refine ⟨vp_in_nI ha (by decide), pk_le (ig_C g a) i (fun z => by omega) (fun _ => ?_) (ip_ce _ (by omega))⟩
      rw [ip_ls]
      have hp' : post (ip_b (ig_nb g N (4 * a + i) && cp_a g N k (4 * a + i + 1))) := hp
      refine yn_item F hg (by omega) (ip_br rfl (fun b => ?_) (fun b => nm_r (nI_1 i) (ih nn (i + 1) (by omega) (by omega) ?_)))
      · rw [b] at hp'; exact hp'
      · rw [b] at hp'; exact hp'
  exact ⟨ig_C g a + 1, key _ _ 0 (Nat.zero_add _) (Nat.lt_succ_self _) h⟩
theorem yn_40 {post : Int32 → SY → Prop} {J : Int32 → ar_T → ar_T → ar_T → ar_T → ar_T → ar_T → ar_T → ar_T → ar_T → ar_T → ar_T → ar_T → ar_T → ar_T → ar_T → ar_T → ar_T → ar_T → ar_T → ar_T → ar_T → ar_T → ar_T → Prop} {i : Nat} (F : xk_F g t n R) (hg : yk_G g kd kA kB) :
    ∀ (k nn a : Nat) (N : Nat → Bool), a + k = ig_A g → k < nn → J (nI (i + 1)) (ip_e (ig_O g)) (ip_e (ig_C g)) kd kA kB (ip_e (ig_M g)) (ip_e t) tR tS tE tP re ex (ip_eb (cp_l g k a N)) ed rm sR sS sE sP cR cS cE → wY_compile_40 post J (nI i) (nI R) (nI cp) fz (nI (ig_A g)) (nI n) oR oN e1 e2 e3 e4 sp cc nn (nI a) (ip_e (ig_O g)) (ip_e (ig_C g)) kd kA kB (ip_e (ig_M g)) (ip_e t) tR tS tE tP re ex (ip_eb N) ed rm sR sS sE sP cR cS cE := by
  have h16 := F.2.2.1.1
  have hR8 := F.2.1
  intro k
  induction k with
  | zero =>
    intro nn a N ha hnn h
    obtain ⟨nn, rfl⟩ : ∃ k, nn = k + 1 := ⟨nn - 1, by omega⟩
    exact pk_le (ig_A g) a (fun _ => nm_r (nI_1 i) h) (fun z => by omega)
  | succ k ih =>
    intro nn a N ha hnn h
    obtain ⟨nn, rfl⟩ : ∃ k, nn = k + 1 := ⟨nn - 1, by omega⟩
    have hO := (F.2.2.1.2 a).1
    have c1 : a < 2 ^ 31 := by omega
    have h' : J (nI (i + 1)) (ip_e (ig_O g)) (ip_e (ig_C g)) kd kA kB (ip_e (ig_M g)) (ip_e t) tR tS tE tP re ex (ip_eb (cp_l g k (a + 1) (if cp_a g N (ig_C g a) (4 * a) = true then ip_u N (ig_O g a) true else N))) ed rm sR sS sE sP cR cS cE := h
    refine pk_le (ig_A g) a (fun z => by omega) (fun _ => yn_alt F hg (by omega) (ip_br rfl (fun b => nm_r (nI_1 a) ?_) (fun b => ⟨vp_in_nI (by omega) (by decide), ?_, nm_r (e' := ip_eb (ip_u N (ig_O g a) true)) ?_ (nm_r (nI_1 a) ?_)⟩)))
    · rw [if_neg (by rw [b]; decide)] at h'
      exact ih nn (a + 1) N (by omega) (by omega) h'
    · rw [ip_ce _ c1]; exact vp_in_nI (by omega) (by decide)
    · rw [ip_ce _ c1, nI_clamp (by omega)]; exact ip_ueb N _ true
    · rw [if_pos b] at h'
      exact ih nn (a + 1) _ (by omega) (by omega) h'
theorem yn_32 {post : Int32 → SY → Prop} (F : xk_F g t n R) (hg : yk_G g kd kA kB) : ∀ (d nn i : Nat) (N : Nat → Bool), i + d = 9 → d < nn → (∃ n82, wY_compile_82 post (nI R) (nI cp) fz (nI (ig_A g)) (nI n) oR oN e1 e2 e3 e4 sp cc (ip_e (ig_O g)) (ip_e (ig_C g)) kd kA kB (ip_e (ig_M g)) (ip_e t) tR tS tE tP re ex (ip_eb (cp_r g d N)) ed rm sR sS sE sP cR cS cE n82 0) → wY_compile_32 post (nI R) (nI cp) fz (nI (ig_A g)) (nI n) oR oN e1 e2 e3 e4 sp cc nn (nI i) (ip_e (ig_O g)) (ip_e (ig_C g)) kd kA kB (ip_e (ig_M g)) (ip_e t) tR tS tE tP re ex (ip_eb N) ed rm sR sS sE sP cR cS cE := by
  intro d
  induction d with
  | zero =>
    intro nn i N hi hnn h
    obtain ⟨nn, rfl⟩ : ∃ k, nn = k + 1 := ⟨nn - 1, by omega⟩
    exact pk_le 9 i (fun _ => h) (fun z => by omega)
  | succ d ih =>
    intro nn i N hi hnn h
    obtain ⟨nn, rfl⟩ : ∃ k, nn = k + 1 := ⟨nn - 1, by omega⟩
    refine pk_le 9 i (fun z => by omega) (fun _ => ⟨ig_A g + 1, yn_40 F hg (ig_A g) (ig_A g + 1) 0 N (Nat.zero_add _) (Nat.lt_succ_self _) ?_⟩)
    exact ih nn (i + 1) _ (by omega) (by omega) h
theorem yn_11 {post : Int32 → SY → Prop} (F : xk_F g t n R) (hg : yk_G g kd kA kB) (hN : ∀ j, 8 ≤ j → N j = false) (h : ∃ n82, wY_compile_82 post (nI R) (nI cp) fz (nI (ig_A g)) (nI n) oR oN e1 e2 e3 e4 sp cc (ip_e (ig_O g)) (ip_e (ig_C g)) kd kA kB (ip_e (ig_M g)) (ip_e t) tR tS tE tP re ex (ip_eb (cp_N g R)) ed rm sR sS sE sP cR cS cE n82 0) : ∃ n11, wY_compile_11 post (nI R) (nI cp) fz (nI (ig_A g)) (nI n) oR oN e1 e2 e3 e4 sp cc n11 0 (ip_e (ig_O g)) (ip_e (ig_C g)) kd kA kB (ip_e (ig_M g)) (ip_e t) tR tS tE tP re ex (ip_eb N) ed rm sR sS sE sP cR cS cE := by
  have hR8 := F.2.1
  have h' : ∃ n82, wY_compile_82 post (nI R) (nI cp) fz (nI (ig_A g)) (nI n) oR oN e1 e2 e3 e4 sp cc (ip_e (ig_O g)) (ip_e (ig_C g)) kd kA kB (ip_e (ig_M g)) (ip_e t) tR tS tE tP re ex (ip_eb (cp_r g 9 (fun _ => false))) ed rm sR sS sE sP cR cS cE n82 0 := by
    rw [cp_rmore F.2.2.1 (fun _ => false) (m := 9) (by omega)]
    exact h
  have key : ∀ (d nn i : Nat) (N : Nat → Bool), i + d = 8 → d < nn → (∀ j, j < i ∨ 8 ≤ j → N j = false) → wY_compile_11 post (nI R) (nI cp) fz (nI (ig_A g)) (nI n) oR oN e1 e2 e3 e4 sp cc nn (nI i) (ip_e (ig_O g)) (ip_e (ig_C g)) kd kA kB (ip_e (ig_M g)) (ip_e t) tR tS tE tP re ex (ip_eb N) ed rm sR sS sE sP cR cS cE := by
    intro d
    induction d with
    | zero =>
      intro nn i N hi hnn hc
      obtain ⟨nn, rfl⟩ : ∃ k, nn = k + 1 := ⟨nn - 1, by omega⟩
      have e : N = fun _ => false := funext fun j => hc j (by omega)
      subst e
      exact pk_le 8 i (fun _ => ⟨10, yn_32 F hg 9 10 0 _ (by omega) (by omega) h'⟩) (fun z => by omega)
    | succ d ih =>
      intro nn i N hi hnn hc
      obtain ⟨nn, rfl⟩ : ∃ k, nn = k + 1 := ⟨nn - 1, by omega⟩
      refine pk_le 8 i (fun z => by omega) (fun _ => ⟨vp_in_nI (by omega) (by decide), nm_r (e' := ip_eb (ip_u N i false)) ?_ (nm_r (nI_1 i) ?_)⟩)
      · rw [nI_clamp (by omega)]; exact ip_ueb N i false
      · exact ih nn (i + 1) _ (by omega) (by omega) (cp_clr hc (by omega))
  exact ⟨9, key 8 9 0 N (by omega) (by omega) (fun j hj => hN j (by omega))⟩
/-- the scan for a bad repeat -/
theorem yn_82 {post : Int32 → SY → Prop} (F : xk_F g t n R) (hg : yk_G g kd kA kB) (h2 : ¬ ig_Nb g N → post 2 (nI R, nI cp, fz, nI (ig_A g), nI n, oR, oN, e1, e2, e3, e4, sp, cc, ip_e (ig_O g), ip_e (ig_C g), kd, kA, kB, ip_e (ig_M g), ip_e t, tR, tS, tE, tP, re, ex, ip_eb N, ed, rm, sR, sS, sE, sP, cR, cS, cE)) (h1 : ig_Nb g N → ∃ n166, wY_compile_166 post (nI R) (nI cp) fz (nI (ig_A g)) (nI n) oR oN e1 e2 e3 e4 sp cc n166 0 (ip_e (ig_O g)) (ip_e (ig_C g)) kd kA kB (ip_e (ig_M g)) (ip_e t) tR tS tE tP re ex (ip_eb N) ed rm sR sS sE sP cR cS cE) : ∃ n82, wY_compile_82 post (nI R) (nI cp) fz (nI (ig_A g)) (nI n) oR oN e1 e2 e3 e4 sp cc (ip_e (ig_O g)) (ip_e (ig_C g)) kd kA kB (ip_e (ig_M g)) (ip_e t) tR tS tE tP re ex (ip_eb N) ed rm sR sS sE sP cR cS cE n82 0 := by
  have hR8 := F.2.1
  have h16 := F.2.2.1.1
  have key : ∀ (d nn x : Nat), x + d = 64 → d < nn → (∀ a i, a < ig_A g → i < ig_C g a → 4 * a + i < x → ¬ cp_bad g N (4 * a + i)) → wY_compile_82 post (nI R) (nI cp) fz (nI (ig_A g)) (nI n) oR oN e1 e2 e3 e4 sp cc (ip_e (ig_O g)) (ip_e (ig_C g)) kd kA kB (ip_e (ig_M g)) (ip_e t) tR tS tE tP re ex (ip_eb N) ed rm sR sS sE sP cR cS cE nn (nI x) := by
    intro d
    induction d with
    | zero =>
      intro nn x hx hnn hc
      obtain ⟨nn, rfl⟩ : ∃ k, nn = k + 1 := ⟨nn - 1, by omega⟩
      refine pk_le 64 x (fun _ => h1 ((cp_NbI g N).mpr (fun z => ?_))) (fun z => by omega)
      obtain ⟨a, ha, i, hi, hb⟩ := z
      have hC := (F.2.2.1.2 a).2.1
      exact hc a i ha hi (by omega) hb
    | succ d ih =>
      intro nn x hx hnn hc
      obtain ⟨nn, rfl⟩ : ∃ k, nn = k + 1 := ⟨nn - 1, by omega⟩
      have c1 : x < 2 ^ 31 := by omega
      have hv : vp_in (nI x) 64 := vp_in_nI (by omega) (by decide)
      obtain ⟨_, _, hM, hL, _, hB⟩ := F.2.2.1.2 x
      have hC := (F.2.2.1.2 (x / 4)).2.1
      have edv : nI x / 4 = nI (x / 4) := pk_div (d := 4) c1 (by decide) (by decide)
      have erm : nI x - nI x / 4 * 4 = nI (x % 4) := pk_rem (d := 4) c1 (by decide) (by decide)
      -- the next place, if this one is no bad repeat
      have next : (x / 4 < ig_A g → x % 4 < ig_C g (x / 4) → ¬ cp_bad g N x) → wY_compile_82 post (nI R) (nI cp) fz (nI (ig_A g)) (nI n) oR oN e1 e2 e3 e4 sp cc (ip_e (ig_O g)) (ip_e (ig_C g)) kd kA kB (ip_e (ig_M g)) (ip_e t) tR tS tE tP re ex (ip_eb N) ed rm sR sS sE sP cR cS cE nn (nI (x + 1)) := fun hb => by
        refine ih nn (x + 1) (by omega) (by omega) (fun a i ha hi hl => ?_)
        have hCa := (F.2.2.1.2 a).2.1
        rcases Nat.lt_or_ge (4 * a + i) x with z | z
        · exact hc a i ha hi z
        · have e1 : 4 * a + i = x := by omega
          have e2 : x / 4 = a := by omega
          have e3 : x % 4 = i := by omega
          rw [e1]
          exact hb (by rw [e2]; exact ha) (by rw [e2, e3]; exact hi)
      have h142 : x / 4 < ig_A g → x % 4 < ig_C g (x / 4) → ig_B g x = true → ig_rep g x → wY_compile_142 post (wY_compile_82 post (nI R) (nI cp) fz (nI (ig_A g)) (nI n) oR oN e1 e2 e3 e4 sp cc (ip_e (ig_O g)) (ip_e (ig_C g)) kd kA kB (ip_e (ig_M g)) (ip_e t) tR tS tE tP re ex (ip_eb N) ed rm sR sS sE sP cR cS cE nn) (nI x) (nI R) (nI cp) fz (nI (ig_A g)) (nI n) oR oN e1 e2 e3 e4 sp cc (ip_e (ig_O g)) (ip_e (ig_C g)) kd kA kB (ip_e (ig_M g)) (ip_e t) tR tS tE tP re ex (ip_eb N) ed rm sR sS sE sP cR cS cE := fun y1 y2 b rp => by
        refine ⟨hv, ?_, ip_br (b := N (ig_L g x)) ?_ (fun b2 => nm_r (nI_1 x) (next (fun _ _ w => ?_))) (fun b2 => h2 (fun w => (cp_NbI g N).mp w ⟨x / 4, y1, x % 4, y2, ?_⟩))⟩
        · rw [ip_c kA c1, ((hg x).1 b).2]; exact vp_in_nI (by have := hB b; omega) (by decide)
        · rw [ip_c kA c1, ((hg x).1 b).2]; exact ip_cb N (by omega)
        · rw [w.2.2] at b2; exact absurd b2 (by decide)
        · rw [show 4 * (x / 4) + x % 4 = x by omega]
          exact ⟨rp, b, b2⟩
      refine pk_le 64 x (fun z => by omega) (fun _ => ⟨by decide, nm_r edv (pk_le (ig_A g) (x / 4) (fun z => nm_r (nI_1 x) (next (fun y => by omega))) (fun y1 => ⟨by decide, vp_in_nI (by omega) (by decide), pk_le (ig_C g (x / 4)) (x % 4) (fun z => nm_r (nI_1 x) (next (fun _ y => by omega))) (fun y2 => ⟨hv, ?_⟩) (ip_ce _ (by omega)) erm⟩))⟩)
      by_cases b : ig_B g x = true
      · exact br_t ((ip_c kd c1).trans ((hg x).1 b).1) ⟨hv, pk_eq (ig_M g x) 2 (fun z => h142 y1 y2 b (Or.inl z)) (fun z2 => ⟨hv, pk_eq (ig_M g x) 3 (fun z => h142 y1 y2 b (Or.inr z)) (fun z3 => nm_r (nI_1 x) (next (fun _ _ w => w.1.elim z2 z3))) (ip_ce _ c1)⟩) (ip_ce _ c1)⟩
      · exact br_f (by rw [ip_c kd c1]; exact yc_kind hg b) (nm_r (nI_1 x) (next (fun _ _ w => b w.2.1)))
  exact ⟨65, key 64 65 0 (by omega) (by omega) (fun a i _ _ y => by omega)⟩
/-- the start calls of an alternative -/
def ye_S (g : ig_T) (N : Nat → Bool) (a k i x : Nat) : Prop := ∃ j, j < k ∧ ig_B g (4 * a + i + j) = true ∧ x = ig_O g a * 8 + ig_L g (4 * a + i + j) ∧ ∀ j', j' < j → ig_n g N (4 * a + i + j')
theorem ye_add {post : SY → Prop} {a : Nat} {E : Nat → Bool} (F : xk_F g t n R) (hg : yk_G g kd kA kB) (ha : a < 16) (h : ∀ E' : Nat → Bool, (∀ x, E' x = true ↔ E x = true ∨ ye_S g N a (ig_C g a) 0 x) → post (nI R, nI cp, fz, nI (ig_A g), nI n, oR, oN, e1, e2, e3, e4, sp, cc, ip_e (ig_O g), ip_e (ig_C g), kd, kA, kB, ip_e (ig_M g), ip_e t, tR, tS, tE, tP, re, ex, ip_eb N, ip_eb E', rm, sR, sS, sE, sP, cR, cS, cE)) :
    wpY_addEdges post (nI R, nI cp, fz, nI (ig_A g), nI n, oR, oN, e1, e2, e3, e4, sp, cc, ip_e (ig_O g), ip_e (ig_C g), kd, kA, kB, ip_e (ig_M g), ip_e t, tR, tS, tE, tP, re, ex, ip_eb N, ip_eb E, rm, sR, sS, sE, sP, cR, cS, cE) (nI a) := by
  have hR8 := F.2.1
  have hC := (F.2.2.1.2 a).2.1
  have hOa := (F.2.2.1.2 a).1
  have key : ∀ (k nn i : Nat) (E : Nat → Bool), i + k = ig_C g a → k < nn → (∀ E' : Nat → Bool, (∀ x, E' x = true ↔ E x = true ∨ ye_S g N a k i x) → post (nI R, nI cp, fz, nI (ig_A g), nI n, oR, oN, e1, e2, e3, e4, sp, cc, ip_e (ig_O g), ip_e (ig_C g), kd, kA, kB, ip_e (ig_M g), ip_e t, tR, tS, tE, tP, re, ex, ip_eb N, ip_eb E', rm, sR, sS, sE, sP, cR, cS, cE)) → wY_addEdges_2 post (nI a) (nI R) (nI cp) fz (nI (ig_A g)) (nI n) oR oN e1 e2 e3 e4 sp cc nn (nI i) (ip_e (ig_O g)) (ip_e (ig_C g)) kd kA kB (ip_e (ig_M g)) (ip_e t) tR tS tE tP re ex (ip_eb N) (ip_eb E) rm sR sS sE sP cR cS cE := by
    intro k
    induction k with
    | zero =>
      intro nn i E hi hnn p
      obtain ⟨nn, rfl⟩ : ∃ k, nn = k + 1 := ⟨nn - 1, by omega⟩
      refine ⟨vp_in_nI ha (by decide), pk_le (ig_C g a) i (fun _ => p E (fun x => ⟨Or.inl, fun w => w.elim id (fun w => ?_)⟩)) (fun z => by omega) (ip_ce _ (by omega))⟩
      obtain ⟨j, hj, _⟩ := w
      omega
    | succ k ih =>
      intro nn i E hi hnn p
      obtain ⟨nn, rfl⟩ : ∃ k, nn = k + 1 := ⟨nn - 1, by omega⟩
      have hit : 4 * a + i < 64 := by omega
      have c1 : 4 * a + i < 2 ^ 31 := by omega
      have c2 : a < 2 ^ 31 := by omega
      have hv : vp_in (nI (4 * a + i)) 64 := vp_in_nI hit (by decide)
      obtain ⟨_, _, hM, hL, _, hB⟩ := F.2.2.1.2 (4 * a + i)
      have sh : ∀ j, 4 * a + (i + 1) + j = 4 * a + i + (j + 1) := fun j => by omega
      -- behind the edge of this item
      have next : ∀ E1 : Nat → Bool, (∀ x, E1 x = true ↔ E x = true ∨ (ig_B g (4 * a + i) = true ∧ x = ig_O g a * 8 + ig_L g (4 * a + i))) →
          wY_addEdges_50 post (wY_addEdges_2 post (nI a) (nI R) (nI cp) fz (nI (ig_A g)) (nI n) oR oN e1 e2 e3 e4 sp cc nn) (nI a) (nI i) (nI (4 * a + i)) (nI R) (nI cp) fz (nI (ig_A g)) (nI n) oR oN e1 e2 e3 e4 sp cc (ip_e (ig_O g)) (ip_e (ig_C g)) kd kA kB (ip_e (ig_M g)) (ip_e t) tR tS tE tP re ex (ip_eb N) (ip_eb E1) rm sR sS sE sP cR cS cE := by
        intro E1 hE1
        unfold wY_addEdges_50
        refine yn_item F hg hit (ip_br rfl (fun b => p E1 (fun x => ?_)) (fun b => nm_r (nI_1 i) (ih nn (i + 1) E1 (by omega) (by omega) (fun E' hE' => p E' (fun x => ?_)))))
        · rw [hE1]
          constructor
          · rintro (w | w)
            · exact Or.inl w
            · exact Or.inr ⟨0, by omega, w.1, w.2, fun j' hj' => absurd hj' (Nat.not_lt_zero j')⟩
          · rintro (w | ⟨j, hj, w1, w2, w3⟩)
            · exact Or.inl w
            · cases j with
              | zero => exact Or.inr ⟨w1, w2⟩
              | succ j => exact absurd (w3 0 (by omega)) ((ig_nbF g N _).mp b)
        · rw [hE', hE1]
          constructor
          · rintro ((w | w) | ⟨j, hj, w1, w2, w3⟩)
            · exact Or.inl w
            · exact Or.inr ⟨0, by omega, w.1, w.2, fun j' hj' => absurd hj' (Nat.not_lt_zero j')⟩
            · rw [sh] at w1 w2
              refine Or.inr ⟨j + 1, by omega, w1, w2, fun j' hj' => ?_⟩
              cases j' with
              | zero => exact (ig_nbI g N _).mp b
              | succ j' => rw [← sh]; exact w3 j' (by omega)
          · rintro (w | ⟨j, hj, w1, w2, w3⟩)
            · exact Or.inl (Or.inl w)
            · cases j with
              | zero => exact Or.inl (Or.inr ⟨w1, w2⟩)
              | succ j =>
                rw [← sh] at w1 w2
                refine Or.inr ⟨j, by omega, w1, w2, fun j' hj' => ?_⟩
                rw [sh]
                exact w3 (j' + 1) (by omega)
      refine ⟨vp_in_nI ha (by decide), pk_le (ig_C g a) i (fun z => by omega) (fun _ => nm_r (e' := nI (4 * a + i)) (ip_ls a i) ⟨hv, ?_⟩) (ip_ce _ (by omega))⟩
      by_cases b : ig_B g (4 * a + i) = true
      · have hl := hB b
        have ei : ip_e (ig_O g) (nI a).toNatClampNeg * 8 + kA (nI (4 * a + i)).toNatClampNeg = nI (ig_O g a * 8 + ig_L g (4 * a + i)) := by
          rw [ip_ce _ c2, ip_c kA c1, ((hg _).1 b).2, ip_l8]
        refine br_t ((ip_c kd c1).trans ((hg _).1 b).1) ⟨vp_in_nI ha (by decide), hv, ?_, nm_r (e' := ip_eb (ip_u E (ig_O g a * 8 + ig_L g (4 * a + i)) true)) ?_ (next _ (fun x => ?_))⟩
        · rw [ei]; exact vp_in_nI (by omega) (by decide)
        · rw [ei, nI_clamp (by omega)]; exact ip_ueb E _ true
        · by_cases e : x = ig_O g a * 8 + ig_L g (4 * a + i)
          · rw [e, ip_us]; exact ⟨fun _ => Or.inr ⟨b, rfl⟩, fun _ => rfl⟩
          · rw [ip_un e]; exact ⟨Or.inl, fun w => w.elim id (fun w => absurd w.2 e)⟩
      · exact br_f (by rw [ip_c kd c1]; exact yc_kind hg b) (next E (fun x => ⟨Or.inl, fun w => w.elim id (fun w => absurd w.1 b)⟩))
  exact ⟨ig_C g a + 1, key _ _ 0 E (Nat.zero_add _) (Nat.lt_succ_self _) h⟩
/-- the edges are the start calls -/
def ye_E (g : ig_T) (N : Nat → Bool) (b : Nat) (E : Nat → Bool) : Prop := ∀ x, E x = true ↔ ∃ a, a < b ∧ ye_S g N a (ig_C g a) 0 x
theorem ye_SI {R r s : Nat} {E : Nat → Bool} (hV : ig_V g R) (hR : R ≤ 8) (hE : ye_E g N (ig_A g) E) (hs : s < 8) : E (r * 8 + s) = true ↔ ig_S g N r s := by
  rw [hE]
  constructor
  · rintro ⟨a, ha, j, hj, hb, hx, hn⟩
    have hl := (hV.2 _).2.2.2.2.2 hb
    rw [Nat.add_zero] at *
    have e1 : ig_O g a = r := by omega
    have e2 : ig_L g (4 * a + j) = s := by omega
    exact ⟨a, j, ha, e1, hj, hb, e2, hn⟩
  · rintro ⟨a, i, ha, ho, hi, hb, hl, hn⟩
    exact ⟨a, ha, i, hi, hb, by show r * 8 + s = ig_O g a * 8 + ig_L g (4 * a + i); rw [ho, hl], hn⟩
theorem ye_187 {post : Int32 → SY → Prop} (F : xk_F g t n R) (hg : yk_G g kd kA kB) (h : ∀ E : Nat → Bool, ye_E g N (ig_A g) E → ∃ n208, wY_compile_208 post (nI R) (nI cp) fz (nI (ig_A g)) (nI n) oR oN e1 e2 e3 e4 sp cc n208 0 (ip_e (ig_O g)) (ip_e (ig_C g)) kd kA kB (ip_e (ig_M g)) (ip_e t) tR tS tE tP re ex (ip_eb N) (ip_eb E) rm sR sS sE sP cR cS cE) :
    ∀ (k nn a : Nat) (E : Nat → Bool), a + k = ig_A g → k < nn → ye_E g N a E → wY_compile_187 post nn (nI a) (nI R) (nI cp) fz (nI (ig_A g)) (nI n) oR oN e1 e2 e3 e4 sp cc (ip_e (ig_O g)) (ip_e (ig_C g)) kd kA kB (ip_e (ig_M g)) (ip_e t) tR tS tE tP re ex (ip_eb N) (ip_eb E) rm sR sS sE sP cR cS cE := by
  have h16 := F.2.2.1.1
  intro k
  induction k with
  | zero =>
    intro nn a E ha hnn hE
    obtain ⟨nn, rfl⟩ : ∃ k, nn = k + 1 := ⟨nn - 1, by omega⟩
    obtain rfl : a = ig_A g := by omega
    exact pk_le (ig_A g) (ig_A g) (fun _ => h E hE) (fun z => by omega)
  | succ k ih =>
    intro nn a E ha hnn hE
    obtain ⟨nn, rfl⟩ : ∃ k, nn = k + 1 := ⟨nn - 1, by omega⟩
    refine pk_le (ig_A g) a (fun z => by omega) (fun _ => ye_add F hg (by omega) (fun E' hE' => nm_r (nI_1 a) (ih nn (a + 1) E' (by omega) (by omega) (fun x => ?_))))
    rw [hE', hE]
    constructor
    · rintro (⟨b, hb, w⟩ | w)
      · exact ⟨b, by omega, w⟩
      · exact ⟨a, by omega, w⟩
    · rintro ⟨b, hb, w⟩
      rcases Nat.lt_or_ge b a with z | z
      · exact Or.inl ⟨b, z, w⟩
      · have e : b = a := by omega
        rw [e] at w
        exact Or.inr w
theorem ye_166 {post : Int32 → SY → Prop} {E : Nat → Bool} (F : xk_F g t n R) (hg : yk_G g kd kA kB) (hE : ∀ j, 64 ≤ j → E j = false) (h : ∀ E : Nat → Bool, ye_E g N (ig_A g) E → ∃ n208, wY_compile_208 post (nI R) (nI cp) fz (nI (ig_A g)) (nI n) oR oN e1 e2 e3 e4 sp cc n208 0 (ip_e (ig_O g)) (ip_e (ig_C g)) kd kA kB (ip_e (ig_M g)) (ip_e t) tR tS tE tP re ex (ip_eb N) (ip_eb E) rm sR sS sE sP cR cS cE) :
    ∃ n166, wY_compile_166 post (nI R) (nI cp) fz (nI (ig_A g)) (nI n) oR oN e1 e2 e3 e4 sp cc n166 0 (ip_e (ig_O g)) (ip_e (ig_C g)) kd kA kB (ip_e (ig_M g)) (ip_e t) tR tS tE tP re ex (ip_eb N) (ip_eb E) rm sR sS sE sP cR cS cE := by
  have key : ∀ (d nn i : Nat) (E : Nat → Bool), i + d = 64 → d < nn → (∀ j, j < i ∨ 64 ≤ j → E j = false) → wY_compile_166 post (nI R) (nI cp) fz (nI (ig_A g)) (nI n) oR oN e1 e2 e3 e4 sp cc nn (nI i) (ip_e (ig_O g)) (ip_e (ig_C g)) kd kA kB (ip_e (ig_M g)) (ip_e t) tR tS tE tP re ex (ip_eb N) (ip_eb E) rm sR sS sE sP cR cS cE := by
    intro d
    induction d with
    | zero =>
      intro nn i E hi hnn hc
      obtain ⟨nn, rfl⟩ : ∃ k, nn = k + 1 := ⟨nn - 1, by omega⟩
      refine pk_le 64 i (fun _ => ⟨ig_A g + 1, ye_187 F hg h (ig_A g) (ig_A g + 1) 0 E (Nat.zero_add _) (Nat.lt_succ_self _) (fun x => ?_)⟩) (fun z => by omega)
      rw [hc x (by omega)]
      exact ⟨fun w => absurd w (by decide), fun ⟨a, ha, _⟩ => absurd ha (Nat.not_lt_zero a)⟩
    | succ d ih =>
      intro nn i E hi hnn hc
      obtain ⟨nn, rfl⟩ : ∃ k, nn = k + 1 := ⟨nn - 1, by omega⟩
      refine pk_le 64 i (fun z => by omega) (fun _ => ⟨vp_in_nI (by omega) (by decide), nm_r (e' := ip_eb (ip_u E i false)) ?_ (nm_r (nI_1 i) ?_)⟩)
      · rw [nI_clamp (by omega)]; exact ip_ueb E i false
      · exact ih nn (i + 1) _ (by omega) (by omega) (cp_clr hc (by omega))
  exact ⟨65, key 64 65 0 E (by omega) (by omega) (fun j hj => hE j (by omega))⟩
theorem ye_live {post : Int32 → Prop} {r : Nat} {E : Nat → Bool} (F : xk_F g t n R) (hr : r < R) (hE : ye_E g N (ig_A g) E) (h0 : (∀ s, ig_S g N r s → O s = true) → post 0) (h1 : ¬ (∀ s, ig_S g N r s → O s = true) → post 1) :
    wpY_hasLiveEdge post (nI R, nI cp, fz, nI (ig_A g), nI n, oR, oN, e1, e2, e3, e4, sp, cc, ip_e (ig_O g), ip_e (ig_C g), kd, kA, kB, ip_e (ig_M g), ip_e t, tR, tS, tE, tP, re, ex, ip_eb N, ip_eb E, ip_eb O, sR, sS, sE, sP, cR, cS, cE) (nI r) := by
  have hR8 := F.2.1
  have key : ∀ (d nn x : Nat), x + d = R → d < nn → (∀ s, s < x → ig_S g N r s → O s = true) → wY_hasLiveEdge_2 post (nI r) (nI R) (nI cp) fz (nI (ig_A g)) (nI n) oR oN e1 e2 e3 e4 sp cc (ip_e (ig_O g)) (ip_e (ig_C g)) kd kA kB (ip_e (ig_M g)) (ip_e t) tR tS tE tP re ex (ip_eb N) (ip_eb E) (ip_eb O) sR sS sE sP cR cS cE nn (nI x) := by
    intro d
    induction d with
    | zero =>
      intro nn x hx hnn hc
      obtain ⟨nn, rfl⟩ : ∃ k, nn = k + 1 := ⟨nn - 1, by omega⟩
      exact pk_le R x (fun _ => h0 (fun s hs => hc s (by have := pu_SS F.2.2.1 hs; omega) hs)) (fun z => by omega)
    | succ d ih =>
      intro nn x hx hnn hc
      obtain ⟨nn, rfl⟩ : ∃ k, nn = k + 1 := ⟨nn - 1, by omega⟩
      have hS := ye_SI (r := r) (s := x) F.2.2.1 hR8 hE (by omega)
      have next : (ig_S g N r x → O x = true) → wY_hasLiveEdge_2 post (nI r) (nI R) (nI cp) fz (nI (ig_A g)) (nI n) oR oN e1 e2 e3 e4 sp cc (ip_e (ig_O g)) (ip_e (ig_C g)) kd kA kB (ip_e (ig_M g)) (ip_e t) tR tS tE tP re ex (ip_eb N) (ip_eb E) (ip_eb O) sR sS sE sP cR cS cE nn (nI (x + 1)) := fun hx' => by
        refine ih nn (x + 1) (by omega) (by omega) (fun s hs hS' => ?_)
        rcases Nat.lt_or_ge s x with z | z
        · exact hc s z hS'
        · have e : s = x := by omega
          rw [e] at hS' ⊢
          exact hx' hS'
      refine pk_le R x (fun z => by omega) (fun _ => ?_)
      rw [ip_l8]
      refine ⟨vp_in_nI (by omega) (by decide), ip_br (ip_cb _ (by omega)) (fun b => nm_r (nI_1 x) (next (fun w => ?_))) (fun b => ⟨vp_in_nI (by omega) (by decide), ip_br (ip_cb _ (by omega)) (fun b2 => h1 (fun w => ?_)) (fun b2 => nm_r (nI_1 x) (next (fun _ => b2)))⟩)⟩
      · rw [hS.mpr w] at b; exact absurd b (by decide)
      · rw [w x (hS.mp b)] at b2; exact absurd b2 (by decide)
  exact ⟨R + 1, key R (R + 1) 0 (by omega) (by omega) (fun s hs => absurd hs (Nat.not_lt_zero s))⟩
theorem ye_239 {post : Int32 → SY → Prop} {J : Int32 → ar_T → ar_T → ar_T → ar_T → ar_T → ar_T → ar_T → ar_T → ar_T → ar_T → ar_T → ar_T → ar_T → ar_T → ar_T → ar_T → ar_T → ar_T → ar_T → ar_T → ar_T → ar_T → ar_T → Prop} {i : Nat} {E : Nat → Bool} (F : xk_F g t n R) (hE : ye_E g N (ig_A g) E) :
    ∀ (k nn r : Nat) (S : (Nat → Bool) × Nat × (Nat → Nat)), r + k = R → k < nn → J (nI (i + 1)) (ip_e (ig_O g)) (ip_e (ig_C g)) kd kA kB (ip_e (ig_M g)) (ip_e t) tR tS tE tP re ex (ip_eb N) (ip_eb E) (ip_eb (od_l g N k r S).1) sR sS sE sP cR cS cE → wY_compile_239 post J (nI i) (nI R) (nI cp) fz (nI (ig_A g)) (nI n) oR oN e1 e2 e3 e4 sp cc nn (nI r) (ip_e (ig_O g)) (ip_e (ig_C g)) kd kA kB (ip_e (ig_M g)) (ip_e t) tR tS tE tP re ex (ip_eb N) (ip_eb E) (ip_eb S.1) sR sS sE sP cR cS cE := by
  have hR8 := F.2.1
  intro k
  induction k with
  | zero =>
    intro nn r S hr hnn h
    obtain ⟨nn, rfl⟩ : ∃ k, nn = k + 1 := ⟨nn - 1, by omega⟩
    exact pk_le R r (fun _ => nm_r (nI_1 i) h) (fun z => by omega)
  | succ k ih =>
    intro nn r S hr hnn h
    obtain ⟨nn, rfl⟩ : ∃ k, nn = k + 1 := ⟨nn - 1, by omega⟩
    have c1 : r < 2 ^ 31 := by omega
    have hv : vp_in (nI r) 8 := vp_in_nI (by omega) (by decide)
    have h' : J (nI (i + 1)) (ip_e (ig_O g)) (ip_e (ig_C g)) kd kA kB (ip_e (ig_M g)) (ip_e t) tR tS tE tP re ex (ip_eb N) (ip_eb E) (ip_eb (od_l g N k (r + 1) (od_s g N r S)).1) sR sS sE sP cR cS cE := h
    refine pk_le R r (fun z => by omega) (fun _ => ⟨hv, ip_br (ip_cb _ c1) (fun b => ye_live F (by omega) hE (fun hs => br_t rfl ?_) (fun hs => br_f (by decide) (nm_r (nI_1 r) ?_))) (fun b => nm_r (nI_1 r) ?_)⟩)
    · rw [od_sT b hs] at h'
      exact ⟨hv, nm_r (e' := ip_eb (ip_u S.1 r true)) (by rw [nI_clamp c1]; exact ip_ueb _ _ true) (nm_r (nI_1 r) (ih nn (r + 1) (ip_u S.1 r true, S.2.1 + 1, ip_u S.2.2 S.2.1 r) (by omega) (by omega) h'))⟩
    · rw [od_sF (fun z => hs z.2)] at h'
      exact ih nn (r + 1) S (by omega) (by omega) h'
    · rw [od_sF (fun z => by rw [z.1] at b; exact absurd b (by decide))] at h'
      exact ih nn (r + 1) S (by omega) (by omega) h'
theorem ye_285 {post : Int32 → SY → Prop} (F : xk_F g t n R) (h0 : (∀ r, r < R → O r = true) → post 0 (nI R, nI cp, 1, nI (ig_A g), nI n, oR, oN, e1, e2, e3, e4, sp, cc, ip_e (ig_O g), ip_e (ig_C g), kd, kA, kB, ip_e (ig_M g), ip_e t, tR, tS, tE, tP, re, ex, nu, ed, ip_eb O, sR, sS, sE, sP, cR, cS, cE)) (h3 : ¬ (∀ r, r < R → O r = true) → post 3 (nI R, nI cp, fz, nI (ig_A g), nI n, oR, oN, e1, e2, e3, e4, sp, cc, ip_e (ig_O g), ip_e (ig_C g), kd, kA, kB, ip_e (ig_M g), ip_e t, tR, tS, tE, tP, re, ex, nu, ed, ip_eb O, sR, sS, sE, sP, cR, cS, cE)) : ∃ n285, wY_compile_285 post (nI R) (nI cp) fz (nI (ig_A g)) (nI n) oR oN e1 e2 e3 e4 sp cc (ip_e (ig_O g)) (ip_e (ig_C g)) kd kA kB (ip_e (ig_M g)) (ip_e t) tR tS tE tP re ex nu ed (ip_eb O) sR sS sE sP cR cS cE n285 0 := by
  have hR8 := F.2.1
  have key : ∀ (d nn x : Nat), x + d = R → d < nn → (∀ s, s < x → O s = true) → wY_compile_285 post (nI R) (nI cp) fz (nI (ig_A g)) (nI n) oR oN e1 e2 e3 e4 sp cc (ip_e (ig_O g)) (ip_e (ig_C g)) kd kA kB (ip_e (ig_M g)) (ip_e t) tR tS tE tP re ex nu ed (ip_eb O) sR sS sE sP cR cS cE nn (nI x) := by
    intro d
    induction d with
    | zero =>
      intro nn x hx hnn hc
      obtain ⟨nn, rfl⟩ : ∃ k, nn = k + 1 := ⟨nn - 1, by omega⟩
      exact pk_le R x (fun _ => h0 (fun s hs => hc s (by omega))) (fun z => by omega)
    | succ d ih =>
      intro nn x hx hnn hc
      obtain ⟨nn, rfl⟩ : ∃ k, nn = k + 1 := ⟨nn - 1, by omega⟩
      refine pk_le R x (fun z => by omega) (fun _ => ⟨vp_in_nI (by omega) (by decide), ip_br (ip_cb _ (by omega)) (fun b => h3 (fun w => ?_)) (fun b => nm_r (nI_1 x) (ih nn (x + 1) (by omega) (by omega) (fun s hs => ?_)))⟩)
      · rw [w x (by omega)] at b; exact absurd b (by decide)
      · rcases Nat.lt_or_ge s x with z | z
        · exact hc s z
        · rw [show s = x by omega]; exact b
  exact ⟨R + 1, key R (R + 1) 0 (by omega) (by omega) (fun s hs => absurd hs (Nat.not_lt_zero s))⟩
theorem ye_229 {post : Int32 → SY → Prop} {E : Nat → Bool} (F : xk_F g t n R) (hE : ye_E g N (ig_A g) E) : ∀ (d nn i : Nat) (S : (Nat → Bool) × Nat × (Nat → Nat)), i + d = R → d < nn →
    ((∀ r, r < R → (od_r g N R d S).1 r = true) → post 0 (nI R, nI cp, 1, nI (ig_A g), nI n, oR, oN, e1, e2, e3, e4, sp, cc, ip_e (ig_O g), ip_e (ig_C g), kd, kA, kB, ip_e (ig_M g), ip_e t, tR, tS, tE, tP, re, ex, ip_eb N, ip_eb E, ip_eb (od_r g N R d S).1, sR, sS, sE, sP, cR, cS, cE)) → (¬ (∀ r, r < R → (od_r g N R d S).1 r = true) → post 3 (nI R, nI cp, fz, nI (ig_A g), nI n, oR, oN, e1, e2, e3, e4, sp, cc, ip_e (ig_O g), ip_e (ig_C g), kd, kA, kB, ip_e (ig_M g), ip_e t, tR, tS, tE, tP, re, ex, ip_eb N, ip_eb E, ip_eb (od_r g N R d S).1, sR, sS, sE, sP, cR, cS, cE)) →
    wY_compile_229 post (nI R) (nI cp) fz (nI (ig_A g)) (nI n) oR oN e1 e2 e3 e4 sp cc nn (nI i) (ip_e (ig_O g)) (ip_e (ig_C g)) kd kA kB (ip_e (ig_M g)) (ip_e t) tR tS tE tP re ex (ip_eb N) (ip_eb E) (ip_eb S.1) sR sS sE sP cR cS cE := by
  have hR8 := F.2.1
  intro d
  induction d with
  | zero =>
    intro nn i S hi hnn h0 h3
    obtain ⟨nn, rfl⟩ : ∃ k, nn = k + 1 := ⟨nn - 1, by omega⟩
    exact pk_le R i (fun _ => ye_285 F h0 h3) (fun z => by omega)
  | succ d ih =>
    intro nn i S hi hnn h0 h3
    obtain ⟨nn, rfl⟩ : ∃ k, nn = k + 1 := ⟨nn - 1, by omega⟩
    refine pk_le R i (fun z => by omega) (fun _ => ⟨R + 1, ye_239 F hE R (R + 1) 0 S (Nat.zero_add _) (Nat.lt_succ_self _) ?_⟩)
    exact ih nn (i + 1) (od_l g N R 0 S) (by omega) (by omega) h0 h3
theorem ye_208 {post : Int32 → SY → Prop} {E : Nat → Bool} {rO : Nat → Nat} (F : xk_F g t n R) (hE : ye_E g N (ig_A g) E) (hO : ∀ j, 8 ≤ j → O j = false)
    (h0 : (∀ r, r < R → (od_r g N R R (fun _ => false, 0, rO)).1 r = true) → post 0 (nI R, nI cp, 1, nI (ig_A g), nI n, oR, oN, e1, e2, e3, e4, sp, cc, ip_e (ig_O g), ip_e (ig_C g), kd, kA, kB, ip_e (ig_M g), ip_e t, tR, tS, tE, tP, re, ex, ip_eb N, ip_eb E, ip_eb (od_r g N R R (fun _ => false, 0, rO)).1, sR, sS, sE, sP, cR, cS, cE)) (h3 : ¬ (∀ r, r < R → (od_r g N R R (fun _ => false, 0, rO)).1 r = true) → post 3 (nI R, nI cp, fz, nI (ig_A g), nI n, oR, oN, e1, e2, e3, e4, sp, cc, ip_e (ig_O g), ip_e (ig_C g), kd, kA, kB, ip_e (ig_M g), ip_e t, tR, tS, tE, tP, re, ex, ip_eb N, ip_eb E, ip_eb (od_r g N R R (fun _ => false, 0, rO)).1, sR, sS, sE, sP, cR, cS, cE)) :
    ∃ n208, wY_compile_208 post (nI R) (nI cp) fz (nI (ig_A g)) (nI n) oR oN e1 e2 e3 e4 sp cc n208 0 (ip_e (ig_O g)) (ip_e (ig_C g)) kd kA kB (ip_e (ig_M g)) (ip_e t) tR tS tE tP re ex (ip_eb N) (ip_eb E) (ip_eb O) sR sS sE sP cR cS cE := by
  have key : ∀ (d nn i : Nat) (O : Nat → Bool), i + d = 8 → d < nn → (∀ j, j < i ∨ 8 ≤ j → O j = false) → wY_compile_208 post (nI R) (nI cp) fz (nI (ig_A g)) (nI n) oR oN e1 e2 e3 e4 sp cc nn (nI i) (ip_e (ig_O g)) (ip_e (ig_C g)) kd kA kB (ip_e (ig_M g)) (ip_e t) tR tS tE tP re ex (ip_eb N) (ip_eb E) (ip_eb O) sR sS sE sP cR cS cE := by
    intro d
    induction d with
    | zero =>
      intro nn i O hi hnn hc
      obtain ⟨nn, rfl⟩ : ∃ k, nn = k + 1 := ⟨nn - 1, by omega⟩
      have e : O = fun _ => false := funext fun j => hc j (by omega)
      subst e
      exact pk_le 8 i (fun _ => ⟨R + 1, ye_229 F hE R (R + 1) 0 (fun _ => false, 0, rO) (Nat.zero_add _) (Nat.lt_succ_self _) h0 h3⟩) (fun z => by omega)
    | succ d ih =>
      intro nn i O hi hnn hc
      obtain ⟨nn, rfl⟩ : ∃ k, nn = k + 1 := ⟨nn - 1, by omega⟩
      refine pk_le 8 i (fun z => by omega) (fun _ => ⟨vp_in_nI (by omega) (by decide), nm_r (e' := ip_eb (ip_u O i false)) ?_ (nm_r (nI_1 i) ?_)⟩)
      · rw [nI_clamp (by omega)]; exact ip_ueb O i false
      · exact ih nn (i + 1) _ (by omega) (by omega) (cp_clr hc (by omega))
  exact ⟨9, key 8 9 0 O (by omega) (by omega) (fun j hj => hO j (by omega))⟩
theorem ye_compile {post : Int32 → SY → Prop} {E : Nat → Bool} {rO : Nat → Nat} (F : xk_F g t n R) (hg : yk_G g kd kA kB) (hN : ∀ j, 8 ≤ j → N j = false) (hO : ∀ j, 8 ≤ j → O j = false) (hE : ∀ j, 64 ≤ j → E j = false)
    (h2 : ¬ ig_Nb g (cp_N g R) → post 2 (nI R, nI cp, 0, nI (ig_A g), nI n, oR, oN, e1, e2, e3, e4, sp, cc, ip_e (ig_O g), ip_e (ig_C g), kd, kA, kB, ip_e (ig_M g), ip_e t, tR, tS, tE, tP, re, ex, ip_eb (cp_N g R), ip_eb E, ip_eb O, sR, sS, sE, sP, cR, cS, cE))
    (h3 : ∀ E : Nat → Bool, (∀ j, 64 ≤ j → E j = false) → ig_Nb g (cp_N g R) → (cp_O g R rO).2.1 ≠ R → post 3 (nI R, nI cp, 0, nI (ig_A g), nI n, oR, oN, e1, e2, e3, e4, sp, cc, ip_e (ig_O g), ip_e (ig_C g), kd, kA, kB, ip_e (ig_M g), ip_e t, tR, tS, tE, tP, re, ex, ip_eb (cp_N g R), ip_eb E, ip_eb (cp_O g R rO).1, sR, sS, sE, sP, cR, cS, cE))
    (h0 : ∀ E : Nat → Bool, (∀ j, 64 ≤ j → E j = false) → ig_Nb g (cp_N g R) → (cp_O g R rO).2.1 = R → post 0 (nI R, nI cp, 1, nI (ig_A g), nI n, oR, oN, e1, e2, e3, e4, sp, cc, ip_e (ig_O g), ip_e (ig_C g), kd, kA, kB, ip_e (ig_M g), ip_e t, tR, tS, tE, tP, re, ex, ip_eb (cp_N g R), ip_eb E, ip_eb (cp_O g R rO).1, sR, sS, sE, sP, cR, cS, cE)) :
    wpY_compile post (nI R, nI cp, 0, nI (ig_A g), nI n, oR, oN, e1, e2, e3, e4, sp, cc, ip_e (ig_O g), ip_e (ig_C g), kd, kA, kB, ip_e (ig_M g), ip_e t, tR, tS, tE, tP, re, ex, ip_eb N, ip_eb E, ip_eb O, sR, sS, sE, sP, cR, cS, cE) := by
  have hR8 := F.2.1
  have hV := F.2.2.1
  have hI : od_I g (cp_N g R) R (cp_O g R rO) := od_rI R _ (od_0 g (cp_N g R) R rO)
  refine br_t rfl (yn_11 F hg hN (yn_82 F hg h2 (fun hb => ye_166 F hg hE (fun E' hE' => ?_))))
  have hE64 : ∀ j, 64 ≤ j → E' j = false := fun j hj => by
    cases hb : E' j with
    | false => rfl
    | true =>
      obtain ⟨a, ha, i, hi, hB, hx, _⟩ := (hE' j).mp hb
      have := (hV.2 _).2.2.2.2.2 hB
      have := (hV.2 a).1
      omega
  refine ye_208 (rO := rO) F hE' hO (fun z => h0 E' hE64 hb ?_) (fun z => h3 E' hE64 hb (fun w => z ?_))
  · rw [hI.1]
    exact cp_cfull _ R z
  · exact cp_call (cp_O g R rO).1 R (hI.1.symm.trans w)
end
