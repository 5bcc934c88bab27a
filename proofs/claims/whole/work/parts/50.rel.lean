/-! the relation, and what is owed -/
/-- a grammar that was accepted -/
def rl_C (g : ig_T) (R : Nat) (rO : Nat → Nat) : Prop := ∃ (N : Nat → Bool) (rk : Nat → Nat), ig_K g R N rk ∧ (∀ k, k < R → rO k < R ∧ rk (rO k) = k) ∧ ∀ r, r < R → rO (rk r) = r
/-- the facts of two states that belong together -/
def rl_F (g : ig_T) (t : Nat → Nat) (n R cp x : Nat) (fz : Int32) (L : List tr_T) (N O N' O' E : Nat → Bool) (rO : Nat → Nat) (kd kA kB tR tS tE tP tR' tS' tE' tP' : ar_T) : Prop :=
  xk_F g t n R ∧ 1 ≤ R ∧ n ≤ cp ∧ 8 ≤ cp ∧ cp ≤ 24 ∧ x ≤ 25 ∧ yk_G g kd kA kB ∧ L.length ≤ 65 ∧ tr_A L tR tS tE tP ∧ tr_A L tR' tS' tE' tP' ∧ (∀ j, 8 ≤ j → N j = false) ∧ (∀ j, 8 ≤ j → O j = false) ∧ (∀ j, 8 ≤ j → N' j = false) ∧ (∀ j, 8 ≤ j → O' j = false) ∧ (∀ j, 64 ≤ j → E j = false) ∧
  (fz = 0 ∨ (fz = 1 ∧ rl_C g R rO))
def i_Rel (k : Nat) (u : SX) (v : SY) : Prop :=
  ∃ (g : ig_T) (t : Nat → Nat) (n R cp x : Nat) (fz oR : Int32) (L : List tr_T) (N O N' O' E : Nat → Bool) (rO : Nat → Nat) (mE mR mA tR tS tE tP wI wP : ar_T) (e1 e2 e3 e4 sp cc : Int32) (kd kA kB tR' tS' tE' tP' re ex sR sS sE sP cR cS cE : ar_T),
    u = (nI R, nI cp, fz, nI (ig_A g), nI n, ip_m x, oR, nI L.length, ip_e (ig_O g), ip_e (ig_C g), ip_eb (ig_B g), ip_e (ig_L g), ip_e (ig_H g), ip_e (ig_M g), ip_eb N, ip_eb O, ip_e rO, ip_e t, mE, mR, mA, tR, tS, tE, tP, wI, wP) ∧
    v = (nI R, nI cp, fz, nI (ig_A g), nI n, oR, nI L.length, e1, e2, e3, e4, sp, cc, ip_e (ig_O g), ip_e (ig_C g), kd, kA, kB, ip_e (ig_M g), ip_e t, tR', tS', tE', tP', re, ex, ip_eb N', ip_eb E, ip_eb O', sR, sS, sE, sP, cR, cS, cE) ∧
    rl_F g t n R cp x fz L N O N' O' E rO kd kA kB tR tS tE tP tR' tS' tE' tP'
theorem i_up {k : Nat} {u : SX} {v : SY} (h : i_Rel k u v) : i_Rel (k + 5) u v := h
section
variable {g : ig_T} {t : Nat → Nat} {k n R cp x : Nat} {fz oR : Int32} {L : List tr_T} {N O N' O' E : Nat → Bool} {rO : Nat → Nat} {mE mR mA tR tS tE tP wI wP : ar_T} {e1 e2 e3 e4 sp cc : Int32} {kd kA kB tR' tS' tE' tP' re ex sR sS sE sP cR cS cE : ar_T}
theorem rl_mk (F : rl_F g t n R cp x fz L N O N' O' E rO kd kA kB tR tS tE tP tR' tS' tE' tP') : i_Rel k (nI R, nI cp, fz, nI (ig_A g), nI n, ip_m x, oR, nI L.length, ip_e (ig_O g), ip_e (ig_C g), ip_eb (ig_B g), ip_e (ig_L g), ip_e (ig_H g), ip_e (ig_M g), ip_eb N, ip_eb O, ip_e rO, ip_e t, mE, mR, mA, tR, tS, tE, tP, wI, wP) (nI R, nI cp, fz, nI (ig_A g), nI n, oR, nI L.length, e1, e2, e3, e4, sp, cc, ip_e (ig_O g), ip_e (ig_C g), kd, kA, kB, ip_e (ig_M g), ip_e t, tR', tS', tE', tP', re, ex, ip_eb N', ip_eb E, ip_eb O', sR, sS, sE, sP, cR, cS, cE) :=
  ⟨g, t, n, R, cp, x, fz, oR, L, N, O, N', O', E, rO, mE, mR, mA, tR, tS, tE, tP, wI, wP, e1, e2, e3, e4, sp, cc, kd, kA, kB, tR', tS', tE', tP', re, ex, sR, sS, sE, sP, cR, cS, cE, rfl, rfl, F⟩
end
/-! the start -/
def rl_K (k : Int32) (lo hi c : Nat) : Prop := (¬ nI lo ≤ k ∧ c = lo) ∨ (nI lo ≤ k ∧ k ≤ nI hi ∧ k = nI c) ∨ (nI lo ≤ k ∧ ¬ k ≤ nI hi ∧ c = hi)
theorem rl_Kex (k : Int32) {lo hi : Nat} (h : lo ≤ hi) (hh : hi < 2 ^ 31) : ∃ c, lo ≤ c ∧ c ≤ hi ∧ rl_K k lo hi c := by
  by_cases h1 : nI lo ≤ k
  · by_cases h2 : k ≤ nI hi
    · have h0 : ¬ k < 0 := fun w => by
        have : nI lo < 0 := Int32.lt_of_le_of_lt h1 w
        exact nI_pos (by omega) this
      obtain ⟨c, hc, rfl⟩ := nI_of h0
      exact ⟨c, (nI_leI (by omega) hc).mp h1, (nI_leI hc hh).mp h2, Or.inr (Or.inl ⟨h1, h2, rfl⟩)⟩
    · exact ⟨hi, h, Nat.le_refl hi, Or.inr (Or.inr ⟨h1, h2, rfl⟩)⟩
  · exact ⟨lo, Nat.le_refl lo, h, Or.inl ⟨h1, rfl⟩⟩
theorem rl_clampX {post : Int32 → Prop} {k a b : Int32} {lo hi c : Nat} (ha : a = nI lo) (hb : b = nI hi) (h : rl_K k lo hi c) (hp : post (nI c)) : wpX_clamp post k a b := by
  subst ha hb
  rcases h with ⟨h1, rfl⟩ | ⟨h1, h2, rfl⟩ | ⟨h1, h2, rfl⟩
  · exact br_f h1 hp
  · exact br_t h1 (br_t h2 hp)
  · exact br_t h1 (br_f h2 hp)
theorem rl_initX {post : SX → Prop} {k0 k1 : Int32} {R cp : Nat} (hR : rl_K k0 1 8 R) (hc : rl_K k1 8 24 cp) (h : post (nI R, nI cp, 0, 0, 0, -1, -1, 0, fun _ => 0, fun _ => 0, fun _ => 0, fun _ => 0, fun _ => 0, fun _ => 0, fun _ => 0, fun _ => 0, fun _ => 0, fun _ => 0, fun _ => 0, fun _ => 0, fun _ => 0, fun _ => 0, fun _ => 0, fun _ => 0, fun _ => 0, fun _ => 0, fun _ => 0)) : wpX_init post k0 k1 := by
  unfold wpX_init
  exact rl_clampX (lo := 1) (hi := 8) rfl rfl hR (rl_clampX (lo := 8) (hi := 24) rfl rfl hc h)
theorem rl_initY {post : SY → Prop} {k0 k1 : Int32} {R cp : Nat} (hR : rl_K k0 1 8 R) (hc : rl_K k1 8 24 cp) (h : post (nI R, nI cp, 0, 0, 0, -1, 0, 0, 0, 0, 0, 0, 0, fun _ => 0, fun _ => 0, fun _ => 0, fun _ => 0, fun _ => 0, fun _ => 0, fun _ => 0, fun _ => 0, fun _ => 0, fun _ => 0, fun _ => 0, fun _ => 0, fun _ => 0, fun _ => 0, fun _ => 0, fun _ => 0, fun _ => 0, fun _ => 0, fun _ => 0, fun _ => 0, fun _ => 0, fun _ => 0, fun _ => 0)) : wpY_init post k0 k1 := by
  have h215 : wY_init_215 post k1 (nI R) 0 0 0 0 0 0 0 0 0 0 0 0 0 (fun _ => 0) (fun _ => 0) (fun _ => 0) (fun _ => 0) (fun _ => 0) (fun _ => 0) (fun _ => 0) (fun _ => 0) (fun _ => 0) (fun _ => 0) (fun _ => 0) (fun _ => 0) (fun _ => 0) (fun _ => 0) (fun _ => 0) (fun _ => 0) (fun _ => 0) (fun _ => 0) (fun _ => 0) (fun _ => 0) (fun _ => 0) (fun _ => 0) (fun _ => 0) := by
    rcases hc with ⟨h1, rfl⟩ | ⟨h1, h2, rfl⟩ | ⟨h1, h2, rfl⟩
    · exact br_f h1 (br_t (by decide) h)
    · exact br_t h1 (br_t h2 h)
    · exact br_t h1 (br_f h2 h)
  rcases hR with ⟨h1, rfl⟩ | ⟨h1, h2, rfl⟩ | ⟨h1, h2, rfl⟩
  · exact br_f h1 (br_t (by decide) h215)
  · exact br_t h1 (br_t h2 h215)
  · exact br_t h1 (br_f h2 h215)
theorem i_vc0 (k0 : Int32) (k1 : Int32) : wpX_init (fun u => wpY_init (fun v => i_Rel 2 u v) k0 k1) k0 k1 := by
  obtain ⟨R, r1, r2, hR⟩ := rl_Kex k0 (lo := 1) (hi := 8) (by decide) (by decide)
  obtain ⟨cp, c1, c2, hc⟩ := rl_Kex k1 (lo := 8) (hi := 24) (by decide) (by decide)
  refine rl_initX hR hc (rl_initY hR hc ?_)
  refine rl_mk (g := (fun _ => 0, fun _ => 0, fun _ => 0, fun _ => 0, fun _ => 0, fun _ => false, 0)) (t := fun _ => 0) (n := 0) (R := R) (cp := cp) (x := 0) (fz := 0) (oR := -1) (L := []) (N := fun _ => false) (O := fun _ => false) (N' := fun _ => false) (O' := fun _ => false) (E := fun _ => false) (rO := fun _ => 0) ?_
  refine ⟨⟨by decide, r2, ⟨by show 0 ≤ 16; decide, fun j => ⟨by show 0 < R; omega, Nat.zero_le _, Nat.zero_le _, Nat.zero_le _, Nat.zero_le _, fun h => absurd (show false = true from h) (by decide)⟩⟩, fun j => by show 0 < 65536; decide⟩, r1, by omega, c1, c2, by decide, fun j => ⟨fun h => absurd (show false = true from h) (by decide), fun _ => Or.inr (Or.inl ⟨rfl, rfl, rfl⟩)⟩, by decide, tr_A0 _ _ _ _, tr_A0 _ _ _ _, fun _ _ => rfl, fun _ _ => rfl, fun _ _ => rfl, fun _ _ => rfl, fun _ _ => rfl, Or.inl rfl⟩
