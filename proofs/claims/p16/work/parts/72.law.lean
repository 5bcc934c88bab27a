/-! the law's building of the grammar, and its top -/
section
variable {g : ig_T} {R cp kc ks LL : Nat} {xs : Nat → Int32} {J64 J119 : Int32 → Int32 → Int32 → Int32 → Int32 → Int32 → Int32 → Int32 → Int32 → Int32 → ar_T → ar_T → ar_T → ar_T → ar_T → ar_T → ar_T → ar_T → ar_T → ar_T → ar_T → ar_T → ar_T → ar_T → ar_T → ar_T → ar_T → ar_T → ar_T → Int32 → Int32 → Int32 → Int32 → Int32 → Int32 → Int32 → Int32 → ar_T → ar_T → ar_T → ar_T → ar_T → ar_T → ar_T → ar_T → ar_T → ar_T → ar_T → ar_T → ar_T → ar_T → ar_T → ar_T → ar_T → ar_T → ar_T → Prop} {x5 x6 x7 x8 x9 : Int32}
theorem pb_F (hR : R ≤ 8) (h : ig_V g R) : xk_F g (fun _ => 0) 0 R := ⟨by decide, hR, h, fun j => by show 0 < 65536; decide⟩
theorem pl_325 {j : Nat} (hR : R ≤ 8) (hg : ig_V g R) (h : ∀ g : ig_T, ig_V g R → J119 x5 (nI (j + 1)) (nI R) (nI cp) 0 (nI (ig_A g)) (nI 0) (ip_m 0) (-1) 0 (ip_e (ig_O g)) (ip_e (ig_C g)) (ip_eb (ig_B g)) (ip_e (ig_L g)) (ip_e (ig_H g)) (ip_e (ig_M g)) (ip_eb (fun _ => false)) (ip_eb (fun _ => false)) (ip_e (fun _ => 0)) (ip_e (fun _ => 0)) (fun _ => 0) (fun _ => 0) (fun _ => 0) (fun _ => 0) (fun _ => 0) (fun _ => 0) (fun _ => 0) (fun _ => 0) (fun _ => 0) (nI R) (nI cp) 0 (nI (ig_A g)) (nI 0) (ip_m 0) (-1) 0 (ip_e (ig_O g)) (ip_e (ig_C g)) (ip_eb (ig_B g)) (ip_e (ig_L g)) (ip_e (ig_H g)) (ip_e (ig_M g)) (ip_eb (fun _ => false)) (ip_eb (fun _ => false)) (ip_e (fun _ => 0)) (ip_e (fun _ => 0)) (fun _ => 0) (fun _ => 0) (fun _ => 0) (fun _ => 0) (fun _ => 0) (fun _ => 0) (fun _ => 0) (fun _ => 0) (fun _ => 0)) (a b c d : Int32) :
    wL_law_325 (fun r => r = 1) LL xs J64 J119 (nI R) x5 x6 x7 x8 x9 (nI j) a b c d kc ks (nI R) (nI cp) 0 (nI (ig_A g)) (nI 0) (ip_m 0) (-1) 0 (ip_e (ig_O g)) (ip_e (ig_C g)) (ip_eb (ig_B g)) (ip_e (ig_L g)) (ip_e (ig_H g)) (ip_e (ig_M g)) (ip_eb (fun _ => false)) (ip_eb (fun _ => false)) (ip_e (fun _ => 0)) (ip_e (fun _ => 0)) (fun _ => 0) (fun _ => 0) (fun _ => 0) (fun _ => 0) (fun _ => 0) (fun _ => 0) (fun _ => 0) (fun _ => 0) (fun _ => 0) (nI R) (nI cp) 0 (nI (ig_A g)) (nI 0) (ip_m 0) (-1) 0 (ip_e (ig_O g)) (ip_e (ig_C g)) (ip_eb (ig_B g)) (ip_e (ig_L g)) (ip_e (ig_H g)) (ip_e (ig_M g)) (ip_eb (fun _ => false)) (ip_eb (fun _ => false)) (ip_e (fun _ => 0)) (ip_e (fun _ => 0)) (fun _ => 0) (fun _ => 0) (fun _ => 0) (fun _ => 0) (fun _ => 0) (fun _ => 0) (fun _ => 0) (fun _ => 0) (fun _ => 0) := by
  obtain ⟨g', v, hV', K⟩ := pb_add (cp := cp) (rc := ip_m 0) (oR := -1) (oN := 0) (nu := ip_eb (fun _ => false)) (od := ip_eb (fun _ => false)) (ro := ip_e (fun _ => 0)) (mE := fun _ => 0) (mR := fun _ => 0) (mA := fun _ => 0) (tR := fun _ => 0) (tS := fun _ => 0) (tE := fun _ => 0) (tP := fun _ => 0) (wI := fun _ => 0) (wP := fun _ => 0) a c d b (pb_F hR hg)
  unfold wL_law_325
  exact K _ (K _ (nm_r (nI_1 j) (h g' hV')))
theorem pl_276 {x10 : Int32} (h : ∀ a b c d : Int32, wL_law_325 (fun r => r = 1) LL xs J64 J119 (nI R) x5 x6 x7 x8 x9 x10 a b c d kc ks (nI R) (nI cp) 0 (nI (ig_A g)) (nI 0) (ip_m 0) (-1) 0 (ip_e (ig_O g)) (ip_e (ig_C g)) (ip_eb (ig_B g)) (ip_e (ig_L g)) (ip_e (ig_H g)) (ip_e (ig_M g)) (ip_eb (fun _ => false)) (ip_eb (fun _ => false)) (ip_e (fun _ => 0)) (ip_e (fun _ => 0)) (fun _ => 0) (fun _ => 0) (fun _ => 0) (fun _ => 0) (fun _ => 0) (fun _ => 0) (fun _ => 0) (fun _ => 0) (fun _ => 0) (nI R) (nI cp) 0 (nI (ig_A g)) (nI 0) (ip_m 0) (-1) 0 (ip_e (ig_O g)) (ip_e (ig_C g)) (ip_eb (ig_B g)) (ip_e (ig_L g)) (ip_e (ig_H g)) (ip_e (ig_M g)) (ip_eb (fun _ => false)) (ip_eb (fun _ => false)) (ip_e (fun _ => 0)) (ip_e (fun _ => 0)) (fun _ => 0) (fun _ => 0) (fun _ => 0) (fun _ => 0) (fun _ => 0) (fun _ => 0) (fun _ => 0) (fun _ => 0) (fun _ => 0)) (x12 x13 x14 x15 x16 : Int32) :
    wL_law_276 (fun r => r = 1) LL xs J64 J119 (nI R) x5 x6 x7 x8 x9 x10 x12 x13 x14 x15 x16 kc ks (nI R) (nI cp) 0 (nI (ig_A g)) (nI 0) (ip_m 0) (-1) 0 (ip_e (ig_O g)) (ip_e (ig_C g)) (ip_eb (ig_B g)) (ip_e (ig_L g)) (ip_e (ig_H g)) (ip_e (ig_M g)) (ip_eb (fun _ => false)) (ip_eb (fun _ => false)) (ip_e (fun _ => 0)) (ip_e (fun _ => 0)) (fun _ => 0) (fun _ => 0) (fun _ => 0) (fun _ => 0) (fun _ => 0) (fun _ => 0) (fun _ => 0) (fun _ => 0) (fun _ => 0) (nI R) (nI cp) 0 (nI (ig_A g)) (nI 0) (ip_m 0) (-1) 0 (ip_e (ig_O g)) (ip_e (ig_C g)) (ip_eb (ig_B g)) (ip_e (ig_L g)) (ip_e (ig_H g)) (ip_e (ig_M g)) (ip_eb (fun _ => false)) (ip_eb (fun _ => false)) (ip_e (fun _ => 0)) (ip_e (fun _ => 0)) (fun _ => 0) (fun _ => 0) (fun _ => 0) (fun _ => 0) (fun _ => 0) (fun _ => 0) (fun _ => 0) (fun _ => 0) (fun _ => 0) := by
  obtain ⟨v, K⟩ := lm_mod0 x12 4 (by decide)
  obtain ⟨v', K'⟩ := lm_mod0 (x12 >>> ((2 : Int32) &&& 31)) 3 (by decide)
  exact br_c (fun _ => K _ (nm_e (h _ _ _ _))) (fun _ => br_c (fun _ => K _ (nm_e (K' _ (nm_e (h _ _ _ _))))) (fun _ => h _ _ _ _))
theorem pl_263 {x10 : Int32} (h : ∀ a b c d : Int32, wL_law_325 (fun r => r = 1) LL xs J64 J119 (nI R) x5 x6 x7 x8 x9 x10 a b c d kc ks (nI R) (nI cp) 0 (nI (ig_A g)) (nI 0) (ip_m 0) (-1) 0 (ip_e (ig_O g)) (ip_e (ig_C g)) (ip_eb (ig_B g)) (ip_e (ig_L g)) (ip_e (ig_H g)) (ip_e (ig_M g)) (ip_eb (fun _ => false)) (ip_eb (fun _ => false)) (ip_e (fun _ => 0)) (ip_e (fun _ => 0)) (fun _ => 0) (fun _ => 0) (fun _ => 0) (fun _ => 0) (fun _ => 0) (fun _ => 0) (fun _ => 0) (fun _ => 0) (fun _ => 0) (nI R) (nI cp) 0 (nI (ig_A g)) (nI 0) (ip_m 0) (-1) 0 (ip_e (ig_O g)) (ip_e (ig_C g)) (ip_eb (ig_B g)) (ip_e (ig_L g)) (ip_e (ig_H g)) (ip_e (ig_M g)) (ip_eb (fun _ => false)) (ip_eb (fun _ => false)) (ip_e (fun _ => 0)) (ip_e (fun _ => 0)) (fun _ => 0) (fun _ => 0) (fun _ => 0) (fun _ => 0) (fun _ => 0) (fun _ => 0) (fun _ => 0) (fun _ => 0) (fun _ => 0)) (x11 x12 x13 x14 x15 x16 : Int32) :
    wL_law_263 (fun r => r = 1) LL xs J64 J119 (nI R) x5 x6 x7 x8 x9 x10 x11 x12 x13 x14 x15 x16 kc ks (nI R) (nI cp) 0 (nI (ig_A g)) (nI 0) (ip_m 0) (-1) 0 (ip_e (ig_O g)) (ip_e (ig_C g)) (ip_eb (ig_B g)) (ip_e (ig_L g)) (ip_e (ig_H g)) (ip_e (ig_M g)) (ip_eb (fun _ => false)) (ip_eb (fun _ => false)) (ip_e (fun _ => 0)) (ip_e (fun _ => 0)) (fun _ => 0) (fun _ => 0) (fun _ => 0) (fun _ => 0) (fun _ => 0) (fun _ => 0) (fun _ => 0) (fun _ => 0) (fun _ => 0) (nI R) (nI cp) 0 (nI (ig_A g)) (nI 0) (ip_m 0) (-1) 0 (ip_e (ig_O g)) (ip_e (ig_C g)) (ip_eb (ig_B g)) (ip_e (ig_L g)) (ip_e (ig_H g)) (ip_e (ig_M g)) (ip_eb (fun _ => false)) (ip_eb (fun _ => false)) (ip_e (fun _ => 0)) (ip_e (fun _ => 0)) (fun _ => 0) (fun _ => 0) (fun _ => 0) (fun _ => 0) (fun _ => 0) (fun _ => 0) (fun _ => 0) (fun _ => 0) (fun _ => 0) := br_c (fun _ => pl_276 h _ _ _ _ _) (fun _ => pl_276 h _ _ _ _ _)
theorem pl_245 {x10 : Int32} (h : ∀ a b c d : Int32, wL_law_325 (fun r => r = 1) LL xs J64 J119 (nI R) x5 x6 x7 x8 x9 x10 a b c d kc ks (nI R) (nI cp) 0 (nI (ig_A g)) (nI 0) (ip_m 0) (-1) 0 (ip_e (ig_O g)) (ip_e (ig_C g)) (ip_eb (ig_B g)) (ip_e (ig_L g)) (ip_e (ig_H g)) (ip_e (ig_M g)) (ip_eb (fun _ => false)) (ip_eb (fun _ => false)) (ip_e (fun _ => 0)) (ip_e (fun _ => 0)) (fun _ => 0) (fun _ => 0) (fun _ => 0) (fun _ => 0) (fun _ => 0) (fun _ => 0) (fun _ => 0) (fun _ => 0) (fun _ => 0) (nI R) (nI cp) 0 (nI (ig_A g)) (nI 0) (ip_m 0) (-1) 0 (ip_e (ig_O g)) (ip_e (ig_C g)) (ip_eb (ig_B g)) (ip_e (ig_L g)) (ip_e (ig_H g)) (ip_e (ig_M g)) (ip_eb (fun _ => false)) (ip_eb (fun _ => false)) (ip_e (fun _ => 0)) (ip_e (fun _ => 0)) (fun _ => 0) (fun _ => 0) (fun _ => 0) (fun _ => 0) (fun _ => 0) (fun _ => 0) (fun _ => 0) (fun _ => 0) (fun _ => 0)) (x11 x12 x13 x14 x15 x16 : Int32) :
    wL_law_245 (fun r => r = 1) LL xs J64 J119 (nI R) x5 x6 x7 x8 x9 x10 x11 x12 x13 x14 x15 x16 kc ks (nI R) (nI cp) 0 (nI (ig_A g)) (nI 0) (ip_m 0) (-1) 0 (ip_e (ig_O g)) (ip_e (ig_C g)) (ip_eb (ig_B g)) (ip_e (ig_L g)) (ip_e (ig_H g)) (ip_e (ig_M g)) (ip_eb (fun _ => false)) (ip_eb (fun _ => false)) (ip_e (fun _ => 0)) (ip_e (fun _ => 0)) (fun _ => 0) (fun _ => 0) (fun _ => 0) (fun _ => 0) (fun _ => 0) (fun _ => 0) (fun _ => 0) (fun _ => 0) (fun _ => 0) (nI R) (nI cp) 0 (nI (ig_A g)) (nI 0) (ip_m 0) (-1) 0 (ip_e (ig_O g)) (ip_e (ig_C g)) (ip_eb (ig_B g)) (ip_e (ig_L g)) (ip_e (ig_H g)) (ip_e (ig_M g)) (ip_eb (fun _ => false)) (ip_eb (fun _ => false)) (ip_e (fun _ => 0)) (ip_e (fun _ => 0)) (fun _ => 0) (fun _ => 0) (fun _ => 0) (fun _ => 0) (fun _ => 0) (fun _ => 0) (fun _ => 0) (fun _ => 0) (fun _ => 0) :=
  br_c (fun _ => br_c (fun _ => pl_263 h _ _ _ _ _ _) (fun _ => br_c (fun _ => pl_263 h _ _ _ _ _ _) (fun _ => pl_276 h _ _ _ _ _))) (fun _ => pl_276 h _ _ _ _ _)
theorem pl_202 {x10 : Int32} (h1 : 1 ≤ R) (hR : R ≤ 8) (h : ∀ a b c d : Int32, wL_law_325 (fun r => r = 1) LL xs J64 J119 (nI R) x5 x6 x7 x8 x9 x10 a b c d kc ks (nI R) (nI cp) 0 (nI (ig_A g)) (nI 0) (ip_m 0) (-1) 0 (ip_e (ig_O g)) (ip_e (ig_C g)) (ip_eb (ig_B g)) (ip_e (ig_L g)) (ip_e (ig_H g)) (ip_e (ig_M g)) (ip_eb (fun _ => false)) (ip_eb (fun _ => false)) (ip_e (fun _ => 0)) (ip_e (fun _ => 0)) (fun _ => 0) (fun _ => 0) (fun _ => 0) (fun _ => 0) (fun _ => 0) (fun _ => 0) (fun _ => 0) (fun _ => 0) (fun _ => 0) (nI R) (nI cp) 0 (nI (ig_A g)) (nI 0) (ip_m 0) (-1) 0 (ip_e (ig_O g)) (ip_e (ig_C g)) (ip_eb (ig_B g)) (ip_e (ig_L g)) (ip_e (ig_H g)) (ip_e (ig_M g)) (ip_eb (fun _ => false)) (ip_eb (fun _ => false)) (ip_e (fun _ => 0)) (ip_e (fun _ => 0)) (fun _ => 0) (fun _ => 0) (fun _ => 0) (fun _ => 0) (fun _ => 0) (fun _ => 0) (fun _ => 0) (fun _ => 0) (fun _ => 0)) (x11 x12 x13 x14 x15 x16 x17 z0 : Int32) :
    wL_law_202 (fun r => r = 1) LL xs J64 J119 (nI R) x5 x6 x7 x8 x9 x10 x11 x12 x13 x14 x15 x16 x17 z0 kc ks (nI R) (nI cp) 0 (nI (ig_A g)) (nI 0) (ip_m 0) (-1) 0 (ip_e (ig_O g)) (ip_e (ig_C g)) (ip_eb (ig_B g)) (ip_e (ig_L g)) (ip_e (ig_H g)) (ip_e (ig_M g)) (ip_eb (fun _ => false)) (ip_eb (fun _ => false)) (ip_e (fun _ => 0)) (ip_e (fun _ => 0)) (fun _ => 0) (fun _ => 0) (fun _ => 0) (fun _ => 0) (fun _ => 0) (fun _ => 0) (fun _ => 0) (fun _ => 0) (fun _ => 0) (nI R) (nI cp) 0 (nI (ig_A g)) (nI 0) (ip_m 0) (-1) 0 (ip_e (ig_O g)) (ip_e (ig_C g)) (ip_eb (ig_B g)) (ip_e (ig_L g)) (ip_e (ig_H g)) (ip_e (ig_M g)) (ip_eb (fun _ => false)) (ip_eb (fun _ => false)) (ip_e (fun _ => 0)) (ip_e (fun _ => 0)) (fun _ => 0) (fun _ => 0) (fun _ => 0) (fun _ => 0) (fun _ => 0) (fun _ => 0) (fun _ => 0) (fun _ => 0) (fun _ => 0) := by
  refine br_c (fun _ => br_c (fun _ => pl_245 h _ _ _ _ _ _) (fun z => ?_)) (fun _ => ?_)
  · obtain ⟨v, K⟩ := lm_mod0 x12 x17 (by
      rw [Int32.le_iff_toInt_le, show (0 : Int32).toInt = 0 from by decide] at z
      omega)
    exact K _ (nm_e (pl_245 h _ _ _ _ _ _))
  · obtain ⟨v, K⟩ := lm_mod0 x12 (nI R) (by rw [nI_toInt (by omega)]; omega)
    exact K _ (pl_245 h _ _ _ _ _ _)
/-- the items of an alternative -/
theorem pl_119 {i m : Nat} (hL : LL ≤ 260) (h1 : 1 ≤ R) (hR : R ≤ 8) (hm : m < 5) {B : Nat} (hB : B < 2000) (h : ∀ (k : Nat) (g : ig_T), k ≤ B → ig_V g R → J64 (nI k) (nI (i + 1)) (nI R) (nI cp) 0 (nI (ig_A g)) (nI 0) (ip_m 0) (-1) 0 (ip_e (ig_O g)) (ip_e (ig_C g)) (ip_eb (ig_B g)) (ip_e (ig_L g)) (ip_e (ig_H g)) (ip_e (ig_M g)) (ip_eb (fun _ => false)) (ip_eb (fun _ => false)) (ip_e (fun _ => 0)) (ip_e (fun _ => 0)) (fun _ => 0) (fun _ => 0) (fun _ => 0) (fun _ => 0) (fun _ => 0) (fun _ => 0) (fun _ => 0) (fun _ => 0) (fun _ => 0) (nI R) (nI cp) 0 (nI (ig_A g)) (nI 0) (ip_m 0) (-1) 0 (ip_e (ig_O g)) (ip_e (ig_C g)) (ip_eb (ig_B g)) (ip_e (ig_L g)) (ip_e (ig_H g)) (ip_e (ig_M g)) (ip_eb (fun _ => false)) (ip_eb (fun _ => false)) (ip_e (fun _ => 0)) (ip_e (fun _ => 0)) (fun _ => 0) (fun _ => 0) (fun _ => 0) (fun _ => 0) (fun _ => 0) (fun _ => 0) (fun _ => 0) (fun _ => 0) (fun _ => 0)) :
    ∀ (d nn j k : Nat) (g : ig_T), j + d = m → d < nn → k + 2 * d ≤ B → ig_V g R → wL_law_119 (fun r => r = 1) LL xs J64 (nI R) x6 (nI i) x8 (nI m) kc ks nn (nI k) (nI j) (nI R) (nI cp) 0 (nI (ig_A g)) (nI 0) (ip_m 0) (-1) 0 (ip_e (ig_O g)) (ip_e (ig_C g)) (ip_eb (ig_B g)) (ip_e (ig_L g)) (ip_e (ig_H g)) (ip_e (ig_M g)) (ip_eb (fun _ => false)) (ip_eb (fun _ => false)) (ip_e (fun _ => 0)) (ip_e (fun _ => 0)) (fun _ => 0) (fun _ => 0) (fun _ => 0) (fun _ => 0) (fun _ => 0) (fun _ => 0) (fun _ => 0) (fun _ => 0) (fun _ => 0) (nI R) (nI cp) 0 (nI (ig_A g)) (nI 0) (ip_m 0) (-1) 0 (ip_e (ig_O g)) (ip_e (ig_C g)) (ip_eb (ig_B g)) (ip_e (ig_L g)) (ip_e (ig_H g)) (ip_e (ig_M g)) (ip_eb (fun _ => false)) (ip_eb (fun _ => false)) (ip_e (fun _ => 0)) (ip_e (fun _ => 0)) (fun _ => 0) (fun _ => 0) (fun _ => 0) (fun _ => 0) (fun _ => 0) (fun _ => 0) (fun _ => 0) (fun _ => 0) (fun _ => 0) := by
  intro d
  induction d with
  | zero =>
    intro nn j k g hj hnn hk hg
    obtain ⟨nn, rfl⟩ : ∃ k, nn = k + 1 := ⟨nn - 1, by omega⟩
    exact pk_le m j (fun _ => nm_r (nI_1 i) (h k g (by omega) hg)) (fun z => by omega)
  | succ d ih =>
    intro nn j k g hj hnn hk hg
    obtain ⟨nn, rfl⟩ : ∃ k, nn = k + 1 := ⟨nn - 1, by omega⟩
    refine pk_le m j (fun z => by omega) (fun _ => nm_r (nI_1 k) ?_)
    obtain ⟨v1, K1⟩ := lm_cell xs hL (k := k) (by omega)
    refine K1 _ (nm_r (nI_1 (k + 1)) ?_)
    obtain ⟨v2, K2⟩ := lm_cell xs hL (k := k + 1) (by omega)
    refine K2 _ ?_
    obtain ⟨v3, K3⟩ := lm_mod0 v1 4 (by decide)
    refine K3 _ ?_
    obtain ⟨v4, K4⟩ := lm_mod0 (v1 >>> ((2 : Int32) &&& 31)) 6 (by decide)
    refine K4 _ ?_
    have H : ∀ a b c d' : Int32, wL_law_325 (fun r => r = 1) LL xs J64 (wL_law_119 (fun r => r = 1) LL xs J64 (nI R) x6 (nI i) x8 (nI m) kc ks nn) (nI R) (nI (k + 1 + 1)) x6 (nI i) x8 (nI m) (nI j) a b c d' kc ks (nI R) (nI cp) 0 (nI (ig_A g)) (nI 0) (ip_m 0) (-1) 0 (ip_e (ig_O g)) (ip_e (ig_C g)) (ip_eb (ig_B g)) (ip_e (ig_L g)) (ip_e (ig_H g)) (ip_e (ig_M g)) (ip_eb (fun _ => false)) (ip_eb (fun _ => false)) (ip_e (fun _ => 0)) (ip_e (fun _ => 0)) (fun _ => 0) (fun _ => 0) (fun _ => 0) (fun _ => 0) (fun _ => 0) (fun _ => 0) (fun _ => 0) (fun _ => 0) (fun _ => 0) (nI R) (nI cp) 0 (nI (ig_A g)) (nI 0) (ip_m 0) (-1) 0 (ip_e (ig_O g)) (ip_e (ig_C g)) (ip_eb (ig_B g)) (ip_e (ig_L g)) (ip_e (ig_H g)) (ip_e (ig_M g)) (ip_eb (fun _ => false)) (ip_eb (fun _ => false)) (ip_e (fun _ => 0)) (ip_e (fun _ => 0)) (fun _ => 0) (fun _ => 0) (fun _ => 0) (fun _ => 0) (fun _ => 0) (fun _ => 0) (fun _ => 0) (fun _ => 0) (fun _ => 0) :=
      pl_325 hR hg (fun g hg => ih nn (j + 1) (k + 1 + 1) g (by omega) (by omega) (by omega) hg)
    exact br_c (fun _ => nm_e (br_c (fun _ => pl_202 h1 hR H _ _ _ _ _ _ _ _) (fun _ => pl_202 h1 hR H _ _ _ _ _ _ _ _))) (fun _ => pl_276 H _ _ _ _ _)
end
section
variable {R cp kc ks LL : Nat} {xs : Nat → Int32}
/-- the alternatives, then compile and the steps on the first object -/
theorem pl_64 {al : Nat} (hL : LL ≤ 260) (h1 : 1 ≤ R) (hR : R ≤ 8) (hc1 : 8 ≤ cp) (hc2 : cp ≤ 24) (hal : al ≤ 10) : ∀ (d nn i k : Nat) (g : ig_T), i + d = al → d < nn → k + 10 * d ≤ 1000 → ig_V g R →
    wL_law_64 (fun r => r = 1) LL xs (nI R) (nI al) kc ks nn (nI k) (nI i) (nI R) (nI cp) 0 (nI (ig_A g)) (nI 0) (ip_m 0) (-1) 0 (ip_e (ig_O g)) (ip_e (ig_C g)) (ip_eb (ig_B g)) (ip_e (ig_L g)) (ip_e (ig_H g)) (ip_e (ig_M g)) (ip_eb (fun _ => false)) (ip_eb (fun _ => false)) (ip_e (fun _ => 0)) (ip_e (fun _ => 0)) (fun _ => 0) (fun _ => 0) (fun _ => 0) (fun _ => 0) (fun _ => 0) (fun _ => 0) (fun _ => 0) (fun _ => 0) (fun _ => 0) (nI R) (nI cp) 0 (nI (ig_A g)) (nI 0) (ip_m 0) (-1) 0 (ip_e (ig_O g)) (ip_e (ig_C g)) (ip_eb (ig_B g)) (ip_e (ig_L g)) (ip_e (ig_H g)) (ip_e (ig_M g)) (ip_eb (fun _ => false)) (ip_eb (fun _ => false)) (ip_e (fun _ => 0)) (ip_e (fun _ => 0)) (fun _ => 0) (fun _ => 0) (fun _ => 0) (fun _ => 0) (fun _ => 0) (fun _ => 0) (fun _ => 0) (fun _ => 0) (fun _ => 0) := by
  intro d
  induction d with
  | zero =>
    intro nn i k g hi hnn hk hg
    obtain ⟨nn, rfl⟩ : ∃ k, nn = k + 1 := ⟨nn - 1, by omega⟩
    refine pk_le al i (fun _ => ?_) (fun z => by omega)
    obtain ⟨v, fz, N, O, rO, hf, K⟩ := pb_compile (cp := cp) (rc := ip_m 0) (oR := -1) (oN := 0) (mE := fun _ => 0) (mR := fun _ => 0) (mA := fun _ => 0) (tR := fun _ => 0) (tS := fun _ => 0) (tE := fun _ => 0) (tP := fun _ => 0) (wI := fun _ => 0) (wP := fun _ => 0) (N := fun _ => false) (O := fun _ => false) (rO := fun _ => 0) (pb_F hR hg) (fun _ _ => rfl) (fun _ _ => rfl)
    refine K _ (K _ ⟨301, ?_⟩)
    refine pw_378 (N := N) (O := O) (rO := rO) hL 300 301 0 k (fun _ => 0) 0 0 (-1) [] (fun _ => 0) (fun _ => 0) (fun _ => 0) (fun _ => 0) (fun _ => 0) (fun _ => 0) (fun _ => 0) (fun _ => 0) (fun _ => 0) (by omega) (by omega) (by omega) ⟨pb_F hR hg, h1, Nat.zero_le _, hc1, hc2, by decide, by decide, tr_A0 _ _ _ _, ?_⟩
    rcases hf with hf | hf
    · exact Or.inl ⟨hf, rfl, rfl⟩
    · exact Or.inr hf
  | succ d ih =>
    intro nn i k g hi hnn hk hg
    obtain ⟨nn, rfl⟩ : ∃ k, nn = k + 1 := ⟨nn - 1, by omega⟩
    refine pk_le al i (fun z => by omega) (fun _ => nm_r (nI_1 k) ?_)
    obtain ⟨v1, K1⟩ := lm_cell xs hL (k := k) (by omega)
    refine K1 _ ?_
    obtain ⟨r, hr, K2⟩ := lm_mod v1 (M := R) (by omega) (by omega)
    refine K2 _ ?_
    obtain ⟨g', v, hV', K⟩ := pb_new (cp := cp) (rc := ip_m 0) (oR := -1) (oN := 0) (nu := ip_eb (fun _ => false)) (od := ip_eb (fun _ => false)) (ro := ip_e (fun _ => 0)) (mE := fun _ => 0) (mR := fun _ => 0) (mA := fun _ => 0) (tR := fun _ => 0) (tS := fun _ => 0) (tE := fun _ => 0) (tP := fun _ => 0) (wI := fun _ => 0) (wP := fun _ => 0) (pb_F hR hg) hr
    refine K _ (K _ (nm_r (nI_1 (k + 1)) ?_))
    obtain ⟨v3, K3⟩ := lm_cell xs hL (k := k + 1) (by omega)
    refine K3 _ ?_
    obtain ⟨m, hm, K4⟩ := lm_mod v3 (M := 5) (by decide) (by decide)
    refine K4 _ ⟨m + 1, ?_⟩
    exact pl_119 (B := k + 10) hL h1 hR hm (by omega) (fun k' g hk' hg => ih nn (i + 1) k' g (by omega) (by omega) (by omega) hg) m (m + 1) 0 (k + 1 + 1) g' (by omega) (by omega) (by omega) hV'
end
theorem lm_clamp (k : Int32) {a b : Int32} {lo hi : Nat} (ha : a = nI lo) (hb : b = nI hi) (h : lo ≤ hi) (hh : hi < 2 ^ 31) : ∃ c, lo ≤ c ∧ c ≤ hi ∧ ∀ post : Int32 → Prop, post (nI c) → wpX_clamp post () k a b := by
  subst ha hb
  by_cases h1 : nI lo ≤ k
  · by_cases h2 : k ≤ nI hi
    · have h0 : ¬ k < 0 := fun w => by
        have : nI lo < 0 := Int32.lt_of_le_of_lt h1 w
        exact nI_pos (by omega) this
      obtain ⟨c, hc, rfl⟩ := nI_of h0
      exact ⟨c, (nI_leI (by omega) hc).mp h1, (nI_leI hc hh).mp h2, fun post hp => br_t h1 (br_t h2 hp)⟩
    · exact ⟨hi, h, Nat.le_refl hi, fun post hp => br_t h1 (br_f h2 hp)⟩
  · exact ⟨lo, Nat.le_refl lo, h, fun post hp => br_f h1 hp⟩
theorem lm_init {post : St2 → Prop} {k0 k1 : Int32} {R cp : Nat} (hR : ∀ post : Int32 → Prop, post (nI R) → wpX_clamp post () k0 1 8) (hc : ∀ post : Int32 → Prop, post (nI cp) → wpX_clamp post () k1 8 24)
    (h : post (nI R, nI cp, 0, 0, 0, -1, -1, 0, fun _ => 0, fun _ => 0, fun _ => 0, fun _ => 0, fun _ => 0, fun _ => 0, fun _ => 0, fun _ => 0, fun _ => 0, fun _ => 0, fun _ => 0, fun _ => 0, fun _ => 0, fun _ => 0, fun _ => 0, fun _ => 0, fun _ => 0, fun _ => 0, fun _ => 0)) : wpX_init post 19 1320 (0, 0, 0, 0, 0, 0, 0, 0) k0 k1 :=
  ⟨by decide, by decide, by decide, by decide, by decide, by decide, by decide, by decide, by decide, by decide, by decide, by decide, by decide, by decide, by decide, by decide, by decide, by decide, by decide, by decide, by decide, by decide, by decide, by decide, by decide, by decide, by decide, by decide, by decide, by decide, by decide, by decide, by decide, by decide, by decide, by decide, by decide, by decide, hR _ (hc _ h)⟩
def ga_0 : ig_T := (fun _ => 0, fun _ => 0, fun _ => 0, fun _ => 0, fun _ => 0, fun _ => false, 0)
theorem i_vc (xs : Nat → Int32) (L : Nat) (hL : L ≤ 260) : wpL_law (fun r => r = 1) L xs := by
  unfold wpL_law
  obtain ⟨v0, K0⟩ := lm_cell xs hL (k := 0) (by decide)
  refine K0 _ ?_
  obtain ⟨c, hc, K1⟩ := lm_mod v0 (M := 4) (by decide) (by decide)
  refine K1 _ (nm_r (nI_add 1 c) ?_)
  obtain ⟨v1, K2⟩ := lm_cell xs hL (k := 1) (by decide)
  refine K2 _ ?_
  obtain ⟨q, hq, K3⟩ := lm_mod v1 (M := 32) (by decide) (by decide)
  refine K3 _ ?_
  obtain ⟨R, r1, r2, KR⟩ := lm_clamp (nI (1 + c)) (a := 1) (b := 8) (lo := 1) (hi := 8) rfl rfl (by decide) (by decide)
  obtain ⟨cp, c1, c2, KC⟩ := lm_clamp (nI q) (a := 8) (b := 24) (lo := 8) (hi := 24) rfl rfl (by decide) (by decide)
  have eR : ∀ post : Int32 → Prop, post (nI (1 + c)) → wpX_clamp post () (nI (1 + c)) 1 8 := fun post hp => pk_le 1 (1 + c) (fun _ => pk_le (1 + c) 8 (fun _ => hp) (fun z => by omega)) (fun z => by omega)
  refine ⟨19, 1320, by decide, by decide, lm_init eR KC ⟨by decide, by decide, 19, 1320, by decide, by decide, lm_init eR KC ?_⟩⟩
  obtain ⟨v2, K4⟩ := lm_cell xs hL (k := 2) (by decide)
  refine K4 _ ?_
  obtain ⟨a, ha, K5⟩ := lm_mod v2 (M := 10) (by decide) (by decide)
  refine K5 _ (nm_r (nI_add 1 a) ⟨1 + a + 1, ?_⟩)
  exact pl_64 (R := 1 + c) (cp := cp) (al := 1 + a) hL (by omega) (by omega) c1 c2 (by omega) (1 + a) (1 + a + 1) 0 5 ga_0 (by omega) (by omega) (by omega) ⟨by decide, fun j => ⟨by show 0 < 1 + c; omega, Nat.zero_le _, Nat.zero_le _, Nat.zero_le _, Nat.zero_le _, fun h => absurd (show false = true from h) (by decide)⟩⟩
