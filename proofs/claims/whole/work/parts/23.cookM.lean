/-! the reference's cooking of a token -/
section KM2
variable {nu sg : Nat → Int32} {dr : Nat → Int64} {br ff : Nat → UInt32} {iB s kd lo hi : Nat → Int32} {p n w f : Nat} {ca cd : Int32}
theorem kM_held (x : UInt32) : g_X12_held x = some (hld x) := by
  unfold g_X12_held hld
  simp only [e_gl]
  split
  · split <;> rfl
  · rfl
theorem kM_cut (x : UInt32) : g_X12_cut x = some (clip (FP.f2i x)) := rfl
theorem mD_0 (hp : p < 60) (hn : n < 6) (hS : SBk s kd lo hi) (hw : w < 6) (hb : bo (kd w) = true) (hs : sg p = nI f) (hF : FSk 0 w f) (hu : nu p = nI w) : g_X12_does ca cd sg nu iB s dr ff br (nI p) (nI n) = some (nI 0, ca, cd, upd iB n (kd w), s, vp_updL dr n (s (4 + 5 * w + 3)).toInt64, ff, vf_upd br n (ff w)) := by
  unfold g_X12_does g_X12_does_b16 g_X12_does_b52 g_X12_does_b53 g_X12_does_b77 g_X12_does_b98
  have h1 := k_X12_of (s := s) hw (j := 3) (by omega)
  simp (disch := omega) only [x_inb, e_gcT, x_cl, e_gl, hu, kM_letY hp hs hF, kM_isBroth hS hw hb, ↓reduceIte, e_gbS, c_0, c_1, c_3, h1, x_eqT, x_eqF]
  rcases x_bob hb with z | z
  · rw [z]; simp only [c_0, ↓reduceIte]; rfl
  · rw [z]; simp (disch := omega) only [c_0, c_1, ↓reduceIte, x_eqF]; rfl
theorem mD_1 (hp : p < 60) (hn : n < 6) (hs : sg p = nI f) (hF : FSk 1 w f) (hu : nu p = nI w) : g_X12_does ca cd sg nu iB s dr ff br (nI p) (nI n) = some (nI 0, ca, cd, upd iB n (nI 0), s, vp_updL dr n (nI w).toInt64, ff, vf_upd br n FP.fconst0) := by
  unfold g_X12_does g_X12_does_b16 g_X12_does_b52 g_X12_does_b53 g_X12_does_b77 g_X12_does_b98
  simp (disch := omega) only [x_inb, e_gcT, x_cl, e_gl, hu, kM_letN hp hs hF (by omega), kM_numY hp hs hF, ↓reduceIte, e_gbS, c_0, c_1, x_eqT, x_eqF, Nat.one_ne_zero]
  rfl
theorem kM_cast1 (hn : n < 6) : g_X12_casts ca cd iB br dr (nI 126) (nI n) = some (if iB n = nI 0 then (nI 0, ca, cd, upd iB n (nI 1), vf_upd br n (hld (FP.i2f (dr n).toInt32)), dr) else (nI 1, nI 7, -1, iB, br, dr)) := by
  unfold g_X12_casts g_X12_casts_b17 g_X12_casts_b70 g_X12_casts_b86 g_X12_boilsBy
  simp (disch := omega) only [x_inb, e_gcT, x_cl, e_gl, e_gbS, c_0, c_1, c_7, c_33, c_126, x_eqT, x_eqF, ↓reduceIte, kM_held, x_nb x_bon1, x_bon1]
  split <;> rfl
theorem kM_cast0 (hn : n < 6) : g_X12_casts ca cd iB br dr (nI 33) (nI n) = some (if iB n = nI 1 then (nI 0, ca, cd, upd iB n (nI 0), br, vp_updL dr n (clip (FP.f2i (br n))).toInt64) else (nI 1, nI 7, -1, iB, br, dr)) := by
  unfold g_X12_casts g_X12_casts_b17 g_X12_casts_b70 g_X12_casts_b86 g_X12_boilsBy
  simp (disch := omega) only [x_inb, e_gcT, x_cl, e_gl, e_gbS, c_0, c_1, c_7, c_33, c_126, x_eqT, x_eqF, ↓reduceIte, kM_cut, x_nb x_bon0, x_bon1]
  split <;> rfl
theorem mD_5 (hp : p < 60) (hn : n + 1 ≤ 6) (hs : sg p = nI f) (hF : FSk 5 w f) : g_X12_does ca cd sg nu iB s dr ff br (nI p) (nI (n + 1)) = some (if iB n = nI 0 then (nI 0, ca, cd, upd iB n (nI 1), s, dr, ff, vf_upd br n (hld (FP.i2f (dr n).toInt32))) else (nI 1, nI 7, -1, iB, s, dr, ff, br)) := by
  obtain rfl : f = 126 := by unfold FSk at hF; omega
  unfold g_X12_does g_X12_does_b154
  simp (disch := omega) only [x_inb, e_gcT, x_cl, e_gl, hs, kM_letN hp hs hF (by omega), kM_numN hp hs hF (by omega), ↓reduceIte, e_gbS, c_0, c_1, c_126, c_33, c_61, x_s1, x_eqT, x_eqF, kM_cast1 (n := n) (by omega)]
  split <;> rfl
theorem mD_6 (hp : p < 60) (hn : n + 1 ≤ 6) (hs : sg p = nI f) (hF : FSk 6 w f) : g_X12_does ca cd sg nu iB s dr ff br (nI p) (nI (n + 1)) = some (if iB n = nI 1 then (nI 0, ca, cd, upd iB n (nI 0), s, vp_updL dr n (clip (FP.f2i (br n))).toInt64, ff, br) else (nI 1, nI 7, -1, iB, s, dr, ff, br)) := by
  obtain rfl : f = 33 := by unfold FSk at hF; omega
  unfold g_X12_does g_X12_does_b154
  simp (disch := omega) only [x_inb, e_gcT, x_cl, e_gl, hs, kM_letN hp hs hF (by omega), kM_numN hp hs hF (by omega), ↓reduceIte, e_gbS, c_0, c_1, c_126, c_33, c_61, x_s1, x_eqT, x_eqF, kM_cast0 (n := n) (by omega)]
  split <;> rfl
/-- the reference's numbers after a store -/
def sSt (s : Nat → Int32) (w : Nat) (v : Int32) : Nat → Int32 := upd (upd (upd s (4 + 5 * w + 3) v) (4 + 5 * w + 4) (s (4 + 5 * w + 4) + 1)) 3 (s 3 + 1)
theorem kM_store (hn : n < 6) (hS : SBk s kd lo hi) (hw : w < 6) (hb : bo (kd w) = true) : g_X12_stores ca cd iB s dr ff br (nI w) (nI n) = some (if iB n = kd w then (if iB n = nI 0 then (if HL lo hi w (dr n) = true then (nI 0, ca, cd, sSt s w (dr n).toInt32, vf_upd ff w FP.fconst0) else (nI 1, nI 3, (dr n).toInt32, s, ff)) else (nI 0, ca, cd, sSt s w (nI 0), vf_upd ff w (br n))) else (nI 1, nI 7, nI w, s, ff)) := by
  unfold g_X12_stores g_X12_stores_b58 g_X12_stores_b81 g_X12_stores_b108 g_X12_boilsBy
  have e1 : ∀ v, upd s (4 + 5 * w + 3) v (4 + 5 * w + 4) = s (4 + 5 * w + 4) := fun v => x_un (by omega)
  have e2 : ∀ v u, upd (upd s (4 + 5 * w + 3) v) (4 + 5 * w + 4) u 3 = s 3 := fun v u => by rw [x_un (by omega), x_un (by omega)]
  simp (disch := omega) only [x_inb, e_gcT, x_cl, e_gl, e_gbS, c_0, c_1, c_3, c_4, c_7, x_eqT, x_eqF, ↓reduceIte, kM_holds hS hw, kM_isBroth hS hw hb, x_bon1, k_X12_sets hw (j := 3), k_X12_sets hw (j := 4), k_X12_of hw (j := 4), e1, e2]
  by_cases h1 : iB n = kd w
  · by_cases h2 : iB n = nI 0
    · by_cases h3 : HL lo hi w (dr n) = true
      · simp (disch := omega) only [h1.symm, h2, h3, ↓reduceIte, x_eqF]
        rfl
      · simp (disch := omega) only [h1.symm, h2, h3, ↓reduceIte, x_eqF, Bool.false_eq_true]
    · simp only [h1.symm, h2, ↓reduceIte]
      rfl
  · simp only [h1, ↓reduceIte]
theorem mD_7 (hp : p < 60) (hn : n + 1 ≤ 6) (hS : SBk s kd lo hi) (hw : w < 6) (hb : bo (kd w) = true) (hs : sg p = nI f) (hF : FSk 7 w f) (hu : nu p = nI w) : g_X12_does ca cd sg nu iB s dr ff br (nI p) (nI (n + 1)) = some (if iB n = kd w then (if iB n = nI 0 then (if HL lo hi w (dr n) = true then (nI 0, ca, cd, iB, sSt s w (dr n).toInt32, dr, vf_upd ff w FP.fconst0, br) else (nI 1, nI 3, (dr n).toInt32, iB, s, dr, ff, br)) else (nI 0, ca, cd, iB, sSt s w (nI 0), dr, vf_upd ff w (br n), br)) else (nI 1, nI 7, nI w, iB, s, dr, ff, br)) := by
  obtain rfl : f = 61 := by unfold FSk at hF; omega
  unfold g_X12_does
  simp (disch := omega) only [x_inb, e_gcT, x_cl, e_gl, hs, hu, kM_letN hp hs hF (by omega), kM_numN hp hs hF (by omega), ↓reduceIte, e_gbS, c_0, c_1, c_126, c_33, c_61, x_s1, x_eqT, x_eqF, kM_store (n := n) (by omega) hS hw hb]
  by_cases h1 : iB n = kd w
  · by_cases h2 : iB n = nI 0
    · by_cases h3 : HL lo hi w (dr n) = true
      · simp (disch := omega) only [h1.symm, h2, h3, ↓reduceIte, x_bon0, e_gcT]
      · simp (disch := omega) only [h1.symm, h2, h3, ↓reduceIte, Bool.false_eq_true, x_bon1, e_gcT]
    · simp only [h1.symm, h2, ↓reduceIte, x_bon0, e_gcT]
  · simp only [h1, ↓reduceIte, x_bon1, e_gcT]
theorem lg_geN {x y : Int64} : (nI 0 ≤ lg_cmp x y) = ¬ x < y := lg_ge
theorem exc_dir {v : Int64} (h : ¬ rng v = true) : exc3 v = if v < 0 then -1 else 1 := by
  unfold rng at h
  rw [decide_eq_true_eq] at h
  unfold exc3
  by_cases h1 : v < -1000000
  · have : v < 0 := by
      rw [Int64.lt_iff_toInt_lt] at h1 ⊢
      have e1 : (-1000000 : Int64).toInt = -1000000 := rfl
      have e2 : (0 : Int64).toInt = 0 := rfl
      omega
    rw [if_pos h1, if_pos this]
  · have h2 : (1000000 : Int64) < v := by
      by_cases z : (1000000 : Int64) < v
      · exact z
      · exact absurd ⟨h1, z⟩ h
    have : ¬ v < 0 := by
      rw [Int64.lt_iff_toInt_lt] at h2 ⊢
      have e1 : (1000000 : Int64).toInt = 1000000 := rfl
      have e2 : (0 : Int64).toInt = 0 := rfl
      omega
    rw [if_neg h1, if_pos h2, if_neg this]
theorem kM_rk97 {k : Nat} (hk : k = 2 ∨ k = 3 ∨ k = 4) (hn : n + 2 ≤ 6) (hF : FSk k w f) {x y : UInt32} (hx : FF x) (hy : FF y) (v : Int64) : g_X12_reckons_b97 ca cd iB dr br (nI f) (nI (n + 1)) x y (nI n) v = some (if iB (n + 1) = nI 0 ∧ ¬ rng v = true then (nI 1, nI 8, exc3 v, vp_updL dr n v, vf_upd br n (hld (frk (nI k) x y))) else (nI 0, ca, cd, vp_updL dr n v, vf_upd br n (hld (frk (nI k) x y)))) := by
  have key : ∀ z : UInt32, g_X12_reckons_b138 ca cd iB br (nI (n + 1)) (vp_updL dr n v) (nI n) z = some (if iB (n + 1) = nI 0 ∧ ¬ rng v = true then (nI 1, nI 8, exc3 v, vp_updL dr n v, vf_upd br n (hld z)) else (nI 0, ca, cd, vp_updL dr n v, vf_upd br n (hld z))) := by
    intro z
    unfold g_X12_reckons_b138 g_X12_reckons_b171 g_X12_reckons_b176 g_X12_reckons_b204 g_X12_boilsBy
    simp (disch := omega) only [x_inb, e_gcT, x_cl, e_gl, e_gbS, c_0, c_1, c_8, x_s1, x_eqT, x_eqF, ↓reduceIte, kM_held, k_in_rng, x_Ls, lg_ge]
    by_cases h0 : iB (n + 1) = nI 0
    · by_cases hr : rng v = true
      · simp (disch := omega) only [h0, hr, ↓reduceIte, not_true_eq_false, and_false, x_eqF]
      · rw [exc_dir hr]
        by_cases hv : v < 0
        · simp (disch := omega) only [h0, hr, ↓reduceIte, not_false_eq_true, and_self, Bool.false_eq_true, lg_geN, hv, not_true_eq_false]
          rfl
        · simp (disch := omega) only [h0, hr, ↓reduceIte, not_false_eq_true, and_self, Bool.false_eq_true, lg_geN, hv]
          rfl
    · simp (disch := omega) only [h0, ↓reduceIte, false_and, x_eqF]
  unfold g_X12_reckons_b97 frk
  unfold FSk at hF
  simp (disch := omega) only [x_inb, e_gcT, x_cl, c_1, x_s1, c_43, c_45, ff_add hx hy, ff_sub hx hy, ff_mul hx hy]
  rcases hk with e | e | e
  · obtain rfl : f = 43 := by omega
    subst e
    simp (disch := omega) only [x_eqT, ↓reduceIte, c_2]
    exact key _
  · obtain rfl : f = 45 := by omega
    subst e
    simp (disch := omega) only [x_eqT, x_eqF, ↓reduceIte, c_2, c_3]
    exact key _
  · obtain rfl : f = 42 := by omega
    subst e
    simp (disch := omega) only [x_eqT, x_eqF, ↓reduceIte, c_2, c_3]
    exact key _
theorem mD_rk {k : Nat} (hk : k = 2 ∨ k = 3 ∨ k = 4) (hp : p < 60) (hn : n + 2 ≤ 6) (hs : sg p = nI f) (hF : FSk k w f) (hx : FF (br n)) (hy : FF (br (n + 1))) : g_X12_does ca cd sg nu iB s dr ff br (nI p) (nI (n + 2)) = some (if iB (n + 1) = iB n then (if iB (n + 1) = nI 0 ∧ ¬ rng (lrk (nI k) (dr n) (dr (n + 1))) = true then (nI 1, nI 8, exc3 (lrk (nI k) (dr n) (dr (n + 1))), iB, s, vp_updL dr n (lrk (nI k) (dr n) (dr (n + 1))), ff, vf_upd br n (hld (frk (nI k) (br n) (br (n + 1))))) else (nI 0, ca, cd, iB, s, vp_updL dr n (lrk (nI k) (dr n) (dr (n + 1))), ff, vf_upd br n (hld (frk (nI k) (br n) (br (n + 1)))))) else (nI 1, nI 7, -1, iB, s, dr, ff, br)) := by
  have hF' := hF
  unfold FSk at hF'
  unfold g_X12_does
  have key : g_X12_reckons ca cd iB dr br (nI f) (nI (n + 1)) = some (if iB (n + 1) = iB n then (if iB (n + 1) = nI 0 ∧ ¬ rng (lrk (nI k) (dr n) (dr (n + 1))) = true then (nI 1, nI 8, exc3 (lrk (nI k) (dr n) (dr (n + 1))), vp_updL dr n (lrk (nI k) (dr n) (dr (n + 1))), vf_upd br n (hld (frk (nI k) (br n) (br (n + 1))))) else (nI 0, ca, cd, vp_updL dr n (lrk (nI k) (dr n) (dr (n + 1))), vf_upd br n (hld (frk (nI k) (br n) (br (n + 1)))))) else (nI 1, nI 7, -1, dr, br)) := by
    unfold g_X12_reckons g_X12_boilsBy lrk
    simp (disch := omega) only [x_inb, e_gcT, x_cl, e_gl, e_gbS, c_0, c_1, c_7, x_s1, c_43, c_45, kM_rk97 (k := k) hk (by omega) hF hx hy, x_bon1]
    by_cases h1 : iB (n + 1) = iB n
    · rw [if_pos h1, if_pos h1]
      rcases hk with e | e | e
      · obtain rfl : f = 43 := by omega
        subst e
        simp (disch := omega) only [x_eqT, ↓reduceIte, c_2]
      · obtain rfl : f = 45 := by omega
        subst e
        simp (disch := omega) only [x_eqT, x_eqF, ↓reduceIte, c_2, c_3]
      · obtain rfl : f = 42 := by omega
        subst e
        simp (disch := omega) only [x_eqT, x_eqF, ↓reduceIte, c_2, c_3]
    · rw [if_neg h1, if_neg h1]
  have e0 : k ≠ 0 := by omega
  have e1 : k ≠ 1 := by omega
  simp (disch := omega) only [x_inb, e_gcT, x_cl, e_gl, hs, kM_letN hp hs hF (by omega), kM_numN hp hs hF (by omega), e0, e1, ↓reduceIte, e_gbS, c_0, c_1, c_126, c_33, c_61, x_s21, x_eqT, x_eqF, key]
  by_cases h1 : iB (n + 1) = iB n
  · by_cases h2 : iB (n + 1) = nI 0 ∧ ¬ rng (lrk (nI k) (dr n) (dr (n + 1))) = true
    · rw [if_pos h1, if_pos h1, if_pos h2, if_pos h2]; rfl
    · rw [if_pos h1, if_pos h1, if_neg h2, if_neg h2]; rfl
  · rw [if_neg h1, if_neg h1]; rfl
end KM2
