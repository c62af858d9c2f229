/-! the reference's typing of a token -/
section TM
variable {nu sg : Nat → Int32} {l h : Nat → Int64} {iB s kd lo hi : Nat → Int32} {p n w f : Nat}
theorem mF_0 (hp : p < 60) (hn : n < 6) (hS : SBk s kd lo hi) (hw : w < 6) (hb : bo (kd w) = true) (hs : sg p = nI f) (hF : FSk 0 w f) (hu : nu p = nI w) : g_X12_isFault nu sg l h iB s (nI p) (nI n) = some (nI 0, (if kd w = 0 then vp_updL l n (lo w).toInt64 else vp_updL l n 0), (if kd w = 0 then vp_updL h n (hi w).toInt64 else vp_updL h n 0), upd iB n (kd w)) := by
  unfold g_X12_isFault g_X12_isFault_b47 g_X12_isFault_b66
  have h1 := k_X12_of (s := s) hw (j := 1) (by omega)
  have h2 := k_X12_of (s := s) hw (j := 2) (by omega)
  rw [(hS w hw).2.1] at h1
  rw [(hS w hw).2.2] at h2
  simp (disch := omega) only [x_inb, e_gcT, x_cl, e_gl, hu, kM_letY hp hs hF, kM_isBroth hS hw hb, ↓reduceIte, e_gbS, c_0, c_1, c_2, h1, h2, x_eqT, x_eqF, k_X12_lays, x_nb hb]
  by_cases h0 : kd w = nI 0
  · simp only [h0, ↓reduceIte]
  · simp only [h0, ↓reduceIte]
theorem mF_1 (hp : p < 60) (hn : n < 6) (hs : sg p = nI f) (hF : FSk 1 w f) (hu : nu p = nI w) : g_X12_isFault nu sg l h iB s (nI p) (nI n) = some (nI 0, vp_updL l n (nI w).toInt64, vp_updL h n (nI w).toInt64, upd iB n (nI 0)) := by
  unfold g_X12_isFault
  simp (disch := omega) only [x_inb, e_gcT, x_cl, e_gl, hu, kM_letN hp hs hF (by omega), kM_numY hp hs hF, ↓reduceIte, e_gbS, c_0, x_eqT, x_eqF, k_X12_lays, Nat.one_ne_zero]
  rfl
theorem mF_5 (hp : p < 60) (hn : n + 1 ≤ 6) (hs : sg p = nI f) (hF : FSk 5 w f) : g_X12_isFault nu sg l h iB s (nI p) (nI (n + 1)) = some (if iB n = nI 1 then nI 1 else nI 0, vp_updL l n 0, vp_updL h n 0, upd iB n (nI 1)) := by
  obtain rfl : f = 126 := by unfold FSk at hF; omega
  unfold g_X12_isFault g_X12_isFault_b124 g_X12_isFault_b143 g_X12_isFault_b151 g_X12_isFault_b171 g_X12_isFault_b189 g_X12_isFault_b203
  simp (disch := omega) only [x_inb, e_gcT, x_cl, e_gl, hs, kM_letN hp hs hF (by omega), kM_numN hp hs hF (by omega), ↓reduceIte, e_gbS, c_0, c_1, c_126, x_s1, x_eqT, x_eqF, k_X12_lays]
  split <;> rfl
theorem mF_6 (hp : p < 60) (hn : n + 1 ≤ 6) (hs : sg p = nI f) (hF : FSk 6 w f) : g_X12_isFault nu sg l h iB s (nI p) (nI (n + 1)) = some (if iB n = nI 0 then nI 1 else nI 0, vp_updL l n (-99), vp_updL h n 99, upd iB n (nI 0)) := by
  obtain rfl : f = 33 := by unfold FSk at hF; omega
  unfold g_X12_isFault g_X12_isFault_b124 g_X12_isFault_b143 g_X12_isFault_b151 g_X12_isFault_b171 g_X12_isFault_b189 g_X12_isFault_b203
  simp (disch := omega) only [x_inb, e_gcT, x_cl, e_gl, hs, kM_letN hp hs hF (by omega), kM_numN hp hs hF (by omega), ↓reduceIte, e_gbS, c_0, c_1, c_126, c_33, x_s1, x_eqT, x_eqF, k_X12_lays]
  split <;> rfl
theorem mF_7 (hp : p < 60) (hn : n + 1 ≤ 6) (hS : SBk s kd lo hi) (hw : w < 6) (hb : bo (kd w) = true) (hs : sg p = nI f) (hF : FSk 7 w f) (hu : nu p = nI w) : g_X12_isFault nu sg l h iB s (nI p) (nI (n + 1)) = some (if iB n = kd w then (if iB n = nI 0 then (if HL lo hi w (l n) = true ∧ HL lo hi w (h n) = true then nI 0 else nI 1) else nI 0) else nI 1, l, h, iB) := by
  obtain rfl : f = 61 := by unfold FSk at hF; omega
  unfold g_X12_isFault g_X12_isFault_b250 g_X12_isFault_b251
  simp (disch := omega) only [x_inb, e_gcT, x_cl, e_gl, hs, hu, kM_letN hp hs hF (by omega), kM_numN hp hs hF (by omega), ↓reduceIte, e_gbS, c_0, c_1, c_126, c_33, c_61, x_s1, x_eqT, x_eqF, kM_holds hS hw, kM_isBroth hS hw hb]
  by_cases h1 : HL lo hi w (l n) = true
  · by_cases h2 : HL lo hi w (h n) = true
    · simp (disch := omega) only [h1, h2, ↓reduceIte, x_eqF, x_eqT, and_self]
      repeat' split
      all_goals rfl
    · simp (disch := omega) only [h1, h2, ↓reduceIte, x_eqF, x_eqT, and_false, Bool.false_eq_true]
      repeat' split
      all_goals rfl
  · simp (disch := omega) only [h1, ↓reduceIte, x_eqF, x_eqT, false_and, Bool.false_eq_true]
    repeat' split
    all_goals rfl
theorem rkOk_bo {n : Nat} : bo (rkOk iB l h n) = true := by
  unfold rkOk
  repeat' split
  all_goals rfl
theorem mF_rk {k : Nat} (hk : k = 2 ∨ k = 3 ∨ k = 4) (hp : p < 60) (hn : n + 2 ≤ 6) (hs : sg p = nI f) (hF : FSk k w f) : g_X12_isFault nu sg l h iB s (nI p) (nI (n + 2)) = some (rkOk iB (vp_updL l n (lo4 (nI k) (l n) (h n) (l (n + 1)) (h (n + 1)))) (vp_updL h n (hi4 (nI k) (l n) (h n) (l (n + 1)) (h (n + 1)))) n, vp_updL l n (lo4 (nI k) (l n) (h n) (l (n + 1)) (h (n + 1))), vp_updL h n (hi4 (nI k) (l n) (h n) (l (n + 1)) (h (n + 1))), iB) := by
  have hF' := hF
  unfold FSk at hF'
  unfold g_X12_isFault
  have e0 : k ≠ 0 := by omega
  have e1 : k ≠ 1 := by omega
  simp (disch := omega) only [x_inb, e_gcT, x_cl, e_gl, hs, kM_letN hp hs hF (by omega), kM_numN hp hs hF (by omega), e0, e1, ↓reduceIte, e_gbS, c_0, c_1, c_126, c_33, c_61, x_s21, x_eqT, x_eqF, k_X12_tr (show n + 1 < 6 by omega) hk hF, rkOk_bo]
end TM
