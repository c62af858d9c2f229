/-! the reference: its small programs -/
theorem k_X12_in (v a b : Int64) : g_X12_in v a b = some (if ¬ v < a ∧ ¬ b < v then 1 else 0) := by
  unfold g_X12_in
  simp only [lg_lt, lg_gt]
  by_cases h1 : v < a
  · rw [if_pos h1, if_neg (fun z => z.1 h1)]
  · rw [if_neg h1]
    by_cases h2 : b < v
    · rw [if_pos h2, if_neg (fun z => z.2 h2)]
    · rw [if_neg h2, if_pos ⟨h1, h2⟩]
theorem k_X12_of {s : Nat → Int32} {c j : Nat} (hc : c < 6) (hj : j < 5) : g_X12_of s (nI c) (nI j) = some (s (4 + 5 * c + j)) := by
  unfold g_X12_of
  simp (disch := omega) only [e_gcT, e_gl, c_4, c_5, pk_mul, nI_add, x_cl, x_inb]
theorem k_X12_sets {s : Nat → Int32} {c j : Nat} (hc : c < 6) (hj : j < 5) (v : Int32) : g_X12_sets s (nI c) (nI j) v = some (upd s (4 + 5 * c + j) v) := by
  unfold g_X12_sets
  simp (disch := omega) only [e_gcT, e_gl, c_4, c_5, pk_mul, nI_add, x_cl, x_inb]
theorem k_X12_isBroth {s : Nat → Int32} {c : Nat} (hc : c < 6) (hb : bo (s (4 + 5 * c)) = true) : g_X12_isBroth s (nI c) = some (s (4 + 5 * c)) := by
  unfold g_X12_isBroth
  simp (disch := omega) only [c_0, k_X12_of hc (j := 0), e_gbS, Nat.add_zero]
  rcases x_bob hb with h | h <;> rw [h] <;> rfl
theorem k_X12_holds {s : Nat → Int32} {c : Nat} (hc : c < 6) (v : Int64) : g_X12_holds s (nI c) v = some (if ¬ v < (s (4 + 5 * c + 1)).toInt64 ∧ ¬ (s (4 + 5 * c + 2)).toInt64 < v then 1 else 0) := by
  unfold g_X12_holds
  simp (disch := omega) only [c_1, c_2, k_X12_of hc, e_gbS, k_X12_in]
  split <;> rfl
/-- what the reference's numbers of a cauldron are -/
def SBk (s : Nat → Int32) (kd lo hi : Nat → Int32) : Prop := ∀ c, c < 6 → s (4 + 5 * c) = kd c ∧ s (4 + 5 * c + 1) = lo c ∧ s (4 + 5 * c + 2) = hi c
theorem kM_holds {s kd lo hi : Nat → Int32} (h : SBk s kd lo hi) {c : Nat} (hc : c < 6) (v : Int64) : g_X12_holds s (nI c) v = some (if HL lo hi c v = true then 1 else 0) := by
  rw [k_X12_holds hc, (h c hc).2.1, (h c hc).2.2]
  unfold HL
  simp only [decide_eq_true_eq]
theorem kM_isBroth {s kd lo hi : Nat → Int32} (h : SBk s kd lo hi) {c : Nat} (hc : c < 6) (hb : bo (kd c) = true) : g_X12_isBroth s (nI c) = some (kd c) := by
  have := (h c hc).1
  rw [k_X12_isBroth hc (by rw [this]; exact hb), this]
theorem lt64 {a : Nat} (ha : a < 2147483648) (b : Nat) (hb : b < 2147483648) (v : Int64) (hv : v = (nI b).toInt64) : ((nI a).toInt64 < v) = (a < b) := by rw [hv]; exact nI_64 ha hb
theorem gt64 {a : Nat} (ha : a < 2147483648) (b : Nat) (hb : b < 2147483648) (v : Int64) (hv : v = (nI b).toInt64) : (v < (nI a).toInt64) = (b < a) := by rw [hv]; exact nI_64 hb ha
theorem in_nI {a : Nat} (ha : a < 2147483648) (b c : Nat) (hb : b < 2147483648) (hc : c < 2147483648) (x y : Int64) (hx : x = (nI b).toInt64) (hy : y = (nI c).toInt64) : g_X12_in (nI a).toInt64 x y = some (if b ≤ a ∧ a ≤ c then nI 1 else nI 0) := by
  simp only [k_X12_in, lt64 ha b hb x hx, gt64 ha c hc y hy, Nat.not_lt]
  rfl
theorem kM_letter {sg : Nat → Int32} {p k w f : Nat} (hp : p < 60) (hs : sg p = nI f) (hF : FSk k w f) : g_X12_isLetter sg (nI p) = some (if k = 0 then nI 1 else nI 0) := by
  unfold g_X12_isLetter
  unfold FSk at hF
  simp (disch := omega) only [x_inb, e_gcT, x_cl, hs]
  rw [in_nI (a := f) (by omega) 97 102 (by omega) (by omega) 97 102 rfl rfl]
  have : (97 ≤ f ∧ f ≤ 102) ↔ k = 0 := by omega
  simp only [this, e_gbS]
  split <;> rfl
theorem kM_number {sg : Nat → Int32} {p k w f : Nat} (hp : p < 60) (hs : sg p = nI f) (hF : FSk k w f) : g_X12_isNumber sg (nI p) = some (if k = 1 then nI 1 else nI 0) := by
  unfold g_X12_isNumber
  unfold FSk at hF
  simp (disch := omega) only [x_inb, e_gcT, x_cl, hs]
  rw [in_nI (a := f) (by omega) 48 57 (by omega) (by omega) 48 57 rfl rfl]
  have : (48 ≤ f ∧ f ≤ 57) ↔ k = 1 := by omega
  simp only [this, e_gbS]
  split <;> rfl
/-- by how many spoons there are more -/
def mr (k : Nat) : Int32 := if k ≤ 1 then nI 1 else if k = 5 ∨ k = 6 then nI 0 else -1
theorem kM_more {sg : Nat → Int32} {p k w f : Nat} (hp : p < 60) (hs : sg p = nI f) (hF : FSk k w f) : g_X12_more sg (nI p) = some (mr k) := by
  unfold g_X12_more mr
  rw [kM_letter hp hs hF]
  by_cases h0 : k = 0
  · subst h0; rfl
  · rw [if_neg h0, e_gbS, kM_number hp hs hF]
    by_cases h1 : k = 1
    · subst h1; rfl
    · unfold FSk at hF
      simp (disch := omega) only [if_neg h1, e_gbS, c_0, ↓reduceIte, x_inb, e_gcT, x_cl, hs]
      rw [if_neg (show ¬ k ≤ 1 by omega)]
      by_cases h5 : k = 5
      · obtain rfl : f = 126 := by omega
        rw [if_pos (Or.inl h5)]; rfl
      · by_cases h6 : k = 6
        · obtain rfl : f = 33 := by omega
          rw [if_pos (Or.inr h6)]; rfl
        · rw [if_neg (show ¬ (k = 5 ∨ k = 6) by omega), if_neg (fun z => by have := nI_inj (by omega) (by omega) (show nI f = nI 126 from z); omega), if_neg (fun z => by have := nI_inj (by omega) (by omega) (show nI f = nI 33 from z); omega)]
theorem mr_next {k : Nat → Nat} {p : Nat} (h7 : k p ≤ 7) (hf : fnd (k p) ≤ DD k p) (h5 : DD k p ≤ 5) : nI (DD k p) + mr (k p) = nI (DD k (p + 1)) := by
  rw [DD_s]
  rcases k8 h7 with e | e | e | e | e | e | e | e <;> rw [e] at hf ⊢
  · show nI (DD k p) + nI 1 = _; rw [nI_add]; rfl
  · show nI (DD k p) + nI 1 = _; rw [nI_add]; rfl
  · rw [fnd_2] at hf; show nI (DD k p) + (-1) = _; rw [x_m1 (by omega)]; congr 1; simp [fnd, ly]; omega
  · rw [fnd_3] at hf; show nI (DD k p) + (-1) = _; rw [x_m1 (by omega)]; congr 1; simp [fnd, ly]; omega
  · rw [fnd_4] at hf; show nI (DD k p) + (-1) = _; rw [x_m1 (by omega)]; congr 1; simp [fnd, ly]; omega
  · rw [fnd_5] at hf; show nI (DD k p) + nI 0 = _; rw [nI_add]; congr 1; simp [fnd, ly]; omega
  · rw [fnd_6] at hf; show nI (DD k p) + nI 0 = _; rw [nI_add]; congr 1; simp [fnd, ly]; omega
  · rw [fnd_7] at hf; show nI (DD k p) + (-1) = _; rw [x_m1 (by omega)]; congr 1
theorem k_X12_lays {l h : Nat → Int64} {n : Nat} (hn : n < 6) (a b : Int64) : g_X12_laysBounds l h (nI n) a b = some (vp_updL l n a, vp_updL h n b) := by
  unfold g_X12_laysBounds
  simp (disch := omega) only [x_inb, e_gcT, x_cl]
/-- in range: neither too few nor too many -/
def rng (v : Int64) : Bool := decide (¬ v < -1000000 ∧ ¬ 1000000 < v)
theorem rng_exc {v : Int64} : rng v = true ↔ exc3 v = 0 := by
  unfold rng exc3
  rw [decide_eq_true_eq]
  by_cases h1 : v < -1000000
  · rw [if_pos h1]; exact ⟨fun z => absurd h1 z.1, fun z => absurd z (by decide)⟩
  · rw [if_neg h1]
    by_cases h2 : (1000000 : Int64) < v
    · rw [if_pos h2]; exact ⟨fun z => absurd h2 z.2, fun z => absurd z (by decide)⟩
    · rw [if_neg h2]; exact ⟨fun _ => rfl, fun _ => ⟨h1, h2⟩⟩
theorem k_in_rng (v : Int64) : g_X12_in v (-1000000) 1000000 = some (if rng v = true then 1 else 0) := by
  rw [k_X12_in]
  unfold rng
  simp only [decide_eq_true_eq]
def rkOk (iB : Nat → Int32) (l h : Nat → Int64) (n : Nat) : Int32 := if iB (n + 1) = iB n then (if iB (n + 1) = 0 then (if rng (l n) = true ∧ rng (h n) = true then nI 0 else nI 1) else nI 0) else nI 1
theorem k_X12_tr154 {iB : Nat → Int32} {l h : Nat → Int64} {n : Nat} (hn : n + 1 < 6) : g_X12_typesReckoning_b154 iB (nI (n + 1)) h l = some (rkOk iB l h n, l, h) := by
  unfold g_X12_typesReckoning_b154 g_X12_typesReckoning_b198 g_X12_typesReckoning_b199 rkOk
  simp (disch := omega) only [c_1, x_s1, x_inb, x_cl, e_gcT, k_in_rng, e_gbS]
  by_cases h1 : rng (l n) = true
  · by_cases h2 : rng (h n) = true
    · simp only [h1, h2, ↓reduceIte, e_gbS, and_self, c_0, show (nI 1 = nI 0) = False from eq_false (by decide)]
      repeat' split
      all_goals rfl
    · simp only [h1, h2, ↓reduceIte, e_gbS, and_false, c_0, show (nI 1 = nI 0) = False from eq_false (by decide), Bool.false_eq_true]
      repeat' split
      all_goals rfl
  · simp only [h1, ↓reduceIte, e_gbS, false_and, c_0, Bool.false_eq_true]
    repeat' split
    all_goals rfl
theorem k_X12_tr {iB : Nat → Int32} {l h : Nat → Int64} {n k w f : Nat} (hn : n + 1 < 6) (hk : k = 2 ∨ k = 3 ∨ k = 4) (hF : FSk k w f) : g_X12_typesReckoning l h iB (nI f) (nI (n + 1)) = some (rkOk iB (vp_updL l n (lo4 (nI k) (l n) (h n) (l (n + 1)) (h (n + 1)))) (vp_updL h n (hi4 (nI k) (l n) (h n) (l (n + 1)) (h (n + 1)))) n, vp_updL l n (lo4 (nI k) (l n) (h n) (l (n + 1)) (h (n + 1))), vp_updL h n (hi4 (nI k) (l n) (h n) (l (n + 1)) (h (n + 1)))) := by
  unfold g_X12_typesReckoning
  unfold FSk at hF
  simp (disch := omega) only [c_1, x_s1, x_inb, x_cl, e_gcT, e_gl, k_X12_lays, e_gbS, k_X12_tr154, c_43, c_45]
  rcases hk with e | e | e
  · obtain rfl : f = 43 := by omega
    subst e
    simp (disch := omega) only [x_eqT, ↓reduceIte, lo4, hi4, c_2]
  · obtain rfl : f = 45 := by omega
    subst e
    simp (disch := omega) only [x_eqT, x_eqF, ↓reduceIte, lo4, hi4, c_2, c_3]
  · obtain rfl : f = 42 := by omega
    subst e
    simp (disch := omega) only [x_eqT, x_eqF, ↓reduceIte, lo4, hi4, c_2, c_3]
theorem kM_letN {sg : Nat → Int32} {p k w f : Nat} (hp : p < 60) (hs : sg p = nI f) (hF : FSk k w f) (h : k ≠ 0) : g_X12_isLetter sg (nI p) = some (nI 0) := by rw [kM_letter hp hs hF, if_neg h]
theorem kM_letY {sg : Nat → Int32} {p w f : Nat} (hp : p < 60) (hs : sg p = nI f) (hF : FSk 0 w f) : g_X12_isLetter sg (nI p) = some (nI 1) := by rw [kM_letter hp hs hF]; rfl
theorem kM_numN {sg : Nat → Int32} {p k w f : Nat} (hp : p < 60) (hs : sg p = nI f) (hF : FSk k w f) (h : k ≠ 1) : g_X12_isNumber sg (nI p) = some (nI 0) := by rw [kM_number hp hs hF, if_neg h]
theorem kM_numY {sg : Nat → Int32} {p w f : Nat} (hp : p < 60) (hs : sg p = nI f) (hF : FSk 1 w f) : g_X12_isNumber sg (nI p) = some (nI 1) := by rw [kM_number hp hs hF]; rfl
