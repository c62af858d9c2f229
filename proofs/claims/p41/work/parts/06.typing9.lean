/-! the class's typing, token by token -/
theorem k_X0_holds {lo hi : Nat → Int32} {w : Nat} (hw : w < 6) (v : Int64) : g_X0_holds lo hi (nI w) v = some (if HL lo hi w v = true then 1 else 0) := by
  unfold g_X0_holds HL
  simp (disch := omega) only [e_gcT, x_inb, x_cl, lg_lt, lg_gt]
  by_cases h1 : v < (lo w).toInt64
  · rw [if_pos h1, if_neg (by simp [h1])]
  · rw [if_neg h1]
    by_cases h2 : (hi w).toInt64 < v
    · rw [if_pos h2, if_neg (by simp [h2])]
    · rw [if_neg h2, if_pos (by simp [h1, h2])]
theorem k_X9_lay {n : Nat} (hn : n < 5) (iB : Nat → Int32) (lo hi : Nat → Int64) (p1 : Int32) (p2 p3 : Int64) : g_X9_lay (nI n) iB lo hi p1 p2 p3 = some (nI 1, nI (n + 1), upd iB n (vp_nar .boolean p1), vp_updL lo n p2, vp_updL hi n p3) := by
  unfold g_X9_lay
  simp (disch := omega) only [e_gcT, e_gl, c_0, c_1, c_5, nI_add, x_ltT, x_ltF, x_leT, x_leF, x_cl, x_inb, ↓reduceIte]
section T9
variable {st : Int32} {kd lo hi iB : Nat → Int32} {l h : Nat → Int64} {sB : Nat → Int32} {sL sH : Nat → Int64} {n w : Nat}
theorem k9_0 (hn : n < 5) (hw : w < 6) (hb : bo (kd w) = true) : g_X9_passesToken st (nI n) kd lo hi iB l h sB sL sH (nI 0) (nI w) = some (nI 1, st, nI (n + 1), upd iB n (kd w), vp_updL l n (lo w).toInt64, vp_updL h n (hi w).toInt64, sB, sL, sH) := by
  unfold g_X9_passesToken
  simp (disch := omega) only [e_gcT, e_gl, e_gbS, c_0, c_1, c_5, c_6, nI_add, x_ltT, x_ltF, x_leT, x_leF, x_eqT, x_eqF, x_cl, x_inb, ↓reduceIte, k_X9_lay, x_nb hb]
theorem k9_1 (hn : n < 5) : g_X9_passesToken st (nI n) kd lo hi iB l h sB sL sH (nI 1) (nI w) = some (nI 1, st, nI (n + 1), upd iB n (nI 0), vp_updL l n (nI w).toInt64, vp_updL h n (nI w).toInt64, sB, sL, sH) := by
  unfold g_X9_passesToken
  simp (disch := omega) only [e_gcT, e_gl, e_gbS, c_0, c_1, nI_add, x_ltT, x_ltF, x_leT, x_leF, x_eqT, x_eqF, x_cl, x_inb, ↓reduceIte, k_X9_lay, x_bon1]
  rfl
theorem k_X9_cast {b : Int32} (hn : n < 5) (hb : bo b = true) : g_X9_passesCast (nI (n + 1)) iB l h b = some (if iB n = b then (nI 0, iB, l, h) else (nI 1, upd iB n b, vp_updL l n (-99), vp_updL h n 99)) := by
  unfold g_X9_passesCast
  simp (disch := omega) only [e_gcT, e_gl, e_gbS, c_0, c_1, c_5, nI_add, x_s1, x_ltT, x_ltF, x_leT, x_leF, x_eqT, x_eqF, x_cl, x_inb, ↓reduceIte, x_nb hb]
  split <;> rfl
theorem k9_5 (hn : n < 5) : g_X9_passesToken st (nI (n + 1)) kd lo hi iB l h sB sL sH (nI 5) (nI w) = some (if iB n = nI 1 then (nI 0, st, nI (n + 1), iB, l, h, sB, sL, sH) else (nI 1, st, nI (n + 1), upd iB n (nI 1), vp_updL l n (-99), vp_updL h n 99, sB, sL, sH)) := by
  unfold g_X9_passesToken
  simp (disch := omega) only [e_gl, c_0, c_1, c_2, c_3, c_4, c_5, x_eqT, x_eqF, ↓reduceIte, k_X9_cast hn x_bon1, e_gbS]
  split <;> simp only [x_bon0, x_bon1, e_gcT]
theorem k9_6 (hn : n < 5) : g_X9_passesToken st (nI (n + 1)) kd lo hi iB l h sB sL sH (nI 6) (nI w) = some (if iB n = nI 0 then (nI 0, st, nI (n + 1), iB, l, h, sB, sL, sH) else (nI 1, st, nI (n + 1), upd iB n (nI 0), vp_updL l n (-99), vp_updL h n 99, sB, sL, sH)) := by
  unfold g_X9_passesToken
  simp (disch := omega) only [e_gl, c_0, c_1, c_2, c_3, c_4, c_5, c_6, x_eqT, x_eqF, ↓reduceIte, k_X9_cast hn x_bon0, e_gbS]
  split <;> simp only [x_bon0, x_bon1, e_gcT]
theorem k_X9_reckon {k : Nat} (hn : n + 2 ≤ 5) : g_X9_passesReckoning (nI (n + 2)) iB l h (nI k) = some (if iB n = iB (n + 1) then (if iB n = nI 0 then (if exc3 (lo4 (nI k) (l n) (h n) (l (n + 1)) (h (n + 1))) = nI 0 then (if exc3 (hi4 (nI k) (l n) (h n) (l (n + 1)) (h (n + 1))) = nI 0 then (nI 1, nI (n + 1), vp_updL l n (lo4 (nI k) (l n) (h n) (l (n + 1)) (h (n + 1))), vp_updL h n (hi4 (nI k) (l n) (h n) (l (n + 1)) (h (n + 1)))) else (nI 0, nI (n + 1), vp_updL l n (lo4 (nI k) (l n) (h n) (l (n + 1)) (h (n + 1))), vp_updL h n (hi4 (nI k) (l n) (h n) (l (n + 1)) (h (n + 1))))) else (nI 0, nI (n + 1), vp_updL l n (lo4 (nI k) (l n) (h n) (l (n + 1)) (h (n + 1))), vp_updL h n (hi4 (nI k) (l n) (h n) (l (n + 1)) (h (n + 1))))) else (nI 1, nI (n + 1), l, h)) else (nI 0, nI (n + 2), l, h)) := by
  unfold g_X9_passesReckoning
  simp (disch := omega) only [e_gcT, e_gl, e_gbS, c_0, c_1, c_2, c_5, x_s21, x_s2, x_ltT, x_ltF, x_leT, x_leF, x_cl, x_inb, ↓reduceIte, k_X5_lowest, k_X5_highest, k_X5_excess]
  split
  · split
    · split
      · split <;> rfl
      · rfl
    · rfl
  · rfl
theorem k9_rk {k : Nat} (hk : k = 2 ∨ k = 3 ∨ k = 4) (hn : n + 2 ≤ 5) : g_X9_passesToken st (nI (n + 2)) kd lo hi iB l h sB sL sH (nI k) (nI w) = g_X9_passesToken_b138 st (nI (n + 2)) iB l h sB sL sH (nI k) := by
  unfold g_X9_passesToken
  rcases hk with e | e | e <;> subst e <;> simp (disch := omega) only [c_0, c_1, c_2, c_3, c_4, x_eqT, x_eqF, ↓reduceIte]
theorem k_X9_store {sn : Nat} (hn : n < 5) (hs : sn < 24) (hw : w < 6) (hb : bo (iB n) = true) : g_X9_passesStore (nI sn) (nI (n + 1)) sB iB sL l sH h kd lo hi (nI w) = some (if iB n = kd w then (if iB n = nI 0 then (if HL lo hi w (l n) = true then (if HL lo hi w (h n) = true then nI 1 else nI 0) else nI 0) else nI 1) else nI 0, nI (sn + 1), nI n, upd sB sn (iB n), vp_updL sL sn (l n), vp_updL sH sn (h n)) := by
  unfold g_X9_passesStore
  simp (disch := omega) only [e_gcT, e_gl, e_gbS, c_0, c_1, c_5, c_24, nI_add, x_s1, x_ltT, x_ltF, x_leT, x_leF, x_cl, x_inb, ↓reduceIte, k_X0_holds hw, x_nb hb]
  by_cases h1 : iB n = kd w
  · by_cases h2 : iB n = nI 0
    · by_cases h3 : HL lo hi w (l n) = true
      · by_cases h4 : HL lo hi w (h n) = true
        · simp (disch := omega) only [h1.symm, h2, h3, h4, ↓reduceIte, x_eqF]
        · simp (disch := omega) only [h1.symm, h2, h3, h4, ↓reduceIte, x_eqF]
          simp
      · simp (disch := omega) only [h1.symm, h2, h3, ↓reduceIte, x_eqF]
        simp
    · simp only [h1.symm, h2, ↓reduceIte]
  · simp only [h1, ↓reduceIte]
theorem k9_7 {sn : Nat} (hn : n < 5) (hs : sn < 24) (hw : w < 6) (hb : bo (iB n) = true) : Ok (g_X9_passesToken (nI sn) (nI (n + 1)) kd lo hi iB l h sB sL sH (nI 7) (nI w)) (fun o => o.1 = (if iB n = kd w then (if iB n = nI 0 then (if HL lo hi w (l n) = true then (if HL lo hi w (h n) = true then nI 1 else nI 0) else nI 0) else nI 1) else nI 0) ∧ o.2 = (nI (sn + 1), nI n, iB, l, h, upd sB sn (iB n), vp_updL sL sn (l n), vp_updL sH sn (h n))) := by
  unfold g_X9_passesToken
  simp (disch := omega) only [c_0, c_1, c_2, c_3, c_4, c_5, c_6, c_7, x_eqT, x_eqF, x_ltF, x_leF, ↓reduceIte, k_X9_store hn hs hw hb, e_gbS]
  refine ok_i (fun h0 => ok_s ⟨h0.symm, rfl⟩) (fun h0 => ok_s ⟨?_, rfl⟩)
  revert h0
  repeat' split
  all_goals first | (intro _; rfl) | (intro q; exact absurd rfl q)
end T9
