/-! the class's cooking, token by token -/
section K2
variable {ca cd : Int32} {kd lo hi iB mn nm st : Nat → Int32} {mu nu : Nat → UInt32} {n w : Nat}
theorem k_X2_lay (hn : n < 5) (p1 p2 : Int32) (p3 : UInt32) : g_X2_lay (nI n) iB mn mu p1 p2 p3 = some (nI 1, nI (n + 1), upd iB n (vp_nar .boolean p1), upd mn n p2, vf_upd mu n p3) := by
  unfold g_X2_lay
  simp (disch := omega) only [e_gcT, e_gl, c_0, c_1, c_5, nI_add, x_ltT, x_ltF, x_leT, x_leF, x_cl, x_inb, ↓reduceIte]
theorem k2_0 (hn : n < 5) (hw : w < 6) (hb : bo (kd w) = true) : g_X2_goesToken ca cd (nI n) kd nm nu iB mn mu lo hi st (nI 0) (nI w) = some (nI 1, ca, cd, nI (n + 1), nm, nu, upd iB n (kd w), upd mn n (nm w), vf_upd mu n (nu w), st) := by
  unfold g_X2_goesToken
  simp (disch := omega) only [e_gcT, e_gl, e_gbS, c_0, c_1, c_5, c_6, nI_add, x_ltT, x_ltF, x_leT, x_leF, x_eqT, x_eqF, x_cl, x_inb, ↓reduceIte, k_X2_lay, x_nb hb]
theorem k2_1 (hn : n < 5) : g_X2_goesToken ca cd (nI n) kd nm nu iB mn mu lo hi st (nI 1) (nI w) = some (nI 1, ca, cd, nI (n + 1), nm, nu, upd iB n (nI 0), upd mn n (nI w), vf_upd mu n FP.fconst0, st) := by
  unfold g_X2_goesToken
  simp (disch := omega) only [e_gcT, e_gl, e_gbS, c_0, c_1, nI_add, x_ltT, x_ltF, x_leT, x_leF, x_eqT, x_eqF, x_cl, x_inb, ↓reduceIte, k_X2_lay, x_bon1]
  rfl
theorem k_X2_cast0 (hn : n < 5) : g_X2_goesCast ca cd (nI (n + 1)) iB mn mu (nI 0) = some (if iB n = nI 0 then (nI 0, nI 7, -1, iB, mn, mu) else (nI 1, ca, cd, upd iB n (nI 0), upd mn n (clip (FP.f2i (mu n))), mu)) := by
  unfold g_X2_goesCast g_X2_boil
  simp (disch := omega) only [e_gcT, e_gl, e_gbS, c_0, c_1, c_5, c_7, nI_add, x_s1, x_ltT, x_ltF, x_leT, x_leF, x_eqT, x_eqF, x_cl, x_inb, ↓reduceIte, x_nb x_bon0, k_X5_toDrams, x_bon0]
  split <;> rfl
theorem k_X2_cast1 (hn : n < 5) : g_X2_goesCast ca cd (nI (n + 1)) iB mn mu (nI 1) = some (if iB n = nI 1 then (nI 0, nI 7, -1, iB, mn, mu) else (nI 1, ca, cd, upd iB n (nI 1), mn, vf_upd mu n (hld (FP.i2f (mn n))))) := by
  unfold g_X2_goesCast g_X2_boil
  simp (disch := omega) only [e_gcT, e_gl, e_gbS, c_0, c_1, c_5, c_7, nI_add, x_s1, x_ltT, x_ltF, x_leT, x_leF, x_eqT, x_eqF, x_cl, x_inb, ↓reduceIte, x_nb x_bon1, k_X5_toBroth, x_bon0]
  split <;> rfl
theorem k2_5 (hn : n < 5) : g_X2_goesToken ca cd (nI (n + 1)) kd nm nu iB mn mu lo hi st (nI 5) (nI w) = some (if iB n = nI 1 then (nI 0, nI 7, -1, nI (n + 1), nm, nu, iB, mn, mu, st) else (nI 1, ca, cd, nI (n + 1), nm, nu, upd iB n (nI 1), mn, vf_upd mu n (hld (FP.i2f (mn n))), st)) := by
  unfold g_X2_goesToken
  simp (disch := omega) only [e_gl, c_0, c_1, c_2, c_3, c_4, c_5, x_eqT, x_eqF, ↓reduceIte, k_X2_cast1 hn, e_gbS]
  split <;> simp only [x_bon0, x_bon1, e_gcT]
theorem k2_6 (hn : n < 5) : g_X2_goesToken ca cd (nI (n + 1)) kd nm nu iB mn mu lo hi st (nI 6) (nI w) = some (if iB n = nI 0 then (nI 0, nI 7, -1, nI (n + 1), nm, nu, iB, mn, mu, st) else (nI 1, ca, cd, nI (n + 1), nm, nu, upd iB n (nI 0), upd mn n (clip (FP.f2i (mu n))), mu, st)) := by
  unfold g_X2_goesToken
  simp (disch := omega) only [e_gl, c_0, c_1, c_2, c_3, c_4, c_5, c_6, x_eqT, x_eqF, ↓reduceIte, k_X2_cast0 hn, e_gbS]
  split <;> simp only [x_bon0, x_bon1, e_gcT]
theorem k_X2_reckon {k : Nat} (hn : n + 2 ≤ 5) (hF : iB n = iB (n + 1) → iB n ≠ nI 0 → FF (mu n) ∧ FF (mu (n + 1))) : g_X2_goesReckoning ca cd (nI (n + 2)) iB mn mu (nI k) = some (if iB n = iB (n + 1) then (if iB n = nI 0 then (if exc3 (lrk (nI k) (mn n).toInt64 (mn (n + 1)).toInt64) = nI 0 then (nI 1, ca, cd, nI (n + 1), upd mn n (lrk (nI k) (mn n).toInt64 (mn (n + 1)).toInt64).toInt32, mu) else (nI 0, nI 8, exc3 (lrk (nI k) (mn n).toInt64 (mn (n + 1)).toInt64), nI (n + 1), mn, mu)) else (nI 1, ca, cd, nI (n + 1), mn, vf_upd mu n (hld (frk (nI k) (mu n) (mu (n + 1)))))) else (nI 0, nI 7, -1, nI (n + 2), mn, mu)) := by
  unfold g_X2_goesReckoning g_X2_boil
  by_cases h0 : iB n = nI 0
  · simp (disch := omega) only [e_gcT, e_gl, e_gbS, c_0, c_1, c_2, c_5, c_7, c_8, x_s21, x_s2, x_ltT, x_ltF, x_leT, x_leF, x_cl, x_inb, ↓reduceIte, k_X5_ofDrams, k_X5_excess, x_bon0, h0]
    split
    · split <;> rfl
    · rfl
  · by_cases h1 : iB n = iB (n + 1)
    · obtain ⟨f1, f2⟩ := hF h1 h0
      simp (disch := omega) only [e_gcT, e_gl, e_gbS, c_0, c_1, c_2, c_5, c_7, c_8, x_s21, x_s2, x_ltT, x_ltF, x_leT, x_leF, x_cl, x_inb, ↓reduceIte, k_X5_ofBroth _ f1 f2, x_bon0, h0]
      split <;> rfl
    · rw [if_neg h1]
      simp (disch := omega) only [e_gcT, e_gl, e_gbS, c_0, c_1, c_2, c_5, c_7, c_8, x_s21, x_s2, x_ltT, x_ltF, x_leT, x_leF, x_cl, x_inb, ↓reduceIte, x_bon0, h1]
theorem k2_rk {k : Nat} (hk : k = 2 ∨ k = 3 ∨ k = 4) (hn : n + 2 ≤ 5) : g_X2_goesToken ca cd (nI (n + 2)) kd nm nu iB mn mu lo hi st (nI k) (nI w) = g_X2_goesToken_b140 ca cd (nI (n + 2)) nm nu iB mn mu st (nI k) := by
  unfold g_X2_goesToken
  rcases hk with e | e | e <;> subst e <;> simp (disch := omega) only [c_0, c_1, c_2, c_3, c_4, x_eqT, x_eqF, ↓reduceIte]
theorem k_X2_store (hn : n < 5) (hw : w < 6) : g_X2_goesStore ca cd (nI (n + 1)) iB kd mn lo hi nm nu mu st (nI w) = some (if iB n = kd w then (if iB n = nI 0 then (if HL lo hi w (mn n).toInt64 = true then (nI 1, ca, cd, nI n, upd nm w (mn n), nu, upd st w (st w + 1)) else (nI 0, nI 3, mn n, nI (n + 1), nm, nu, st)) else (nI 1, ca, cd, nI n, nm, vf_upd nu w (mu n), upd st w (st w + 1))) else (nI 0, nI 7, nI w, nI (n + 1), nm, nu, st)) := by
  unfold g_X2_goesStore g_X2_goesStore_b113 g_X2_boil
  simp (disch := omega) only [e_gcT, e_gl, e_gbS, c_0, c_1, c_3, c_5, c_7, c_24, nI_add, x_s1, x_ltT, x_ltF, x_leT, x_leF, x_cl, x_inb, ↓reduceIte, k_X0_holds hw, x_bon0]
  by_cases h1 : iB n = kd w
  · by_cases h2 : iB n = nI 0
    · by_cases h3 : HL lo hi w (mn n).toInt64 = true
      · simp (disch := omega) only [h1.symm, h2, h3, ↓reduceIte, x_eqF]
      · simp (disch := omega) only [h1.symm, h2, h3, ↓reduceIte, x_eqF, Bool.false_eq_true]
    · simp only [h1.symm, h2, ↓reduceIte]
  · simp only [h1, ↓reduceIte]
theorem k2_7 (hn : n < 5) (hw : w < 6) : g_X2_goesToken ca cd (nI (n + 1)) kd nm nu iB mn mu lo hi st (nI 7) (nI w) = some (if iB n = kd w then (if iB n = nI 0 then (if HL lo hi w (mn n).toInt64 = true then (nI 1, ca, cd, nI n, upd nm w (mn n), nu, iB, mn, mu, upd st w (st w + 1)) else (nI 0, nI 3, mn n, nI (n + 1), nm, nu, iB, mn, mu, st)) else (nI 1, ca, cd, nI n, nm, vf_upd nu w (mu n), iB, mn, mu, upd st w (st w + 1))) else (nI 0, nI 7, nI w, nI (n + 1), nm, nu, iB, mn, mu, st)) := by
  unfold g_X2_goesToken
  simp (disch := omega) only [c_0, c_1, c_2, c_3, c_4, c_5, c_6, c_7, x_eqT, x_eqF, x_ltF, x_leF, ↓reduceIte, k_X2_store hn hw, e_gbS]
  by_cases h1 : iB n = kd w
  · by_cases h2 : iB n = nI 0
    · by_cases h3 : HL lo hi w (mn n).toInt64 = true
      · simp (disch := omega) only [h1.symm, h2, h3, ↓reduceIte, x_eqF]
      · simp (disch := omega) only [h1.symm, h2, h3, ↓reduceIte, x_eqF, Bool.false_eq_true]
    · simp (disch := omega) only [h1.symm, h2, ↓reduceIte, x_eqF]
  · simp (disch := omega) only [h1, ↓reduceIte, x_eqF]
end K2
/-! COOKING: of each token, by what its parts are: its kind, drams, broth -/
abbrev CV : Type := Int32 × Int32 × UInt32
def CAN (a : CV) : Prop := bo a.1 = true ∧ (a.1 = 0 → a.2.2 = 0) ∧ (a.1 ≠ 0 → a.2.1 = 0) ∧ FF a.2.2
def rkC (k : Nat) (a b : CV) : Option CV := if a.1 = b.1 then (if a.1 = 0 then (if exc3 (lrk (nI k) a.2.1.toInt64 b.2.1.toInt64) = 0 then some (0, (lrk (nI k) a.2.1.toInt64 b.2.1.toInt64).toInt32, 0) else none) else some (1, 0, hld (frk (nI k) a.2.2 b.2.2))) else none
def stC (kd lo hi : Nat → Int32) (w : Nat) (a : CV) : Option CV := if a.1 = kd w then (if a.1 = 0 then (if HL lo hi w a.2.1.toInt64 = true then some a else none) else some a) else none
/-- the last store of a cauldron ahead of a place -/
def LA (k w : Nat → Nat) (c : Nat) : Nat → Option Nat
  | 0 => none
  | p + 1 => if k p = 7 ∧ w p = c then some p else LA k w c p
def NWv (CN : Nat → CV) (k w : Nat → Nat) (V : Nat → Option CV) (p c : Nat) : Option CV := match LA k w c p with
  | none => some (CN c)
  | some q => V q
def ckOp (kd lo hi : Nat → Int32) (k w : Nat) (x y z : Option CV) : Option CV :=
  if k = 0 then z
  else if k = 1 then some (0, nI w, 0)
  else if k = 5 then x.bind (fun a => if a.1 = 1 then none else some (1, 0, hld (FP.i2f a.2.1)))
  else if k = 6 then x.bind (fun a => if a.1 = 0 then none else some (0, clip (FP.f2i a.2.2), 0))
  else if k = 7 then x.bind (stC kd lo hi w)
  else x.bind fun a => y.bind fun b => rkC k a b
def ckP (kd lo hi : Nat → Int32) (CN : Nat → CV) (k w : Nat → Nat) (p : Nat) (V : Nat → Option CV) : Option CV := ckOp kd lo hi (k p) (w p) (V (SS k p (DD k p - fnd (k p)))) (V (SS k p (DD k p - 1))) (NWv CN k w V p (w p))
/-- why a token has no value: reason and detail -/
def czOp (kd : Nat → Int32) (k w : Nat) (x y : Option CV) : Int32 × Int32 :=
  if k = 7 then (match x with | some a => if a.1 = kd w then (nI 3, a.2.1) else (nI 7, nI w) | none => (0, 0))
  else if k = 5 ∨ k = 6 then (nI 7, -1)
  else (match x, y with | some a, some b => if a.1 = b.1 then (nI 8, exc3 (lrk (nI k) a.2.1.toInt64 b.2.1.toInt64)) else (nI 7, -1) | _, _ => (0, 0))
def czP (kd : Nat → Int32) (k w : Nat → Nat) (p : Nat) (V : Nat → Option CV) : Int32 × Int32 := czOp kd (k p) (w p) (V (SS k p (DD k p - fnd (k p)))) (V (SS k p (DD k p - 1)))
