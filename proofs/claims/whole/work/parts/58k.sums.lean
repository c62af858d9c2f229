/-! THE CALLS over all cauldrons: the widest, the mean, the accounts; a character more -/
section SUMS
variable {LS : List Nat} {SE : Nat → SV} {b : BK} {s nu sg jB kB kd lo hi mn si rf : Nat → Int32} {f mu : Nat → UInt32} {n4 nc : Nat} {th tk sp ms fa so sps so' p1 p2 p3 : Int32} {iB sB : Nat → Int32} {l h sL sH l' h' sL' sH' : Nat → Int64} {ans : Nat → Int64}
theorem sub32 {x y : Int32} (h1 : -99 ≤ x.toInt) (h2 : x.toInt ≤ 99) (h3 : -99 ≤ y.toInt) (h4 : y.toInt ≤ 99) : (x - y).toInt = x.toInt - y.toInt := by
  rw [Int32.toInt_sub, Int.bmod_eq_of_le] <;> omega
/-- the widest cauldron of drams of the first -/
def WD (kd lo hi : Nat → Int32) : Nat → Option Nat
  | 0 => none
  | c + 1 => if kd c = 0 then (match WD kd lo hi c with
    | none => some c
    | some w => if hi c - lo c ≤ hi w - lo w then some w else some c) else WD kd lo hi c
def WR (lo hi : Nat → Int32) : Option Nat → Int32
  | none => -1
  | some w => hi w - lo w
theorem WD_lt : ∀ c w, WD kd lo hi c = some w → w < c
  | 0, w, e => by cases e
  | c + 1, w, e => by
    have ih := WD_lt c
    unfold WD at e
    by_cases g : kd c = 0
    · rw [if_pos g] at e
      cases hw : WD kd lo hi c with
      | none =>
        rw [hw] at e
        cases e
        exact Nat.lt_succ_self _
      | some v =>
        rw [hw] at e
        have := ih v hw
        by_cases g2 : hi c - lo c ≤ hi v - lo v
        · have e' : some v = some w := (if_pos g2).symm.trans e
          cases e'
          omega
        · have e' : some c = some w := (if_neg g2).symm.trans e
          cases e'
          omega
    · rw [if_neg g] at e
      have := ih w e
      omega
theorem WD_s (c : Nat) : WD kd lo hi (c + 1) = if kd c = 0 then (if hi c - lo c ≤ WR lo hi (WD kd lo hi c) ∧ WD kd lo hi c ≠ none then WD kd lo hi c else some c) else WD kd lo hi c := by
  show (if kd c = 0 then _ else _) = _
  by_cases g : kd c = 0
  · rw [if_pos g, if_pos g]
    cases hw : WD kd lo hi c with
    | none =>
      rw [if_neg (fun z => z.2 rfl)]
    | some v =>
      by_cases g2 : hi c - lo c ≤ hi v - lo v
      · rw [if_pos ⟨g2, by simp⟩]
        exact if_pos g2
      · rw [if_neg (fun z => g2 z.1)]
        exact if_neg g2
  · rw [if_neg g, if_neg g]
theorem fcode_n {q : Nat} (hq : q < 6) : ¬ fcode (some q) = -1 := fun z => by
  have h := x_m1n (a := q) (by omega)
  have z' : nI q = -1 := z
  rw [h] at z'
  exact z'
theorem l_widestC (h6 : nc ≤ 6) (hX : CX kd lo hi mn mu) : ∀ (n i : Nat), i ≤ nc → nc - i < n → g_X11_widest_b6 (nI nc) hi lo kd n (fcode (WD kd lo hi i)) (WR lo hi (WD kd lo hi i)) (nI i) = some (match WD kd lo hi nc with
    | none => (3, 0)
    | some w => (0, nI w))
  | 0, i, _, h => absurd h (Nat.not_lt_zero _)
  | n + 1, i, hi', hm => by
    unfold g_X11_widest_b6 g_X11_widest_b61
    by_cases e : i = nc
    · subst e
      rw [if_pos (nI_le (Nat.le_refl _) (by omega))]
      cases hw : WD kd lo hi i with
      | none => exact if_pos rfl
      | some w =>
        have := WD_lt i w hw
        exact if_neg (fcode_n (by omega))
    · have hi6 : i < 6 := by omega
      have hin : inb (nI i) 6 = true := x_inb hi6 (by omega)
      have ih := l_widestC h6 hX n (i + 1) (by omega) (by omega)
      have ws := WD_s (kd := kd) (lo := lo) (hi := hi) i
      obtain ⟨-, b1, b2, b3, -⟩ := hX i hi6
      rw [if_neg (nI_ge (by omega) (by omega)), e_gc hin, e_gc hin, e_gl, e_gc hin, e_gl, x_cl (by omega), nI_1]
      by_cases g : kd i = 0
      · rw [if_pos g] at ws ⊢
        cases hw : WD kd lo hi i with
        | none =>
          rw [hw, if_neg (fun z => z.2 rfl)] at ws
          rw [ws] at ih
          rw [if_neg (show ¬ hi i - lo i ≤ WR lo hi none from fun z => by
            rw [Int32.le_iff_toInt_le, sub32 (by omega) (by omega) (by omega) (by omega)] at z
            have e1 : (WR lo hi none).toInt = -1 := rfl
            rw [e1] at z
            omega), e_gl]
          exact ih
        | some w =>
          rw [hw] at ws
          by_cases g2 : hi i - lo i ≤ WR lo hi (some w)
          · rw [if_pos ⟨g2, by simp⟩] at ws
            rw [ws] at ih
            rw [if_pos g2]
            exact ih
          · rw [if_neg (fun z => g2 z.1)] at ws
            rw [ws] at ih
            rw [if_neg g2, e_gl]
            exact ih
      · rw [if_neg g] at ws ⊢
        rw [ws] at ih
        exact ih
theorem l_widestM (h6 : nc ≤ 6) (h0 : s 0 = nI nc) (hX : CX kd lo hi mn mu) (hS : CS s f kd lo hi mn si mu) : ∀ (n i : Nat), i ≤ nc → nc - i < n → g_X12_widest_b4 s n (fcode (WD kd lo hi i)) (nI i) = some (match WD kd lo hi nc with
    | none => (0, 1)
    | some w => (nI w, 0))
  | 0, i, _, h => absurd h (Nat.not_lt_zero _)
  | n + 1, i, hi', hm => by
    unfold g_X12_widest_b4 g_X12_widest_b91
    rw [e_gc (show inb 0 282 = true from rfl), show s (0 : Int32).toNatClampNeg = nI nc from h0]
    by_cases e : i = nc
    · subst e
      rw [if_pos (nI_le (Nat.le_refl _) (by omega))]
      cases hw : WD kd lo hi i with
      | none => rfl
      | some w =>
        have := WD_lt i w hw
        rw [if_pos (fcode_0 this (by omega))]
        rfl
    · have hi6 : i < 6 := by omega
      have ih := l_widestM h6 h0 hX hS n (i + 1) (by omega) (by omega)
      have ws := WD_s (kd := kd) (lo := lo) (hi := hi) i
      obtain ⟨s1, s2, s3, -⟩ := hS i hi6
      have hbr : g_X12_isBroth s (nI i) = some (kd i) := by rw [← s1]; exact k_X12_isBroth hi6 (by rw [s1]; exact (CX_bo hX) i hi6)
      have o1 : g_X12_of s (nI i) 1 = some (lo i) := by rw [← s2]; exact k_X12_of (j := 1) hi6 (by omega)
      have o2 : g_X12_of s (nI i) 2 = some (hi i) := by rw [← s3]; exact k_X12_of (j := 2) hi6 (by omega)
      rw [if_neg (nI_ge (by omega) (by omega)), o2, e_gbS, o1, e_gbS, e_gl]
      cases hw : WD kd lo hi i with
      | none =>
        rw [hw] at ws
        rw [if_pos (show fcode none < 0 by decide)]
        unfold g_X12_widest_b49 g_X12_widest_b54 g_X12_widest_b73 g_X12_widest_b74
        rw [hbr, e_gbS]
        by_cases g : kd i = 0
        · rw [if_pos g, if_neg (fun z => z.2 rfl)] at ws
          rw [if_pos g, if_neg (by decide), e_gl, nI_1]
          rw [ws] at ih
          exact ih
        · rw [if_neg g] at ws
          rw [if_neg g, e_gl, nI_1]
          rw [ws] at ih
          exact ih
      | some w =>
        have hwl := WD_lt i w hw
        have hw6 : w < 6 := by omega
        obtain ⟨-, t2, t3, -⟩ := hS w hw6
        have u1 : g_X12_of s (nI w) 1 = some (lo w) := by rw [← t2]; exact k_X12_of (j := 1) hw6 (by omega)
        have u2 : g_X12_of s (nI w) 2 = some (hi w) := by rw [← t3]; exact k_X12_of (j := 2) hw6 (by omega)
        rw [hw] at ws
        rw [if_neg (show ¬ fcode (some w) < 0 from nI_nlt (b := 0) (Nat.zero_le _) (by omega))]
        show gb (g_X12_of s (nI w) 2) _ = _
        rw [u2, e_gbS]
        show gb (g_X12_of s (nI w) 1) _ = _
        rw [u1, e_gbS]
        unfold g_X12_widest_b49 g_X12_widest_b54 g_X12_widest_b73 g_X12_widest_b74
        rw [hbr, e_gbS, e_gbS]
        by_cases g : kd i = 0
        · rw [if_pos g] at ws
          by_cases g2 : hi i - lo i ≤ hi w - lo w
          · rw [if_pos ⟨g2, by simp⟩] at ws
            rw [if_pos g2, if_pos g, if_pos rfl, e_gl, nI_1]
            rw [ws] at ih
            exact ih
          · rw [if_neg (fun z => g2 z.1)] at ws
            rw [if_neg g2, if_pos g, if_neg (by decide), e_gl, nI_1]
            rw [ws] at ih
            exact ih
        · rw [if_neg g] at ws
          rw [if_neg g, if_neg g, e_gl, nI_1]
          rw [ws] at ih
          split <;> exact ih
theorem op_widest (hB : BR LS SE b s f) (hn : 0 < n4) (hn9 : n4 < 2147483648) : Ok (g_L_widest n4 ans b.1 b.2.2.2.2.2.2.2.2.1 b.2.2.2.2.2.2.2.1 b.2.2.2.2.2.2.1) (fun o => Ok (g_X12_widest th s) (fun o' => AN ans o.1 o.2 o'.1 o'.2)) := by
  have hgc : inb 0 n4 = true := decide_eq_true ⟨by decide, by show (0 : Int) < n4; omega⟩
  obtain ⟨nc, ns, X, h6, h4, e1, e2, h0, h1, -, -, hX, hS, hT⟩ := hB
  unfold g_L_widest g_X11_widest g_X12_widest
  rw [e1]
  have c1 := l_widestC h6 hX 100 0 (Nat.zero_le _) (by omega)
  have c2 := l_widestM h6 h0 hX hS 100 0 (Nat.zero_le _) (by omega)
  cases hw : WD b.2.2.2.2.2.2.1 b.2.2.2.2.2.2.2.1 b.2.2.2.2.2.2.2.2.1 nc with
  | none =>
    rw [hw] at c1 c2
    exact ok_be c1 (ok_f (show ¬ (3 : Int32) = 0 by decide) (ok_t rfl (ok_s (ok_e c2 (AN_n rfl rfl)))))
  | some w =>
    rw [hw] at c1 c2
    exact ok_be c1 (ok_t rfl (ok_c hgc (ok_s (ok_e c2 (AN_y rfl rfl)))))
/-- how many are of broth, how many drams there are -/
def SBo (kd : Nat → Int32) : Nat → Int32
  | 0 => 0
  | c + 1 => SBo kd c + kd c
theorem l_brothC (h6 : nc ≤ 6) (hb : ∀ c, c < 6 → bo (kd c) = true) : ∀ (n i : Nat), i ≤ nc → nc - i < n → g_X0_cauldronsOfBroth_b4 (nI nc) kd n (SBo kd i) (nI i) = some (SBo kd nc)
  | 0, i, _, h => absurd h (Nat.not_lt_zero _)
  | n + 1, i, hi', hm => by
    unfold g_X0_cauldronsOfBroth_b4 g_X0_cauldronsOfBroth_b24
    by_cases e : i = nc
    · subst e
      exact if_pos (nI_le (Nat.le_refl _) (by omega))
    · have hi6 : i < 6 := by omega
      have ih := l_brothC h6 hb n (i + 1) (by omega) (by omega)
      have es : SBo kd (i + 1) = SBo kd i + kd i := rfl
      rw [if_neg (nI_ge (by omega) (by omega)), e_gc (x_inb hi6 (by omega)), x_cl (by omega), e_gl, e_gl, e_gl, nI_1]
      rcases x_bob (hb i hi6) with z | z
      · rw [z, Int32.add_zero] at es
        rw [if_pos z, ← es]
        exact ih
      · rw [z] at es
        rw [if_neg (fun y => by rw [z] at y; exact absurd y (by decide)), ← es]
        exact ih
theorem l_dramsC (h6 : nc ≤ 6) (hX : CX kd lo hi mn mu) : ∀ (n i : Nat), i ≤ nc → nc - i < n → g_X0_allDrams_b4 (nI nc) kd mn n (SBo mn i) (nI i) = some (SBo mn nc)
  | 0, i, _, h => absurd h (Nat.not_lt_zero _)
  | n + 1, i, hi', hm => by
    unfold g_X0_allDrams_b4 g_X0_allDrams_b33
    by_cases e : i = nc
    · subst e
      exact if_pos (nI_le (Nat.le_refl _) (by omega))
    · have hi6 : i < 6 := by omega
      have hin : inb (nI i) 6 = true := x_inb hi6 (by omega)
      have ih := l_dramsC h6 hX n (i + 1) (by omega) (by omega)
      have es : SBo mn (i + 1) = SBo mn i + mn i := rfl
      obtain ⟨⟨a1, a2, a3, a4⟩, -⟩ := hX i hi6
      rw [if_neg (nI_ge (by omega) (by omega)), e_gc hin, e_gc hin, x_cl (by omega), e_gl, e_gl, e_gl, nI_1]
      by_cases z : kd i = 0
      · rw [if_pos z, ← es]
        exact ih
      · rw [show mn i = 0 from a3 z, Int32.add_zero] at es
        rw [if_neg z, ← es]
        exact ih
theorem l_allM {j : Nat} {p : Int32} {v : Nat → Int32} (h6 : nc ≤ 6) (h0 : s 0 = nI nc) (hj : (p = 0 ∧ j = 0) ∨ (p = 1 ∧ j = 3)) (hv : ∀ c, c < 6 → s (4 + 5 * c + j) = v c) : ∀ (n i : Nat), i ≤ nc → nc - i < n → g_X12_all_b4 s p n (SBo v i) (nI i) = some (SBo v nc)
  | 0, i, _, h => absurd h (Nat.not_lt_zero _)
  | n + 1, i, hi', hm => by
    unfold g_X12_all_b4 g_X12_all_b34
    rw [e_gc (show inb 0 282 = true from rfl), show s (0 : Int32).toNatClampNeg = nI nc from h0]
    by_cases e : i = nc
    · subst e
      exact if_pos (nI_le (Nat.le_refl _) (by omega))
    · have hi6 : i < 6 := by omega
      have ih := l_allM h6 h0 hj hv n (i + 1) (by omega) (by omega)
      have es : SBo v (i + 1) = SBo v i + v i := rfl
      rw [if_neg (nI_ge (by omega) (by omega))]
      rcases hj with ⟨e1, e2⟩ | ⟨e1, e2⟩
      · subst e1 e2
        rw [if_pos rfl, show (0 : Int32) = nI 0 from rfl, k_X12_of (j := 0) hi6 (by omega), e_gbS, e_gl, e_gl, nI_1, hv i hi6, ← es]
        exact ih
      · subst e1 e2
        rw [if_neg (by decide), show (3 : Int32) = nI 3 from rfl, k_X12_of (j := 3) hi6 (by omega), e_gbS, e_gl, e_gl, nI_1, hv i hi6, ← es]
        exact ih
end SUMS
