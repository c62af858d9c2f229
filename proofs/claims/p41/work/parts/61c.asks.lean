/-! WHAT THE CLASS ANSWERS, told by its book: cooking in thought (gen/spec3.py) -/
section
variable {LS : List Nat} {SE : Nat → SV} {kd lo hi : Nat → Int32} {CN : Nat → CV} {k w : Nat → Nat} {T nc i a q : Nat} {x : TX} {nm mn : Nat → Int32} {nu mu f : Nat → UInt32} {s : Nat → Int32}
theorem stC_b {w : Nat} {v v' : CV} (h : stC kd lo hi w v = some v') : v' = v ∧ v.1 = kd w ∧ (v.1 = 0 → HL lo hi w v.2.1.toInt64 = true) := by
  unfold stC at h
  by_cases h1 : v.1 = kd w
  · rw [if_pos h1] at h
    by_cases h2 : v.1 = 0
    · rw [if_pos h2] at h
      by_cases h3 : HL lo hi w v.2.1.toInt64 = true
      · rw [if_pos h3] at h
        cases h
        exact ⟨rfl, h1, fun _ => h3⟩
      · rw [if_neg h3] at h
        cases h
    · rw [if_neg h2] at h
      cases h
      exact ⟨rfl, h1, fun z => absurd z h2⟩
  · rw [if_neg h1] at h
    cases h
theorem v7_b (h7 : k q = 7) {v : CV} (h : vG (ckP kd lo hi CN k w) q = some v) : v.1 = 0 → (lo (w q)).toInt ≤ v.2.1.toInt ∧ v.2.1.toInt ≤ (hi (w q)).toInt := by
  intro h0
  rw [vC_at, h7] at h
  unfold ckOp at h
  rw [if_neg (by decide), if_neg (by decide), if_neg (by decide), if_neg (by decide), if_pos rfl] at h
  cases hx : VG (ckP kd lo hi CN k w) q (SS k q (DD k q - fnd (k q))) with
  | none =>
    rw [h7] at hx
    rw [hx] at h
    cases h
  | some u =>
    rw [h7] at hx
    rw [hx] at h
    obtain ⟨e, -, e3⟩ := stC_b h
    rw [e] at h0 ⊢
    have := HL_i.mp (e3 h0)
    rw [Int32.toInt_toInt64] at this
    exact this
theorem NWR_CX (hw : ∀ p, p < T → (k p = 0 ∨ k p = 7) → w p < 6) (hC : CX kd lo hi mn mu) (hCN : CN = fun c => (kd c, mn c, mu c)) (h : NWR kd lo hi CN k w T nm nu) : CX kd lo hi nm nu := by
  intro c hc
  obtain ⟨v, v1, v2, v3, v4, v5⟩ := h c hc
  obtain ⟨-, b1, b2, b3, b4⟩ := hC c hc
  have hh : FH v.2.2 := hv_nwO hw (fun d hd => by rw [hCN]; exact (hC d hd).1.2.2.2) hc v1
  refine ⟨?_, b1, b2, b3, fun h0 => ?_⟩
  · rw [v4, v5, ← v3]; exact v2.held hh
  · rw [v4]
    unfold nwO NWv at v1
    cases hl : LA k w c T with
    | none =>
      rw [hl] at v1
      cases v1
      rw [hCN]
      exact b4 h0
    | some q =>
      rw [hl] at v1
      obtain ⟨l1, l2⟩ := LA_is T q hl
      have := v7_b l1 v1 (v3.trans h0)
      rw [l2] at this
      exact this
theorem NWR_one {nm' : Nat → Int32} {nu' : Nat → UInt32} (h : NWR kd lo hi CN k w T nm nu) (h' : NWR kd lo hi CN k w T nm' nu') : ∀ c, c < 6 → nm c = nm' c ∧ nu c = nu' c := by
  intro c hc
  obtain ⟨v, v1, v2, v3, v4, v5⟩ := h c hc
  obtain ⟨u, u1, u2, u3, u4, u5⟩ := h' c hc
  rw [v1] at u1
  cases u1
  exact ⟨v4.trans u4.symm, v5.trans u5.symm⟩
theorem LA_none {c : Nat} : ∀ T, (∀ p, p < T → k p = 7 → w p ≠ c) → LA k w c T = none
  | 0, _ => rfl
  | T + 1, h => by
    have e : LA k w c (T + 1) = LA k w c T := if_neg (fun z => h T (Nat.lt_succ_self T) z.1 z.2)
    rw [e]
    exact LA_none T (fun p hp => h p (by omega))
theorem NWR_far {c : Nat} (hCN : CN = fun c => (kd c, mn c, mu c)) (h : NWR kd lo hi CN k w T nm nu) (hc : c < 6) (hw : ∀ p, p < T → k p = 7 → w p ≠ c) : nm c = mn c ∧ nu c = mu c := by
  obtain ⟨v, v1, v2, v3, v4, v5⟩ := h c hc
  unfold nwO NWv at v1
  rw [LA_none T hw, hCN] at v1
  cases v1
  exact ⟨v4, v5⟩
def DFc (nm mn : Nat → Int32) (nu mu : Nat → UInt32) : Nat → Nat
  | 0 => 0
  | c + 1 => DFc nm mn nu mu c + if nm c = mn c ∧ nu c = mu c then 0 else 1
theorem DF_le (nm mn : Nat → Int32) (nu mu : Nat → UInt32) : ∀ c, DFc nm mn nu mu c ≤ c
  | 0 => Nat.le_refl 0
  | c + 1 => by
    have := DF_le nm mn nu mu c
    show DFc nm mn nu mu c + (if nm c = mn c ∧ nu c = mu c then 0 else 1) ≤ c + 1
    split <;> omega
theorem DF_far {nm mn : Nat → Int32} {nu mu : Nat → UInt32} : ∀ d, (∀ c, nc ≤ c → c < nc + d → nm c = mn c ∧ nu c = mu c) → DFc nm mn nu mu (nc + d) = DFc nm mn nu mu nc
  | 0, _ => rfl
  | d + 1, h => by
    have e : DFc nm mn nu mu (nc + (d + 1)) = DFc nm mn nu mu (nc + d) + (if nm (nc + d) = mn (nc + d) ∧ nu (nc + d) = mu (nc + d) then 0 else 1) := rfl
    rw [e, if_pos (h _ (by omega) (by omega)), DF_far d (fun c h1 h2 => h c h1 (by omega))]
    rfl
theorem l_diff {nm mn nm0 mn0 : Nat → Int32} {nu mu nu0 mu0 : Nat → UInt32} (h1 : ∀ c, c < 6 → nm0 c = nm c ∧ mn0 c = mn c ∧ nu0 c = nu c ∧ mu0 c = mu c ∧ FF (nu c) ∧ FF (mu c)) : ∀ (n c : Nat), c ≤ 6 → 6 - c < n → g_X1_differences_b4 nm0 mn0 nu0 mu0 n (nI (DFc nm mn nu mu c)) (nI c) = some (nI (DFc nm mn nu mu 6))
  | 0, c, _, h => absurd h (Nat.not_lt_zero _)
  | n + 1, c, hc, hm => by
    unfold g_X1_differences_b4 g_X1_differences_b43 g_X1_differences_b46
    by_cases e : c = 6
    · subst e
      exact if_pos (nI_le (a := 6) (b := 6) (Nat.le_refl _) (by omega))
    · have hc6 : c < 6 := by omega
      obtain ⟨q1, q2, q3, q4, q5, q6⟩ := h1 c hc6
      have hin : inb (nI c) 6 = true := x_inb hc6 (by omega)
      have ih := l_diff h1 n (c + 1) (by omega) (by omega)
      have es : DFc nm mn nu mu (c + 1) = DFc nm mn nu mu c + if nm c = mn c ∧ nu c = mu c then 0 else 1 := rfl
      rw [if_neg (show ¬ (6 : Int32) ≤ nI c from nI_ge (show c < 6 by omega) (show (6 : Nat) < 2147483648 by omega)), e_gc hin, e_gc hin, x_cl (by omega), q1, q2]
      by_cases g1 : nm c = mn c
      · rw [if_pos g1, e_gc hin, e_gc hin, q3, q4, k_differ q5 q6, e_gbS, e_gl, e_gl, e_gl, nI_1, nI_1]
        by_cases g2 : nu c = mu c
        · rw [if_pos ⟨g1, g2⟩] at es
          rw [if_pos g2, if_pos (show nI 0 = 0 from rfl)]
          have es' : DFc nm mn nu mu (c + 1) = DFc nm mn nu mu c := es
          rw [← es']
          exact ih
        · rw [if_neg (fun z => g2 z.2)] at es
          rw [if_neg g2, if_neg (show ¬ nI 1 = 0 by decide), ← es]
          exact ih
      · rw [if_neg (fun z => g1 z.1)] at es
        rw [if_neg g1, e_gl, e_gl, nI_1, nI_1, ← es]
        exact ih
theorem k_changes {nm mn nm0 mn0 : Nat → Int32} {nu mu nu0 mu0 : Nat → UInt32} (h1 : ∀ c, c < 6 → nm0 c = nm c ∧ mn0 c = mn c ∧ nu0 c = nu c ∧ mu0 c = mu c ∧ FF (nu c) ∧ FF (mu c)) : g_X2_changes nm0 mn0 nu0 mu0 = some (nI (DFc nm mn nu mu 6)) := by
  have := l_diff h1 100 0 (Nat.zero_le _) (by omega)
  unfold g_X2_changes g_X1_differences
  show gb (g_X1_differences_b4 nm0 mn0 nu0 mu0 100 (nI (DFc nm mn nu mu 0)) (nI 0)) _ = _
  rw [this]
  rfl
end
section
variable {LS : List Nat} {SE : Nat → SV} {RA : Nat → BK} {nx ch n4 a : Nat} {b sb : BK} {past be s rf sv : Nat → Int32} {pastF beF f svF : Nat → UInt32} {kp rs de hc ca cd th p1 p2 p3 bd le ke isv : Int32} {ans : Nat → Int64} {bks : Nat → Option Nat}
theorem k_X2_begin (x y : Nat → Int32) (v w : Nat → UInt32) : Ok (g_X2_begin x y v w) (fun o => AG 6 o.1 y ∧ AG 6 o.2 w) := by
  unfold g_X2_begin
  exact ok_b (k_X1_copy x y v w) (fun r hr => ok_s hr)
theorem CX_ag {kd lo hi mn nm : Nat → Int32} {mu nu : Nat → UInt32} (h : CX kd lo hi mn mu) (e1 : AG 6 nm mn) (e2 : AG 6 nu mu) : CX kd lo hi nm nu := fun c hc => by
  rw [e1 c hc, e2 c hc]
  exact h c hc
end
section
variable {LS : List Nat} {SE : Nat → SV} {RA : Nat → BK} {nx ch n4 a : Nat} {b sb : BK} {past be s rf sv : Nat → Int32} {pastF beF f svF : Nat → UInt32} {kp rs de hc ca cd th p1 p2 p3 bd le ke isv : Int32} {ans : Nat → Int64} {bks : Nat → Option Nat}
theorem typed_safe {nc : Nat} {x : TX} {kd lo hi mn : Nat → Int32} {mu : Nat → UInt32} (ho : OKT nc x) (hn : nc ≤ 6) (hX : CX kd lo hi mn mu) (hty : FV (tyP kd lo hi (rT x).2.1 (rT x).2.2.1) (rT x).1 none) : FV (ckP kd lo hi (fun c => (kd c, mn c, mu c)) (rT x).2.1 (rT x).2.2.1) (rT x).1 none := by
  intro q hq
  obtain ⟨_, v, -, hv, -⟩ := safe (OKT_SH ho) (OKT_w ho hn) (OKT_n ho) (CX_BND hX) (CX_CNH hX) hty (rT x).1 (Nat.le_refl _) q hq
  rw [hv]
  exact fun z => by cases z
theorem k2x {nc a0 : Nat} {x : TX} {kd lo hi nm : Nat → Int32} {nu : Nat → UInt32} (hx : SPC LS SE a0 x) (ho : OKT nc x) (hn : nc ≤ 6) (hC : CX kd lo hi nm nu) (ba ca cd sp : Int32) (xm iB mn9 st : Nat → Int32) (xu mu9 : Nat → UInt32) :
    Ok (g_X2_goesOn ba ca cd sp (SE a0).2.2.1 xm nm xu nu st (SE a0).2.2.2.2.2.2.1 (SE a0).2.2.2.2.2.2.2.1 kd iB mn9 mu9 lo hi) (R2 kd lo hi (fun c => (kd c, nm c, nu c)) (rT x).1 (rT x).2.1 (rT x).2.2.1 nm nu) := by
  obtain ⟨_, _, _, b4, _, _, _, b8⟩ := id hx
  rw [b4]
  exact k2 (OKT_SH ho) (OKT_w ho hn) (CX_bo hC) (fun p hp => ⟨(b8 p hp).1, (b8 p hp).2.1⟩) (CX_CNR hC) ba ca cd sp xm iB mn9 st xu mu9
end
section CGS
variable {k w : Nat → Nat} {T : Nat} {kd kd' lo lo' hi hi' : Nat → Int32} {CN CN' : Nat → CV}
theorem VG_cg {α : Type} {op op' : Nat → (Nat → Option α) → Option α} {T : Nat} (h : ∀ p, p < T → ∀ V, op' p V = op p V) : ∀ p, p ≤ T → VG op' p = VG op p
  | 0, _ => rfl
  | p + 1, hp => by
    have ih := VG_cg h p (by omega)
    funext q
    show (if q = p then op' p (VG op' p) else VG op' p q) = (if q = p then op p (VG op p) else VG op p q)
    rw [ih, h p (by omega)]
theorem vG_cg {α : Type} {op op' : Nat → (Nat → Option α) → Option α} {T : Nat} (h : ∀ p, p < T → ∀ V, op' p V = op p V) {p : Nat} (hp : p < T) : vG op' p = vG op p := by
  unfold vG
  rw [VG_cg h (p + 1) hp]
theorem FN_cg {α : Type} {op op' : Nat → (Nat → Option α) → Option α} : ∀ T, (∀ p, p < T → ∀ V, op' p V = op p V) → FN op' T = FN op T
  | 0, _ => rfl
  | T + 1, h => by
    have ih := FN_cg (op := op) (op' := op') T (fun p hp => h p (by omega))
    unfold FN
    rw [ih, vG_cg h (Nat.lt_succ_self T)]
theorem tyOp_cg {k w : Nat} (hw : k = 0 ∨ k = 7 → kd' w = kd w ∧ lo' w = lo w ∧ hi' w = hi w) (x y : Option TV) : tyOp kd' lo' hi' k w x y = tyOp kd lo hi k w x y := by
  unfold tyOp
  by_cases h0 : k = 0
  · obtain ⟨a, b, c⟩ := hw (Or.inl h0)
    rw [if_pos h0, if_pos h0, a, b, c]
  · rw [if_neg h0, if_neg h0]
    by_cases h7 : k = 7
    · obtain ⟨a, b, c⟩ := hw (Or.inr h7)
      have e : stT kd' lo' hi' w = stT kd lo hi w := by
        funext v
        unfold stT HL
        rw [a, b, c]
      rw [e]
    · rw [if_neg h7, if_neg h7]
theorem tyP_cg (hw : ∀ p, p < T → (k p = 0 ∨ k p = 7) → w p < 6) (h1 : AG 6 kd' kd) (h2 : AG 6 lo' lo) (h3 : AG 6 hi' hi) : ∀ p, p < T → ∀ V, tyP kd' lo' hi' k w p V = tyP kd lo hi k w p V := fun p hp V => tyOp_cg (fun e => ⟨h1 _ (hw p hp e), h2 _ (hw p hp e), h3 _ (hw p hp e)⟩) _ _
theorem ckOp_cg {k w : Nat} (hw : k = 0 ∨ k = 7 → kd' w = kd w ∧ lo' w = lo w ∧ hi' w = hi w) {z z' : Option CV} (hz : k = 0 → z' = z) (x y : Option CV) : ckOp kd' lo' hi' k w x y z' = ckOp kd lo hi k w x y z := by
  unfold ckOp
  by_cases h0 : k = 0
  · rw [if_pos h0, if_pos h0, hz h0]
  · rw [if_neg h0, if_neg h0]
    by_cases h7 : k = 7
    · obtain ⟨a, b, c⟩ := hw (Or.inr h7)
      have e : stC kd' lo' hi' w = stC kd lo hi w := by
        funext v
        unfold stC HL
        rw [a, b, c]
      rw [e]
    · rw [if_neg h7, if_neg h7]
theorem NWv_cg {V : Nat → Option CV} {p c : Nat} (h : CN' c = CN c) : NWv CN' k w V p c = NWv CN k w V p c := by
  unfold NWv
  rw [h]
theorem ckP_cg (hw : ∀ p, p < T → (k p = 0 ∨ k p = 7) → w p < 6) (h1 : AG 6 kd' kd) (h2 : AG 6 lo' lo) (h3 : AG 6 hi' hi) (h4 : AG 6 CN' CN) : ∀ p, p < T → ∀ V, ckP kd' lo' hi' CN' k w p V = ckP kd lo hi CN k w p V := fun p hp V => ckOp_cg (fun e => ⟨h1 _ (hw p hp e), h2 _ (hw p hp e), h3 _ (hw p hp e)⟩) (fun e => NWv_cg (h4 _ (hw p hp (Or.inl e)))) _ _
theorem nwO_cg (hw : ∀ p, p < T → (k p = 0 ∨ k p = 7) → w p < 6) (h1 : AG 6 kd' kd) (h2 : AG 6 lo' lo) (h3 : AG 6 hi' hi) (h4 : AG 6 CN' CN) {c : Nat} (hc : c < 6) : nwO kd' lo' hi' CN' k w T c = nwO kd lo hi CN k w T c := by
  unfold nwO NWv
  cases hl : LA k w c T with
  | none => exact congrArg some (h4 c hc)
  | some q => exact vG_cg (ckP_cg hw h1 h2 h3 h4) (LA_lt T q hl)
theorem flT_cg {nc : Nat} {x : TX} (ho : OKT nc x) (hn : nc ≤ 6) (h1 : AG 6 kd' kd) (h2 : AG 6 lo' lo) (h3 : AG 6 hi' hi) : flT kd' lo' hi' x = flT kd lo hi x := FN_cg _ (tyP_cg (OKT_w ho hn) h1 h2 h3)
theorem flC_cg {nc : Nat} {x : TX} (ho : OKT nc x) (hn : nc ≤ 6) (h1 : AG 6 kd' kd) (h2 : AG 6 lo' lo) (h3 : AG 6 hi' hi) (h4 : AG 6 CN' CN) : flC kd' lo' hi' CN' x = flC kd lo hi CN x := FN_cg _ (ckP_cg (OKT_w ho hn) h1 h2 h3 h4)
end CGS
def CNo (B : BB) : Nat → CV := fun c => (B.1.2.2.2.2.2.2.1 c, B.1.2.2.2.2.1 c, B.1.2.2.2.2.2.1 c)
def f_would (B : BB) (p q : Int32) : Int32 := match fx p B.2.2.1 with
  | none => -100001
  | some i => match fx q B.2.1 with
    | none => -100001
    | some c => if flC B.1.2.2.2.2.2.2.1 B.1.2.2.2.2.2.2.2.1 B.1.2.2.2.2.2.2.2.2.1 (CNo B) (B.2.2.2 i) = none then (match nwO B.1.2.2.2.2.2.2.1 B.1.2.2.2.2.2.2.2.1 B.1.2.2.2.2.2.2.2.2.1 (CNo B) (rT (B.2.2.2 i)).2.1 (rT (B.2.2.2 i)).2.2.1 (rT (B.2.2.2 i)).1 c with
      | none => 0
      | some a => CUT a) else -100004
def f_boils (B : BB) (p : Int32) : Int32 := match fx p B.2.2.1 with
  | none => -11
  | some i => match flC B.1.2.2.2.2.2.2.1 B.1.2.2.2.2.2.2.2.1 B.1.2.2.2.2.2.2.2.2.1 (CNo B) (B.2.2.2 i) with
    | none => -14
    | some q => nI q
abbrev CT2 : Type := (Nat → Int32) × (Nat → UInt32)
def cutI (f : Nat → Int32) : Nat → Int32 := fun c => if c < 6 then f c else 0
def cutU (f : Nat → UInt32) : Nat → UInt32 := fun c => if c < 6 then f c else 0
theorem cutI_ag (f : Nat → Int32) : AG 6 (cutI f) f := fun _ hc => if_pos hc
theorem cutU_ag (f : Nat → UInt32) : AG 6 (cutU f) f := fun _ hc => if_pos hc
theorem cutI_eq {f g : Nat → Int32} (h : AG 6 f g) : cutI f = cutI g := by
  funext c
  unfold cutI
  by_cases hc : c < 6
  · rw [if_pos hc, if_pos hc, h c hc]
  · rw [if_neg hc, if_neg hc]
theorem cutU_eq {f g : Nat → UInt32} (h : AG 6 f g) : cutU f = cutU g := by
  funext c
  unfold cutU
  by_cases hc : c < 6
  · rw [if_pos hc, if_pos hc, h c hc]
  · rw [if_neg hc, if_neg hc]
def CNc (kd : Nat → Int32) (C : CT2) : Nat → CV := fun c => (kd c, C.1 c, C.2 c)
/-- one cooking of a text, from contents to contents -/
def ckC (kd lo hi : Nat → Int32) (x : TX) (C : CT2) : Option CT2 := if flC kd lo hi (CNc kd C) x = none then some (cutI (fun c => match nwO kd lo hi (CNc kd C) (rT x).2.1 (rT x).2.2.1 (rT x).1 c with
    | none => 0
    | some a => a.2.1), cutU (fun c => match nwO kd lo hi (CNc kd C) (rT x).2.1 (rT x).2.2.1 (rT x).1 c with
    | none => 0
    | some a => a.2.2)) else none
def LST (kd lo hi : Nat → Int32) (x : TX) : Nat → CT2 → Nat
  | 0, _ => 0
  | n + 1, C => match ckC kd lo hi x C with
    | none => 0
    | some D => if DFc D.1 C.1 D.2 C.2 6 = 0 then 0 else LST kd lo hi x n D + 1
theorem LST_le (kd lo hi : Nat → Int32) (x : TX) : ∀ n C, LST kd lo hi x n C ≤ n
  | 0, _ => Nat.le_refl 0
  | n + 1, C => by
    unfold LST
    cases ckC kd lo hi x C with
    | none => exact Nat.zero_le _
    | some D =>
      dsimp only
      split
      · exact Nat.zero_le _
      · have := LST_le kd lo hi x n D
        omega
def f_lasts (B : BB) (p : Int32) : Int32 := match fx p B.2.2.1 with
  | none => -11
  | some i => nI (LST B.1.2.2.2.2.2.2.1 B.1.2.2.2.2.2.2.2.1 B.1.2.2.2.2.2.2.2.2.1 (B.2.2.2 i) 50 (cutI B.1.2.2.2.2.1, cutU B.1.2.2.2.2.2.1))
theorem DF_cg {nm mn nm' mn' : Nat → Int32} {nu mu nu' mu' : Nat → UInt32} : ∀ n, (∀ c, c < n → nm' c = nm c ∧ mn' c = mn c ∧ nu' c = nu c ∧ mu' c = mu c) → DFc nm' mn' nu' mu' n = DFc nm mn nu mu n
  | 0, _ => rfl
  | n + 1, h => by
    obtain ⟨a, b, c, d⟩ := h n (Nat.lt_succ_self n)
    unfold DFc
    rw [DF_cg n (fun c hc => h c (by omega)), a, b, c, d]
section CK
variable {LS : List Nat} {SE : Nat → SV} {nc : Nat} {x : TX} {kd lo hi nm : Nat → Int32} {nu : Nat → UInt32}
/-- what the class's cooking gives, by contents -/
theorem ckC_some (ho : OKT nc x) (hn : nc ≤ 6) {nm' : Nat → Int32} {nu' : Nat → UInt32} (hf : flC kd lo hi (fun c => (kd c, nm c, nu c)) x = none) (hN : NWR kd lo hi (fun c => (kd c, nm c, nu c)) (rT x).2.1 (rT x).2.2.1 (rT x).1 nm' nu') : ckC kd lo hi x (cutI nm, cutU nu) = some (cutI nm', cutU nu') := by
  have h4 : AG 6 (CNc kd (cutI nm, cutU nu)) (fun c => (kd c, nm c, nu c)) := fun c hc => by
    unfold CNc
    dsimp only
    rw [cutI_ag nm c hc, cutU_ag nu c hc]
  unfold ckC
  rw [flC_cg ho hn (AG_r _) (AG_r _) (AG_r _) h4, if_pos hf]
  have e1 : AG 6 (fun c => match nwO kd lo hi (CNc kd (cutI nm, cutU nu)) (rT x).2.1 (rT x).2.2.1 (rT x).1 c with
    | none => (0 : Int32)
    | some a => a.2.1) nm' := fun c hc => by
    obtain ⟨a, a1, a2, a3, a4, a5⟩ := hN c hc
    dsimp only
    rw [nwO_cg (OKT_w ho hn) (AG_r _) (AG_r _) (AG_r _) h4 hc, a1, a4]
  have e2 : AG 6 (fun c => match nwO kd lo hi (CNc kd (cutI nm, cutU nu)) (rT x).2.1 (rT x).2.2.1 (rT x).1 c with
    | none => (0 : UInt32)
    | some a => a.2.2) nu' := fun c hc => by
    obtain ⟨a, a1, a2, a3, a4, a5⟩ := hN c hc
    dsimp only
    rw [nwO_cg (OKT_w ho hn) (AG_r _) (AG_r _) (AG_r _) h4 hc, a1, a5]
  rw [cutI_eq e1, cutU_eq e2]
theorem ckC_none (ho : OKT nc x) (hn : nc ≤ 6) (hf : flC kd lo hi (fun c => (kd c, nm c, nu c)) x ≠ none) : ckC kd lo hi x (cutI nm, cutU nu) = none := by
  have h4 : AG 6 (CNc kd (cutI nm, cutU nu)) (fun c => (kd c, nm c, nu c)) := fun c hc => by
    unfold CNc
    dsimp only
    rw [cutI_ag nm c hc, cutU_ag nu c hc]
  unfold ckC
  rw [flC_cg ho hn (AG_r _) (AG_r _) (AG_r _) h4, if_neg hf]
theorem l_lasts {a0 : Nat} (hx : SPC LS SE a0 x) (ho : OKT nc x) (hn : nc ≤ 6) :
    ∀ (n r : Nat) (nm bm iB mn9 st : Nat → Int32) (nu bu mu9 : Nat → UInt32) (ba ca cd sp : Int32), r ≤ 50 → 50 - r < n → CX kd lo hi nm nu →
      Ok (g_X11_lasts_b19 SE kd lo hi n bm bu iB mn9 mu9 nm nu st ba ca cd sp a0 (nI r)) (fun o => o.1 = 0 ∧ o.2.1 = nI (r + LST kd lo hi x (50 - r) (cutI nm, cutU nu)))
  | 0, r, _, _, _, _, _, _, _, _, _, _, _, _, _, h, _ => absurd h (Nat.not_lt_zero _)
  | n + 1, r, nm, bm, iB, mn9, st, nu, bu, mu9, ba, ca, cd, sp, hr, hm, hC => by
    unfold g_X11_lasts_b19
    by_cases h50 : r = 50
    · subst h50
      exact ok_t (nI_le (a := 50) (b := 50) (Nat.le_refl _) (by omega)) (ok_s ⟨rfl, rfl⟩)
    · have hnl : ¬ (50 : Int32) ≤ nI r := nI_ge (show r < 50 by omega) (show (50 : Nat) < 2147483648 by omega)
      have hs : 50 - r = (50 - (r + 1)) + 1 := by omega
      refine ok_f hnl (ok_b (k2x hx ho hn hC ba ca cd sp bm iB mn9 st bu mu9) (fun o ho' => ?_))
      obtain ⟨f, f1, f2, f3, f4, f5, f6, f7⟩ := ho'
      have ef : f = flC kd lo hi (fun c => (kd c, nm c, nu c)) x := FN_of f1
      rw [ef] at f2 f7
      by_cases hz : flC kd lo hi (fun c => (kd c, nm c, nu c)) x = none
      · rw [if_pos hz] at f2
        obtain ⟨g1, g2⟩ := f7 hz
        have hC' := NWR_CX (OKT_w ho hn) hC rfl g1
        have hch := k_changes (nm := o.2.2.2.2.2.2.1) (mn := nm) (nu := o.2.2.2.2.2.2.2.2.1) (mu := nu) (nm0 := o.2.2.2.2.2.2.1) (mn0 := o.2.2.2.2.2.1) (nu0 := o.2.2.2.2.2.2.2.2.1) (mu0 := o.2.2.2.2.2.2.2.1) (fun c hc => ⟨rfl, f5 c hc, rfl, f6 c hc, (hC' c hc).1.2.2.2.1, (hC c hc).1.2.2.2.1⟩)
        have hck := ckC_some ho hn hz g1
        have hdf : DFc (cutI o.2.2.2.2.2.2.1) (cutI nm) (cutU o.2.2.2.2.2.2.2.2.1) (cutU nu) 6 = DFc o.2.2.2.2.2.2.1 nm o.2.2.2.2.2.2.2.2.1 nu 6 := DF_cg 6 (fun c hc => ⟨cutI_ag _ c hc, cutI_ag _ c hc, cutU_ag _ c hc, cutU_ag _ c hc⟩)
        have hdl := DF_le o.2.2.2.2.2.2.1 nm o.2.2.2.2.2.2.2.2.1 nu 6
        refine ok_f (by rw [f2]; decide) (ok_be hch ?_)
        rw [hs]
        unfold LST
        rw [hck]
        dsimp only
        rw [hdf]
        by_cases hd : DFc o.2.2.2.2.2.2.1 nm o.2.2.2.2.2.2.2.2.1 nu 6 = 0
        · rw [hd, if_pos rfl]
          exact ok_t (by decide) (ok_s ⟨rfl, rfl⟩)
        · rw [if_neg hd]
          have hnz : ¬ nI (DFc o.2.2.2.2.2.2.1 nm o.2.2.2.2.2.2.2.2.1 nu 6) ≤ 0 := nI_ge (b := DFc o.2.2.2.2.2.2.1 nm o.2.2.2.2.2.2.2.2.1 nu 6) (a := 0) (by omega) (by omega)
          refine ok_f hnz (ok_l ?_)
          rw [nI_1]
          refine ok_m (l_lasts hx ho hn n (r + 1) _ _ _ _ _ _ _ _ _ _ _ _ (by omega) (by omega) hC') (fun v hv => ⟨hv.1, hv.2.trans ?_⟩)
          rw [show r + 1 + LST kd lo hi x (50 - (r + 1)) (cutI o.2.2.2.2.2.2.1, cutU o.2.2.2.2.2.2.2.2.1) = r + (LST kd lo hi x (50 - (r + 1)) (cutI o.2.2.2.2.2.2.1, cutU o.2.2.2.2.2.2.2.2.1) + 1) by omega]
      · rw [if_neg hz] at f2
        have hck := ckC_none ho hn hz
        rw [hs]
        unfold LST
        rw [hck]
        exact ok_t f2 (ok_s ⟨rfl, rfl⟩)
end CK
section KP3
variable {LS : List Nat} {SE : Nat → SV} {B : BB} {fa so sps p1 p2 p3 ba ca cd sp : Int32} {iB sB xm nm st mn9 tB : Nat → Int32} {l h sL sH : Nat → Int64} {xu nu mu9 tu : Nat → UInt32}
theorem k2B (hB : BOK LS SE B) {i a : Nat} {n9 : Nat → Int32} {u9 : Nat → UInt32} (a2 : SPC LS SE a (B.2.2.2 i)) (a3 : OKT B.2.1 (B.2.2.2 i)) (h6 : B.2.1 ≤ 6) (hX : CX B.1.2.2.2.2.2.2.1 B.1.2.2.2.2.2.2.2.1 B.1.2.2.2.2.2.2.2.2.1 B.1.2.2.2.2.1 B.1.2.2.2.2.2.1) (g1 : AG 6 n9 B.1.2.2.2.2.1) (g2 : AG 6 u9 B.1.2.2.2.2.2.1) :
    Ok (g_X2_goesOn ba ca cd sp (SE a).2.2.1 xm n9 xu u9 st (SE a).2.2.2.2.2.2.1 (SE a).2.2.2.2.2.2.2.1 B.1.2.2.2.2.2.2.1 iB mn9 mu9 B.1.2.2.2.2.2.2.2.1 B.1.2.2.2.2.2.2.2.2.1) (fun o => o.1 = (if flC B.1.2.2.2.2.2.2.1 B.1.2.2.2.2.2.2.2.1 B.1.2.2.2.2.2.2.2.2.1 (CNo B) (B.2.2.2 i) = none then nI 1 else nI 0) ∧ o.2.1 = fcode (flC B.1.2.2.2.2.2.2.1 B.1.2.2.2.2.2.2.2.1 B.1.2.2.2.2.2.2.2.2.1 (CNo B) (B.2.2.2 i)) ∧ AG 6 o.2.2.2.2.2.1 B.1.2.2.2.2.1 ∧ AG 6 o.2.2.2.2.2.2.2.1 B.1.2.2.2.2.2.1 ∧ (flC B.1.2.2.2.2.2.2.1 B.1.2.2.2.2.2.2.2.1 B.1.2.2.2.2.2.2.2.2.1 (CNo B) (B.2.2.2 i) = none → NWR B.1.2.2.2.2.2.2.1 B.1.2.2.2.2.2.2.2.1 B.1.2.2.2.2.2.2.2.2.1 (CNo B) (rT (B.2.2.2 i)).2.1 (rT (B.2.2.2 i)).2.2.1 (rT (B.2.2.2 i)).1 o.2.2.2.2.2.2.1 o.2.2.2.2.2.2.2.2.1 ∧ ST (rT (B.2.2.2 i)).2.1 (rT (B.2.2.2 i)).2.2.1 (rT (B.2.2.2 i)).1 o.2.2.2.2.2.2.2.2.2.1)) := by
  have hC4 := CX_ag hX g1 g2
  have h4 : AG 6 (fun c => (B.1.2.2.2.2.2.2.1 c, n9 c, u9 c)) (CNo B) := fun c hc => by
    unfold CNo
    dsimp only
    rw [g1 c hc, g2 c hc]
  refine ok_m (k2x a2 a3 h6 hC4 ba ca cd sp xm iB mn9 st xu mu9) (fun o ho => ?_)
  obtain ⟨f, f1, f2, f3, f4, f5, f6, f7⟩ := ho
  have ef : f = flC B.1.2.2.2.2.2.2.1 B.1.2.2.2.2.2.2.2.1 B.1.2.2.2.2.2.2.2.2.1 (CNo B) (B.2.2.2 i) := (FN_of f1).trans (flC_cg a3 h6 (AG_r _) (AG_r _) (AG_r _) h4)
  rw [ef] at f2 f3 f7
  refine ⟨f2, f3, AG_t f5 g1, AG_t f6 g2, fun z => ⟨fun c hc => ?_, (f7 z).2⟩⟩
  obtain ⟨v, v1, v2⟩ := (f7 z).1 c hc
  exact ⟨v, (nwO_cg (OKT_w a3 h6) (AG_r _) (AG_r _) (AG_r _) h4 hc).symm.trans v1, v2⟩
theorem kp_would (hB : BOK LS SE B) : Ok (g_L_would LS SE B.1.1 B.1.2.1 B.1.2.2.2.2.2.2.2.2.2.2.1 ba ca cd sp nm B.1.2.2.2.2.1 nu B.1.2.2.2.2.2.1 xm xu st B.1.2.2.2.2.2.2.1 iB mn9 mu9 B.1.2.2.2.2.2.2.2.1 B.1.2.2.2.2.2.2.2.2.1 p1 p2) (fun o => o.1 = f_would B p1 p2) := by
  obtain ⟨h6, h4, e1, e2, hX, hT⟩ := id hB
  unfold g_L_would g_X11_would
  rw [e1, e2]
  rcases idx p1 B.2.2.1 (by omega) with ⟨i, hi, rfl⟩ | ho
  · obtain ⟨⟨a, a1, a2⟩, a3, a4, a5⟩ := hT.1 i hi
    have spell := k_needSpell_in hi h4 a1 a2
    rcases idx p2 B.2.1 (by omega) with ⟨c, hc, rfl⟩ | ho2
    · have hc6 : c < 6 := by omega
      have hin : inb (nI c) 6 = true := x_inb hc6 (by omega)
      have hcl : (nI c).toNatClampNeg = c := x_cl (by omega)
      unfold f_would
      rw [fx_in hi (by omega)]
      dsimp only
      rw [fx_in hc (by omega)]
      dsimp only
      refine ok_b (R := fun r => (flC B.1.2.2.2.2.2.2.1 B.1.2.2.2.2.2.2.2.1 B.1.2.2.2.2.2.2.2.2.1 (CNo B) (B.2.2.2 i) ≠ none → r.1 = 3) ∧ (flC B.1.2.2.2.2.2.2.1 B.1.2.2.2.2.2.2.2.1 B.1.2.2.2.2.2.2.2.2.1 (CNo B) (B.2.2.2 i) = none → r.1 = 0 ∧ ∃ v, nwO B.1.2.2.2.2.2.2.1 B.1.2.2.2.2.2.2.2.1 B.1.2.2.2.2.2.2.2.2.1 (CNo B) (rT (B.2.2.2 i)).2.1 (rT (B.2.2.2 i)).2.2.1 (rT (B.2.2.2 i)).1 c = some v ∧ r.2.1 = CUT v)) (ok_be spell (ok_t rfl (ok_gs (ok_c a2.1 (ok_be (k_needCauldron_in hc h6) (ok_t rfl (ok_b (k_X2_begin _ _ _ _) (fun r2 hr2 => ok_b (k2B hB a2 a3 h6 hX hr2.1 hr2.2) (fun r hr => ?_))))))))) (fun r hr => ?_)
      · obtain ⟨f1, f2, f3, f4, f5⟩ := hr
        by_cases hz : flC B.1.2.2.2.2.2.2.1 B.1.2.2.2.2.2.2.2.1 B.1.2.2.2.2.2.2.2.2.1 (CNo B) (B.2.2.2 i) = none
        · rw [if_pos hz] at f1
          obtain ⟨v, v1, v2, v3, v4, v5⟩ := (f5 hz).1 c hc6
          refine ok_f (by rw [f1]; decide) (ok_c hin (ok_be (k_X1_cut hc6) (ok_s ⟨fun z => absurd hz z, fun _ => ⟨rfl, v, v1, ?_⟩⟩)))
          dsimp only
          rw [hcl]
          unfold CUT
          rw [v3, v4, v5]
        · rw [if_neg hz] at f1
          exact ok_t f1 (ok_s ⟨fun _ => rfl, fun z => absurd z hz⟩)
      · by_cases hz : flC B.1.2.2.2.2.2.2.1 B.1.2.2.2.2.2.2.2.1 B.1.2.2.2.2.2.2.2.2.1 (CNo B) (B.2.2.2 i) = none
        · obtain ⟨r1, v, v1, v2⟩ := hr.2 hz
          rw [if_pos hz, v1]
          exact ok_t r1 (ok_s v2)
        · have r1 := hr.1 hz
          rw [if_neg hz]
          exact ok_f (by rw [r1]; decide) (ok_f (by rw [r1]; decide) (ok_t r1 (ok_l (ok_s rfl))))
    · refine ok_b (R := fun r => r.1 = 2) (ok_be spell (ok_t rfl (ok_gs (ok_c a2.1 (ok_be (k_needCauldron_out ho2) (ok_f (by decide) (ok_s rfl))))))) (fun r hr => ok_f (by rw [hr]; decide) (ok_t hr (ok_l (ok_s ?_))))
      unfold f_would
      rw [fx_in hi (by omega)]
      dsimp only
      rw [fx_out (by omega) ho2]
  · refine ok_be ((e_gb (k_needSpell_out ho)).trans (if_neg (by decide))) (ok_f (show ¬ (2 : Int32) = 0 by decide) (ok_t rfl (ok_l (ok_s ?_))))
    unfold f_would
    rw [fx_out (by omega) ho]
theorem kp_wouldAgain (hB : BOK LS SE B) : Ok (g_L_wouldAgain LS SE B.1.1 B.1.2.1 B.1.2.2.2.2.2.2.2.2.2.2.1 tB tu mn9 B.1.2.2.2.2.2.2.1 B.1.2.2.2.2.1 B.1.2.2.2.2.2.1 B.1.2.2.2.2.2.2.2.1 B.1.2.2.2.2.2.2.2.2.1 p1 p2) (fun o => o.1 = f_would B p1 p2) := by
  obtain ⟨h6, h4, e1, e2, hX, hT⟩ := id hB
  unfold g_L_wouldAgain g_X11_wouldAgain
  rw [e1, e2]
  rcases idx p1 B.2.2.1 (by omega) with ⟨i, hi, rfl⟩ | ho
  · obtain ⟨⟨a, a1, a2⟩, a3, a4, a5⟩ := hT.1 i hi
    have spell := k_needSpell_in hi h4 a1 a2
    have hsh := OKT_SH a3
    obtain ⟨_, _, _, b4, _, _, _, b8⟩ := id a2
    rcases idx p2 B.2.1 (by omega) with ⟨c, hc, rfl⟩ | ho2
    · have hc6 : c < 6 := by omega
      unfold f_would
      rw [fx_in hi (by omega)]
      dsimp only
      rw [fx_in hc (by omega)]
      dsimp only
      refine ok_b (R := fun r => (flC B.1.2.2.2.2.2.2.1 B.1.2.2.2.2.2.2.2.1 B.1.2.2.2.2.2.2.2.2.1 (CNo B) (B.2.2.2 i) ≠ none → r.1 = 3) ∧ (flC B.1.2.2.2.2.2.2.1 B.1.2.2.2.2.2.2.2.1 B.1.2.2.2.2.2.2.2.2.1 (CNo B) (B.2.2.2 i) = none → r.1 = 0 ∧ ∃ v, nwO B.1.2.2.2.2.2.2.1 B.1.2.2.2.2.2.2.2.1 B.1.2.2.2.2.2.2.2.2.1 (CNo B) (rT (B.2.2.2 i)).2.1 (rT (B.2.2.2 i)).2.2.1 (rT (B.2.2.2 i)).1 c = some v ∧ r.2.1 = CUT v)) (ok_be spell (ok_t rfl (ok_gs (ok_c a2.1 (ok_be (k_needCauldron_in hc h6) (ok_t rfl ?_)))))) (fun r hr => ?_)
      · rw [b4]
        refine ok_b (k3 hsh b8 (OKT_w a3 h6) (OKT_n a3) (CX_BND hX) (CX_CNR hX) (CX_CNH hX) _ _ _ (FN_FV _ _)) (fun r3 hr3 => ?_)
        obtain ⟨r31, r32⟩ := hr3
        by_cases hz : flC B.1.2.2.2.2.2.2.1 B.1.2.2.2.2.2.2.2.1 B.1.2.2.2.2.2.2.2.2.1 (CNo B) (B.2.2.2 i) = none
        · have r31' := r31.trans (if_pos hz)
          obtain ⟨v, v1, v2⟩ := k3_leaves hsh b8 (OKT_w a3 h6) (CX_CNR hX) (r32 hz) hc6
          exact ok_f (by rw [r31']; decide) (ok_be v2 (ok_s ⟨fun z => absurd hz z, fun _ => ⟨rfl, v, v1, rfl⟩⟩))
        · have r31' := r31.trans (if_neg hz)
          exact ok_t r31' (ok_s ⟨fun _ => rfl, fun z => absurd z hz⟩)
      · by_cases hz : flC B.1.2.2.2.2.2.2.1 B.1.2.2.2.2.2.2.2.1 B.1.2.2.2.2.2.2.2.2.1 (CNo B) (B.2.2.2 i) = none
        · obtain ⟨r1, v, v1, v2⟩ := hr.2 hz
          rw [if_pos hz, v1]
          exact ok_t r1 (ok_s v2)
        · have r1 := hr.1 hz
          rw [if_neg hz]
          exact ok_f (by rw [r1]; decide) (ok_f (by rw [r1]; decide) (ok_t r1 (ok_l (ok_s rfl))))
    · refine ok_b (R := fun r => r.1 = 2) (ok_be spell (ok_t rfl (ok_gs (ok_c a2.1 (ok_be (k_needCauldron_out ho2) (ok_f (by decide) (ok_s rfl))))))) (fun r hr => ok_f (by rw [hr]; decide) (ok_t hr (ok_l (ok_s ?_))))
      unfold f_would
      rw [fx_in hi (by omega)]
      dsimp only
      rw [fx_out (by omega) ho2]
  · refine ok_be ((e_gb (k_needSpell_out ho)).trans (if_neg (by decide))) (ok_f (show ¬ (2 : Int32) = 0 by decide) (ok_t rfl (ok_l (ok_s ?_))))
    unfold f_would
    rw [fx_out (by omega) ho]
theorem kp_boils (hB : BOK LS SE B) : Ok (g_L_boils LS SE B.1.2.1 B.1.2.2.2.2.2.2.2.2.2.2.1 ba ca cd sp nm B.1.2.2.2.2.1 nu B.1.2.2.2.2.2.1 xm xu st B.1.2.2.2.2.2.2.1 iB mn9 mu9 B.1.2.2.2.2.2.2.2.1 B.1.2.2.2.2.2.2.2.2.1 p1) (fun o => o.1 = f_boils B p1) := by
  obtain ⟨h6, h4, e1, e2, hX, hT⟩ := id hB
  unfold g_L_boils g_X11_boils
  rw [e2]
  rcases idx p1 B.2.2.1 (by omega) with ⟨i, hi, rfl⟩ | ho
  · obtain ⟨⟨a, a1, a2⟩, a3, a4, a5⟩ := hT.1 i hi
    have spell := k_needSpell_in hi h4 a1 a2
    have ef : f_boils B (nI i) = match flC B.1.2.2.2.2.2.2.1 B.1.2.2.2.2.2.2.2.1 B.1.2.2.2.2.2.2.2.2.1 (CNo B) (B.2.2.2 i) with
      | none => -14
      | some q => nI q := by unfold f_boils; rw [fx_in hi (by omega)]
    refine ok_b (R := fun r => (flC B.1.2.2.2.2.2.2.1 B.1.2.2.2.2.2.2.2.1 B.1.2.2.2.2.2.2.2.2.1 (CNo B) (B.2.2.2 i) = none → r.1 = 3) ∧ (flC B.1.2.2.2.2.2.2.1 B.1.2.2.2.2.2.2.2.1 B.1.2.2.2.2.2.2.2.2.1 (CNo B) (B.2.2.2 i) ≠ none → r.1 = 0 ∧ r.2.1 = fcode (flC B.1.2.2.2.2.2.2.1 B.1.2.2.2.2.2.2.2.1 B.1.2.2.2.2.2.2.2.2.1 (CNo B) (B.2.2.2 i)))) (ok_be spell (ok_t rfl (ok_gs (ok_c a2.1 (ok_b (k_X2_begin _ _ _ _) (fun r2 hr2 => ok_b (k2B hB a2 a3 h6 hX hr2.1 hr2.2) (fun r hr => ?_))))))) (fun r hr => ?_)
    · obtain ⟨f1, f2, f3, f4, f5⟩ := hr
      by_cases hz : flC B.1.2.2.2.2.2.2.1 B.1.2.2.2.2.2.2.2.1 B.1.2.2.2.2.2.2.2.2.1 (CNo B) (B.2.2.2 i) = none
      · rw [if_pos hz] at f1
        exact ok_f (by rw [f1]; decide) (ok_s ⟨fun _ => rfl, fun z => absurd hz z⟩)
      · rw [if_neg hz] at f1
        exact ok_t f1 (ok_s ⟨fun z => absurd z hz, fun _ => ⟨rfl, f2⟩⟩)
    · rw [ef]
      cases hz : flC B.1.2.2.2.2.2.2.1 B.1.2.2.2.2.2.2.2.1 B.1.2.2.2.2.2.2.2.2.1 (CNo B) (B.2.2.2 i) with
      | none =>
        have r1 := hr.1 hz
        exact ok_f (by rw [r1]; decide) (ok_f (by rw [r1]; decide) (ok_t r1 (ok_s rfl)))
      | some q =>
        obtain ⟨r1, r2⟩ := hr.2 (by rw [hz]; exact fun z => by cases z)
        rw [hz] at r2
        exact ok_t r1 (ok_s r2)
  · refine ok_be ((e_gb (k_needSpell_out ho)).trans (if_neg (by decide))) (ok_f (show ¬ (2 : Int32) = 0 by decide) (ok_t rfl (ok_s ?_)))
    unfold f_boils
    rw [fx_out (by omega) ho]
theorem kp_lasts (hB : BOK LS SE B) : Ok (g_L_lasts LS SE B.1.2.1 B.1.2.2.2.2.2.2.2.2.2.2.1 ba ca cd sp nm B.1.2.2.2.2.1 nu B.1.2.2.2.2.2.1 xm xu st B.1.2.2.2.2.2.2.1 iB mn9 mu9 B.1.2.2.2.2.2.2.2.1 B.1.2.2.2.2.2.2.2.2.1 p1) (fun o => o.1 = f_lasts B p1) := by
  obtain ⟨h6, h4, e1, e2, hX, hT⟩ := id hB
  unfold g_L_lasts g_X11_lasts
  rw [e2]
  rcases idx p1 B.2.2.1 (by omega) with ⟨i, hi, rfl⟩ | ho
  · obtain ⟨⟨a, a1, a2⟩, a3, a4, a5⟩ := hT.1 i hi
    have spell := k_needSpell_in hi h4 a1 a2
    have ef : f_lasts B (nI i) = nI (LST B.1.2.2.2.2.2.2.1 B.1.2.2.2.2.2.2.2.1 B.1.2.2.2.2.2.2.2.2.1 (B.2.2.2 i) 50 (cutI B.1.2.2.2.2.1, cutU B.1.2.2.2.2.2.1)) := by unfold f_lasts; rw [fx_in hi (by omega)]
    refine ok_b (R := fun r => r.1 = 0 ∧ r.2.1 = nI (LST B.1.2.2.2.2.2.2.1 B.1.2.2.2.2.2.2.2.1 B.1.2.2.2.2.2.2.2.2.1 (B.2.2.2 i) 50 (cutI B.1.2.2.2.2.1, cutU B.1.2.2.2.2.2.1))) (ok_be spell (ok_t rfl (ok_gs (ok_c a2.1 (ok_b (k_X2_begin _ _ _ _) (fun r2 hr2 => ?_)))))) (fun r hr => ok_t hr.1 (ok_s (hr.2.trans ef.symm)))
    have := l_lasts a2 a3 h6 100 0 r2.1 xm iB mn9 st r2.2 xu mu9 ba ca cd sp (by omega) (by omega) (CX_ag hX hr2.1 hr2.2)
    rw [cutI_eq hr2.1, cutU_eq hr2.2] at this
    exact ok_m this (fun o ho => ⟨ho.1, ho.2.trans (by rw [Nat.zero_add])⟩)
  · refine ok_be ((e_gb (k_needSpell_out ho)).trans (if_neg (by decide))) (ok_f (show ¬ (2 : Int32) = 0 by decide) (ok_t rfl (ok_s ?_)))
    unfold f_lasts
    rw [fx_out (by omega) ho]
theorem l_isSafe (hB : BOK LS SE B) :
    ∀ (n i : Nat) (bm' : Nat → Int32) (bu' : Nat → UInt32) (iB' : Nat → Int32) (mn' : Nat → Int32) (mu' : Nat → UInt32) (nm' : Nat → Int32) (nu' : Nat → UInt32) (si' : Nat → Int32) (th' : Nat → Int64) (tb' : Nat → Int32) (tl' : Nat → Int64) (tsh' : Nat → Int64) (tsb' : Nat → Int32) (tsl' : Nat → Int64) (boA boC boD spn faA stA spA : Int32), i ≤ B.2.2.1 → B.2.2.1 - i < n → Ok (g_X11_isSafe_b2 LS SE (nI B.2.2.1) B.1.2.2.2.2.2.2.2.2.2.2.1 B.1.2.2.2.2.2.2.1 B.1.2.2.2.2.2.2.2.1 B.1.2.2.2.2.2.2.2.2.1 B.1.2.2.2.2.1 B.1.2.2.2.2.2.1 n bm' bu' iB' mn' mu' nm' nu' si' th' tb' tl' tsh' tsb' tsl' boA boC boD spn faA stA spA (nI i)) (fun o => o.1 = 1)
  | 0, i, _, _, _, _, _, _, _, _, _, _, _, _, _, _, _, _, _, _, _, _, _, _, h => absurd h (Nat.not_lt_zero _)
  | n + 1, i, bm', bu', iB', mn', mu', nm', nu', si', th', tb', tl', tsh', tsb', tsl', boA, boC, boD, spn, faA, stA, spA, hle, hm => by
    obtain ⟨h6, h4, e1, e2, hX, hT⟩ := id hB
    have hbo := CX_bo hX
    unfold g_X11_isSafe_b2 g_X11_isSafe_b69
    by_cases c : i = B.2.2.1
    · rw [c]
      exact ok_t (nI_le (Nat.le_refl _) (by omega)) (ok_s rfl)
    · have hi' : i < B.2.2.1 := by omega
      obtain ⟨⟨a0, a1, a2⟩, a3, a4, a5⟩ := hT.1 i hi'
      refine ok_f (nI_ge hi' (by omega)) (ok_be (k_spellAt hi' h4 a1) (ok_gs (ok_c a2.1 (ok_b (k9x a2 a3 h6 hbo _ _ _ _ _ _ _ _ _) (fun r3 hr3 => ?_)))))
      obtain ⟨z, z1, z2, z3⟩ := hr3
      by_cases hz : z = none
      · rw [if_pos hz] at z2
        rw [hz] at z1
        refine ok_f (by rw [z2]; decide) (ok_b (k_X2_begin _ _ _ _) (fun r4 hr4 => ?_))
        have hC4 := CX_ag hX hr4.1 hr4.2
        refine ok_b (k2x a2 a3 h6 hC4 _ _ _ _ _ _ _ _ _ _) (fun r5 hr5 => ?_)
        obtain ⟨y, y1, y2, -⟩ := hr5
        have e := FV_one y1 (typed_safe a3 h6 hC4 z1)
        rw [e, if_pos rfl] at y2
        refine ok_f (by rw [y2]; decide) (ok_l ?_)
        rw [nI_1]
        exact l_isSafe hB n (i + 1) _ _ _ _ _ _ _ _ _ _ _ _ _ _ _ _ _ _ _ _ _ (by omega) (by omega)
      · rw [if_neg hz] at z2
        refine ok_t z2 (ok_l ?_)
        rw [nI_1]
        exact l_isSafe hB n (i + 1) _ _ _ _ _ _ _ _ _ _ _ _ _ _ _ _ _ _ _ _ _ (by omega) (by omega)
theorem kp_isSafe (hB : BOK LS SE B) : Ok (g_X11_isSafe LS SE B.1.2.1 B.1.2.2.2.2.2.2.2.2.2.2.1 fa so sps B.1.2.2.2.2.2.2.1 B.1.2.2.2.2.2.2.2.1 B.1.2.2.2.2.2.2.2.2.1 iB l h sB sL sH ba ca cd sp nm B.1.2.2.2.2.1 nu B.1.2.2.2.2.2.1 xm xu st tB mn9 mu9) (fun o => o.1 = 1) := by
  have e2 := hB.2.2.2.1
  have h4 := hB.2.1
  unfold g_X11_isSafe
  rw [e2]
  exact l_isSafe hB 100 0 _ _ _ _ _ _ _ _ _ _ _ _ _ _ _ _ _ _ _ _ _ (Nat.zero_le _) (by omega)
end KP3
