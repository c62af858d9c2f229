/-! SAFETY: a spell that types does not boil over -/
def rg (v : Int64) : Prop := -1000000 ≤ v.toInt ∧ v.toInt ≤ 1000000
theorem rg_exc {v : Int64} : rg v ↔ exc3 v = 0 := by
  rw [← rng_exc]
  unfold rng rg
  rw [decide_eq_true_eq, Int64.lt_iff_toInt_lt, Int64.lt_iff_toInt_lt]
  have e1 : (1000000 : Int64).toInt = 1000000 := rfl
  have e2 : (-1000000 : Int64).toInt = -1000000 := rfl
  omega
theorem add64 {x y : Int64} (hx : rg x) (hy : rg y) : (x + y).toInt = x.toInt + y.toInt := by
  unfold rg at hx hy
  rw [Int64.toInt_add, Int.bmod_eq_of_le] <;> omega
theorem sub64 {x y : Int64} (hx : rg x) (hy : rg y) : (x - y).toInt = x.toInt - y.toInt := by
  unfold rg at hx hy
  rw [Int64.toInt_sub, Int.bmod_eq_of_le] <;> omega
theorem mul_b {x y : Int} (h1 : -1000000 ≤ x) (h2 : x ≤ 1000000) (h3 : -1000000 ≤ y) (h4 : y ≤ 1000000) : -1000000000000 ≤ x * y ∧ x * y ≤ 1000000000000 := by
  have h := Int.natAbs_mul x y
  have h5 : x.natAbs ≤ 1000000 := by omega
  have h6 : y.natAbs ≤ 1000000 := by omega
  have h7 := Nat.mul_le_mul h5 h6
  have h8 : (1000000 : Nat) * 1000000 = 1000000000000 := rfl
  omega
theorem mul64 {x y : Int64} (hx : rg x) (hy : rg y) : (x * y).toInt = x.toInt * y.toInt := by
  have h := mul_b hx.1 hx.2 hy.1 hy.2
  rw [Int64.toInt_mul, Int.bmod_eq_of_le] <;> omega
theorem bil {a b c d x y : Int} (h1 : a ≤ x) (h2 : x ≤ b) (h3 : c ≤ y) (h4 : y ≤ d) : (a * c ≤ x * y ∨ a * d ≤ x * y ∨ b * c ≤ x * y ∨ b * d ≤ x * y) ∧ (x * y ≤ a * c ∨ x * y ≤ a * d ∨ x * y ≤ b * c ∨ x * y ≤ b * d) := by
  have m1 : ∀ {p q r : Int}, p ≤ q → 0 ≤ r → p * r ≤ q * r := fun h h' => Int.mul_le_mul_of_nonneg_right h h'
  have m2 : ∀ {p q r : Int}, p ≤ q → r ≤ 0 → q * r ≤ p * r := fun h h' => Int.mul_le_mul_of_nonpos_right h h'
  have m3 : ∀ {p q r : Int}, p ≤ q → 0 ≤ r → r * p ≤ r * q := fun h h' => Int.mul_le_mul_of_nonneg_left h h'
  have m4 : ∀ {p q r : Int}, p ≤ q → r ≤ 0 → r * q ≤ r * p := fun h h' => Int.mul_le_mul_of_nonpos_left h' h
  rcases Int.le_total 0 y with hy | hy
  · have e1 := m1 h1 hy
    have e2 := m1 h2 hy
    constructor
    · rcases Int.le_total 0 a with ha | ha
      · have := m3 h3 ha; omega
      · have := m4 h4 ha; omega
    · rcases Int.le_total 0 b with ha | ha
      · have := m3 h4 ha; omega
      · have := m4 h3 ha; omega
  · have e1 := m2 h1 hy
    have e2 := m2 h2 hy
    constructor
    · rcases Int.le_total 0 b with ha | ha
      · have := m3 h3 ha; omega
      · have := m4 h4 ha; omega
    · rcases Int.le_total 0 a with ha | ha
      · have := m3 h4 ha; omega
      · have := m4 h3 ha; omega
theorem min64 {x y : Int64} : (if x < y then x else y).toInt ≤ x.toInt ∧ (if x < y then x else y).toInt ≤ y.toInt := by
  by_cases h : x < y
  · rw [if_pos h]; rw [Int64.lt_iff_toInt_lt] at h; omega
  · rw [if_neg h]; rw [Int64.lt_iff_toInt_lt] at h; omega
theorem max64 {x y : Int64} : x.toInt ≤ (if x < y then y else x).toInt ∧ y.toInt ≤ (if x < y then y else x).toInt := by
  by_cases h : x < y
  · rw [if_pos h]; rw [Int64.lt_iff_toInt_lt] at h; omega
  · rw [if_neg h]; rw [Int64.lt_iff_toInt_lt] at h; omega
theorem iv_rk {k : Nat} (hk : k = 2 ∨ k = 3 ∨ k = 4) {a b c d x y : Int64} (ha : rg a) (hb : rg b) (hc : rg c) (hd : rg d) (h1 : a.toInt ≤ x.toInt) (h2 : x.toInt ≤ b.toInt) (h3 : c.toInt ≤ y.toInt) (h4 : y.toInt ≤ d.toInt) :
    (lo4 (nI k) a b c d).toInt ≤ (lrk (nI k) x y).toInt ∧ (lrk (nI k) x y).toInt ≤ (hi4 (nI k) a b c d).toInt := by
  have hx : rg x := ⟨by have := ha.1; omega, by have := hb.2; omega⟩
  have hy : rg y := ⟨by have := hc.1; omega, by have := hd.2; omega⟩
  unfold lo4 hi4 lrk
  rcases hk with e | e | e <;> subst e
  · simp (disch := omega) only [c_2, x_eqT, ↓reduceIte]
    rw [add64 ha hc, add64 hx hy, add64 hb hd]; omega
  · simp (disch := omega) only [c_2, c_3, x_eqT, x_eqF, ↓reduceIte]
    rw [sub64 ha hd, sub64 hx hy, sub64 hb hc]; omega
  · simp (disch := omega) only [c_2, c_3, x_eqF, ↓reduceIte]
    have n1 := @min64 (b * d) (b * c)
    have n2 := @min64 (a * d) (a * c)
    have n3 := @min64 (if (b * d) < (b * c) then (b * d) else (b * c)) (if (a * d) < (a * c) then (a * d) else (a * c))
    have x1 := @max64 (b * d) (b * c)
    have x2 := @max64 (a * d) (a * c)
    have x3 := @max64 (if (b * d) < (b * c) then (b * c) else (b * d)) (if (a * d) < (a * c) then (a * c) else (a * d))
    have hb4 := bil h1 h2 h3 h4
    rw [← mul64 ha hc, ← mul64 ha hd, ← mul64 hb hc, ← mul64 hb hd, ← mul64 hx hy] at hb4
    omega
/-- a value is as its type says -/
def IVt (t : TV) (a : CV) : Prop := a.1 = t.1 ∧ (a.1 = 0 → rg t.2.1 ∧ rg t.2.2 ∧ t.2.1.toInt ≤ a.2.1.toInt ∧ a.2.1.toInt ≤ t.2.2.toInt) ∧ bo a.1 = true
theorem clip_b (n : Int32) : -99 ≤ (clip n).toInt ∧ (clip n).toInt ≤ 99 := by
  have e1 : ((-99) : Int32).toInt = -99 := rfl
  have e2 : (99 : Int32).toInt = 99 := rfl
  unfold clip
  by_cases h1 : n < 99
  · rw [if_pos h1]
    by_cases h2 : (-99 : Int32) < n
    · rw [if_pos h2]; rw [Int32.lt_iff_toInt_lt] at h1 h2; omega
    · rw [if_neg h2]; omega
  · rw [if_neg h1, if_pos (by decide)]; omega
/-- bounds of a cauldron -/
def BND (kd lo hi : Nat → Int32) : Prop := ∀ c, c < 6 → bo (kd c) = true ∧ -99 ≤ (lo c).toInt ∧ (hi c).toInt ≤ 99 ∧ (lo c).toInt ≤ (hi c).toInt
theorem HL_i {lo hi : Nat → Int32} {c : Nat} {v : Int64} : HL lo hi c v = true ↔ (lo c).toInt ≤ v.toInt ∧ v.toInt ≤ (hi c).toInt := by
  unfold HL
  rw [decide_eq_true_eq, Int64.lt_iff_toInt_lt, Int64.lt_iff_toInt_lt, Int32.toInt_toInt64, Int32.toInt_toInt64]
  omega
section SAFE
variable {T : Nat} {k w : Nat → Nat} {kd lo hi : Nat → Int32} {CN : Nat → CV}
/-- the contents are as the cauldrons hold -/
def CNH (kd lo hi : Nat → Int32) (CN : Nat → CV) : Prop := ∀ c, c < 6 → (CN c).1 = kd c ∧ (kd c = 0 → (lo c).toInt ≤ (CN c).2.1.toInt ∧ (CN c).2.1.toInt ≤ (hi c).toInt)
theorem safe_rk {q : Nat} (hk : k q = 2 ∨ k q = 3 ∨ k q = 4) (hf : fnd (k q) ≤ DD k q) (hne : vG (tyP kd lo hi k w) q ≠ none)
    (part : ∀ i, i < DD k q → ∃ t a, VG (tyP kd lo hi k w) q (SS k q i) = some t ∧ VG (ckP kd lo hi CN k w) q (SS k q i) = some a ∧ IVt t a) :
    ∃ t a, vG (tyP kd lo hi k w) q = some t ∧ vG (ckP kd lo hi CN k w) q = some a ∧ IVt t a ∧ (k q = 7 → a.1 = kd (w q) ∧ (a.1 = 0 → (lo (w q)).toInt ≤ a.2.1.toInt ∧ a.2.1.toInt ≤ (hi (w q)).toInt)) := by
  have hf2 : fnd (k q) = 2 := by rcases hk with e | e | e <;> rw [e] <;> rfl
  obtain ⟨n, hn⟩ : ∃ n, DD k q = n + 2 := ⟨DD k q - 2, by rw [hf2] at hf; omega⟩
  have ht := vT_at kd lo hi k w q
  have hv := vC_at (kd := kd) (lo := lo) (hi := hi) (CN := CN) (k := k) (w := w) (p := q)
  rw [hf2, hn] at ht hv
  simp only [Nat.add_sub_cancel, show n + 2 - 1 = n + 1 from rfl] at ht hv
  obtain ⟨t, a, p1, p2, p3, p4, p5⟩ := part n (by omega)
  obtain ⟨u, b, r1, r2, r3, r4, r5⟩ := part (n + 1) (by omega)
  have htk : tyOp kd lo hi (k q) (w q) (some t) (some u) = rkT (k q) t u := by
    unfold tyOp
    rcases hk with e | e | e <;> rw [e] <;> rfl
  have hck : ∀ z, ckOp kd lo hi (k q) (w q) (some a) (some b) z = rkC (k q) a b := by
    intro z
    unfold ckOp
    rcases hk with e | e | e <;> rw [e] <;> rfl
  rw [p1, r1, htk] at ht
  rw [p2, r2, hck] at hv
  unfold rkT at ht
  unfold rkC at hv
  by_cases h1 : t.1 = u.1
  · rw [if_pos h1] at ht
    rw [if_pos (p3.trans (h1.trans r3.symm))] at hv
    by_cases h2 : t.1 = 0
    · rw [if_pos h2] at ht
      rw [if_pos (p3.trans h2)] at hv
      obtain ⟨i1, i2, i3, i4⟩ := p4 (p3.trans h2)
      obtain ⟨j1, j2, j3, j4⟩ := r4 (r3.trans (h1.symm.trans h2))
      by_cases h3 : exc3 (lo4 (nI (k q)) t.2.1 t.2.2 u.2.1 u.2.2) = 0 ∧ exc3 (hi4 (nI (k q)) t.2.1 t.2.2 u.2.1 u.2.2) = 0
      · rw [if_pos h3] at ht
        have g1 := rg_exc.mpr h3.1
        have g2 := rg_exc.mpr h3.2
        have hi := iv_rk hk i1 i2 j1 j2 (x := a.2.1.toInt64) (y := b.2.1.toInt64) (by rw [Int32.toInt_toInt64]; exact i3) (by rw [Int32.toInt_toInt64]; exact i4) (by rw [Int32.toInt_toInt64]; exact j3) (by rw [Int32.toInt_toInt64]; exact j4)
        have g3 : rg (lrk (nI (k q)) a.2.1.toInt64 b.2.1.toInt64) := ⟨by have := g1.1; omega, by have := g2.2; omega⟩
        have g4 := rg_exc.mp g3
        rw [if_pos g4] at hv
        refine ⟨_, _, ht, hv, ⟨rfl, fun _ => ⟨g1, g2, ?_⟩, rfl⟩, fun z => by omega⟩
        have g5 := i64_32 g4
        rw [← g5, Int32.toInt_toInt64] at hi
        exact hi
      · rw [if_neg h3] at ht
        exact absurd ht hne
    · rw [if_neg h2] at ht
      rw [if_neg (fun z => h2 (p3.symm.trans z))] at hv
      refine ⟨_, _, ht, hv, ⟨?_, fun z => absurd z (show ¬ (1 : Int32) = 0 by decide), rfl⟩, fun z => by omega⟩
      exact ((x_bob p5).resolve_left (fun z => h2 (p3.symm.trans z))).symm.trans p3
  · rw [if_neg h1] at ht
    exact absurd ht hne
theorem safe (hsh : SH T k) (hw : ∀ p, p < T → (k p = 0 ∨ k p = 7) → w p < 6) (hw1 : ∀ p, p < T → k p = 1 → w p ≤ 99) (hB : BND kd lo hi) (hC : CNH kd lo hi CN) (hty : ∀ q, q < T → vG (tyP kd lo hi k w) q ≠ none) :
    ∀ p, p ≤ T → ∀ q, q < p → ∃ t a, vG (tyP kd lo hi k w) q = some t ∧ vG (ckP kd lo hi CN k w) q = some a ∧ IVt t a ∧ (k q = 7 → a.1 = kd (w q) ∧ (a.1 = 0 → (lo (w q)).toInt ≤ a.2.1.toInt ∧ a.2.1.toInt ≤ (hi (w q)).toInt))
  | 0, _ => fun q h => absurd h (Nat.not_lt_zero q)
  | p + 1, hp => by
    have ih := safe hsh hw hw1 hB hC hty p (by omega)
    intro q hq
    by_cases e : q = p
    · subst e
      have hq' : q < T := by omega
      obtain ⟨h7, hf, h5⟩ := hsh.2.2 q hq'
      have hs := DD_s k q
      have ht := vT_at kd lo hi k w q
      have hv := vC_at (kd := kd) (lo := lo) (hi := hi) (CN := CN) (k := k) (w := w) (p := q)
      have hne := hty q hq'
      have part : ∀ i, i < DD k q → ∃ t a, VG (tyP kd lo hi k w) q (SS k q i) = some t ∧ VG (ckP kd lo hi CN k w) q (SS k q i) = some a ∧ IVt t a := by
        intro i hi
        have hl := SS_lt k q i hi
        rw [VG_old q hl, VG_old q hl]
        obtain ⟨t, a, x1, x2, x3, _⟩ := ih _ hl
        exact ⟨t, a, x1, x2, x3⟩
      unfold tyOp at ht
      unfold ckOp at hv
      rcases k8 h7 with e | e | e | e | e | e | e | e
      · rw [e] at ht hv
        simp only [↓reduceIte] at ht hv
        have hw' := hw q hq' (Or.inl e)
        obtain ⟨b1, b2, b3, b4⟩ := hB _ hw'
        have hx : ∃ a, nwO kd lo hi CN k w q (w q) = some a ∧ a.1 = kd (w q) ∧ (a.1 = 0 → (lo (w q)).toInt ≤ a.2.1.toInt ∧ a.2.1.toInt ≤ (hi (w q)).toInt) := by
          unfold nwO NWv
          cases hl : LA k w (w q) q with
          | none =>
            obtain ⟨c1, c2⟩ := hC _ hw'
            exact ⟨_, rfl, c1, fun z => c2 (c1.symm.trans z)⟩
          | some r =>
            obtain ⟨l1, l2⟩ := LA_is q r hl
            obtain ⟨t, a, x1, x2, x3, x4⟩ := ih r (LA_lt q r hl)
            rw [← l2]
            exact ⟨a, x2, x4 l1⟩
        obtain ⟨a, n1, n2, n3⟩ := hx
        rw [n1] at hv
        refine ⟨_, a, ht, hv, ⟨n2, fun z => ?_, by rw [n2]; exact b1⟩, fun z => by omega⟩
        obtain ⟨n4, n5⟩ := n3 z
        show rg (lo (w q)).toInt64 ∧ rg (hi (w q)).toInt64 ∧ (lo (w q)).toInt64.toInt ≤ a.2.1.toInt ∧ a.2.1.toInt ≤ (hi (w q)).toInt64.toInt
        unfold rg
        rw [Int32.toInt_toInt64, Int32.toInt_toInt64]
        omega
      · rw [e] at ht hv
        simp only [↓reduceIte, Nat.one_ne_zero] at ht hv
        have hw' := hw1 q hq' e
        refine ⟨_, _, ht, hv, ⟨rfl, fun _ => ?_, rfl⟩, fun z => by omega⟩
        show rg (nI (w q)).toInt64 ∧ rg (nI (w q)).toInt64 ∧ (nI (w q)).toInt64.toInt ≤ (nI (w q)).toInt ∧ (nI (w q)).toInt ≤ (nI (w q)).toInt64.toInt
        unfold rg
        rw [Int32.toInt_toInt64, nI_toInt (by omega)]
        omega
      · exact safe_rk (Or.inl e) hf hne part
      · exact safe_rk (Or.inr (Or.inl e)) hf hne part
      · exact safe_rk (Or.inr (Or.inr e)) hf hne part
      · rw [e] at hf hs ht hv
        obtain ⟨n, hn⟩ : ∃ n, DD k q = n + 1 := ⟨DD k q - 1, by rw [fnd_5] at hf; omega⟩
        simp only [↓reduceIte, fnd_5, hn, Nat.add_sub_cancel] at ht hv
        obtain ⟨t, a, p1, p2, p3, p4, p5⟩ := part n (by omega)
        rw [p1] at ht
        rw [p2] at hv
        have ht' : vG (tyP kd lo hi k w) q = if t.1 = 1 then none else some (1, -99, 99) := ht
        have hv' : vG (ckP kd lo hi CN k w) q = if a.1 = 1 then none else some (1, 0, hld (FP.i2f a.2.1)) := hv
        by_cases h1 : t.1 = 1
        · rw [if_pos h1] at ht'
          exact absurd ht' hne
        · rw [if_neg h1] at ht'
          rw [if_neg (fun z => h1 (p3.symm.trans z))] at hv'
          exact ⟨_, _, ht', hv', ⟨rfl, fun z => absurd z (show ¬ (1 : Int32) = 0 by decide), rfl⟩, fun z => by omega⟩
      · rw [e] at hf hs ht hv
        obtain ⟨n, hn⟩ : ∃ n, DD k q = n + 1 := ⟨DD k q - 1, by rw [fnd_6] at hf; omega⟩
        simp only [↓reduceIte, fnd_6, hn, Nat.add_sub_cancel] at ht hv
        obtain ⟨t, a, p1, p2, p3, p4, p5⟩ := part n (by omega)
        rw [p1] at ht
        rw [p2] at hv
        have ht' : vG (tyP kd lo hi k w) q = if t.1 = 0 then none else some (0, -99, 99) := ht
        have hv' : vG (ckP kd lo hi CN k w) q = if a.1 = 0 then none else some (0, clip (FP.f2i a.2.2), 0) := hv
        by_cases h1 : t.1 = 0
        · rw [if_pos h1] at ht'
          exact absurd ht' hne
        · rw [if_neg h1] at ht'
          rw [if_neg (fun z => h1 (p3.symm.trans z))] at hv'
          refine ⟨_, _, ht', hv', ⟨rfl, fun z => ?_, rfl⟩, fun z => by omega⟩
          have := clip_b (FP.f2i a.2.2)
          have e1 : ((-99) : Int64).toInt = -99 := rfl
          have e2 : (99 : Int64).toInt = 99 := rfl
          show rg (-99) ∧ rg 99 ∧ (-99 : Int64).toInt ≤ (clip (FP.f2i a.2.2)).toInt ∧ (clip (FP.f2i a.2.2)).toInt ≤ (99 : Int64).toInt
          unfold rg
          rw [e1, e2]
          omega
      · have hw' := hw q hq' (Or.inr e)
        rw [e] at hf hs ht hv
        obtain ⟨n, hn⟩ : ∃ n, DD k q = n + 1 := ⟨DD k q - 1, by rw [fnd_7] at hf; omega⟩
        simp only [↓reduceIte, fnd_7, hn, Nat.add_sub_cancel] at ht hv
        obtain ⟨t, a, p1, p2, p3, p4, p5⟩ := part n (by omega)
        rw [p1] at ht
        rw [p2] at hv
        have ht' : vG (tyP kd lo hi k w) q = stT kd lo hi (w q) t := ht
        have hv' : vG (ckP kd lo hi CN k w) q = stC kd lo hi (w q) a := hv
        unfold stT at ht'
        unfold stC at hv'
        by_cases h1 : t.1 = kd (w q)
        · rw [if_pos h1] at ht'
          rw [if_pos (p3.trans h1)] at hv'
          by_cases h2 : t.1 = 0
          · rw [if_pos h2] at ht'
            rw [if_pos (p3.trans h2)] at hv'
            obtain ⟨i1, i2, i3, i4⟩ := p4 (p3.trans h2)
            by_cases h3 : HL lo hi (w q) t.2.1 = true ∧ HL lo hi (w q) t.2.2 = true
            · rw [if_pos h3] at ht'
              have j1 := HL_i.mp h3.1
              have j2 := HL_i.mp h3.2
              have h4 : HL lo hi (w q) a.2.1.toInt64 = true := HL_i.mpr (by rw [Int32.toInt_toInt64]; omega)
              rw [if_pos h4] at hv'
              exact ⟨_, _, ht', hv', ⟨p3, p4, p5⟩, fun _ => ⟨p3.trans h1, fun _ => by omega⟩⟩
            · rw [if_neg h3] at ht'
              exact absurd ht' hne
          · rw [if_neg h2] at ht'
            rw [if_neg (fun z => h2 (p3.symm.trans z))] at hv'
            exact ⟨_, _, ht', hv', ⟨p3, p4, p5⟩, fun _ => ⟨p3.trans h1, fun z => absurd (p3.symm.trans z) h2⟩⟩
        · rw [if_neg h1] at ht'
          exact absurd ht' hne
    · exact ih q (by omega)
end SAFE
