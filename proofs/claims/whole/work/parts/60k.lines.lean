/-! LINES: what the reference says is what stands in the builder -/
def LR (ds : List Nat) (lm : Int32) (ml : Nat → Int32) : Prop := lm = nI ds.length ∧ ∀ j, j < ds.length → ml j = nI (ds.getD j 0)
theorem LR_0 (ml : Nat → Int32) : LR [] 0 ml := ⟨rfl, fun j hj => absurd hj (Nat.not_lt_zero j)⟩
theorem k_says {ds : List Nat} {c : Nat} {lm : Int32} {ml : Nat → Int32} (h : LR ds lm ml) (hl : ds.length < 80) (hc : c < 65536) : ∃ o, g_X12_says lm ml (nI c) = some o ∧ LR (ds ++ [c]) o.1 o.2 := by
  unfold g_X12_says
  rw [h.1, e_gc (x_inb hl (by omega)), e_gl, nI_1, x_nc hc, x_cl (by omega)]
  refine ⟨_, rfl, by rw [List.length_append]; rfl, fun j hj => ?_⟩
  rw [List.length_append] at hj
  have hj : j < ds.length + 1 := hj
  show upd ml ds.length (nI c) j = _
  by_cases e : j = ds.length
  · rw [e, x_us, gD_r (Nat.le_refl _), Nat.sub_self]; rfl
  · rw [x_un e, h.2 j (by omega), gD_l (by omega)]
/-- digits from the first on -/
def dp : Nat → Nat → List Nat
  | 0, _ => []
  | n + 1, w => if w ≤ 9 then [48 + w] else dp n (w / 10) ++ [48 + w % 10]
theorem dp_len : ∀ n w, (dp n w).length ≤ n
  | 0, _ => Nat.le_refl _
  | n + 1, w => by
    unfold dp
    split
    · simp
    · rw [List.length_append]
      have := dp_len n (w / 10)
      show (dp n (w / 10)).length + 1 ≤ n + 1
      omega
theorem t64_0 : (0 : Int64).toInt = 0 := rfl
theorem t64_9 : (9 : Int64).toInt = 9 := rfl
theorem t64_10 : (10 : Int64).toInt = 10 := rfl
theorem t64_48 : (48 : Int64).toInt = 48 := rfl
theorem i64_nI {a : Int64} {n : Nat} (h : a.toInt = n) (hn : n < 2147483648) : a.toInt32 = nI n := toI_of hn (by
  rw [Int64.toInt_toInt32, h, Int.bmod_eq_of_le] <;> omega)
theorem div10 {v : Int64} {w : Nat} (h : v.toInt = w) (hw : w < 10000) : (v / 10).toInt = ((w / 10 : Nat) : Int) := by
  rw [Int64.toInt_div, h, t64_10, show ((w : Int)).tdiv 10 = ((w / 10 : Nat) : Int) from rfl, Int.bmod_eq_of_le] <;> omega
theorem dig10 {v : Int64} {w : Nat} (h : v.toInt = w) (hw : w < 10000) : ((((48 : Int64) + (v - v / 10 * 10)).toInt32).toUInt32 % 65536).toInt32 = nI (48 + w % 10) := by
  have h1 := div10 h hw
  have h2 : (v / 10 * 10).toInt = ((w / 10 * 10 : Nat) : Int) := by
    rw [Int64.toInt_mul, h1, t64_10, Int.bmod_eq_of_le] <;> omega
  have h3 : (v - v / 10 * 10).toInt = ((w % 10 : Nat) : Int) := by
    rw [Int64.toInt_sub, h, h2, Int.bmod_eq_of_le] <;> omega
  have h4 : ((48 : Int64) + (v - v / 10 * 10)).toInt = ((48 + w % 10 : Nat) : Int) := by
    rw [Int64.toInt_add, h3, t64_48, Int.bmod_eq_of_le] <;> omega
  rw [i64_nI h4 (by omega), i2c_at (by omega)]
theorem abs_p {v : Int64} {w : Nat} (h : v.toInt = w) : (if 0 < v then v else -v) = v := by
  by_cases c : 0 < v
  · rw [if_pos c]
  · rw [if_neg c]
    rw [Int64.lt_iff_toInt_lt, t64_0, h] at c
    have : v = 0 := Int64.toInt_inj.mp (by rw [h, t64_0]; omega)
    rw [this]; rfl
theorem k_numP : ∀ (n w : Nat) (ds : List Nat) (lm : Int32) (ml : Nat → Int32) (v : Int64), w < 10 ^ n → w < 10000 → LR ds lm ml → ds.length + n ≤ 80 → v.toInt = w → 0 < n → ∃ o, g_X12_saysNumber n lm ml v = some o ∧ LR (ds ++ dp n w) o.1 o.2
  | 0, _, _, _, _, _, _, _, _, _, _, h => absurd h (Nat.not_lt_zero _)
  | n + 1, w, ds, lm, ml, v, hw, hw4, hR, hl, hv, _ => by
    unfold g_X12_saysNumber dp
    have c0 : 0 ≤ lg_cmp v 0 := by rw [lg_ge, Int64.lt_iff_toInt_lt, t64_0, hv]; omega
    have nz : decide (¬ (10 : Int64) = 0) = true := rfl
    rw [if_pos c0, e_gl, abs_p hv]
    by_cases c9 : w ≤ 9
    · rw [if_pos c9, if_pos (by rw [lg_le, Int64.lt_iff_toInt_lt, t64_9, hv]; omega), e_gc nz, dig10 hv hw4, Nat.mod_eq_of_lt (show w < 10 by omega)]
      obtain ⟨o, h1, h2⟩ := k_says hR (c := 48 + w) (by omega) (by omega)
      exact ⟨o, by rw [h1]; rfl, h2⟩
    · rw [if_neg c9, if_neg (by rw [lg_le, Int64.lt_iff_toInt_lt, t64_9, hv]; omega), e_gc nz]
      have hn : 0 < n := by
        rcases Nat.eq_zero_or_pos n with z | z
        · subst z
          have : w < 10 ^ 1 := hw
          omega
        · exact z
      obtain ⟨o, h1, h2⟩ := k_numP n (w / 10) ds lm ml (v / 10) (by
        have : w < 10 ^ n * 10 := by rw [← Nat.pow_succ]; exact hw
        omega) (by omega) hR (by omega) (div10 hv hw4) hn
      have hdl := dp_len n (w / 10)
      obtain ⟨o', h3, h4⟩ := k_says h2 (c := 48 + w % 10) (by rw [List.length_append]; omega) (by omega)
      refine ⟨o', ?_, by rw [← List.append_assoc]; exact h4⟩
      rw [h1, e_gbS, e_gc nz, dig10 hv hw4, h3]
      rfl
theorem dp_dl {w : Nat} (hw : w < 10000) : dp 12 w = dl false w := by
  have e : ∀ n x, dp (n + 1) x = if x ≤ 9 then [48 + x] else dp n (x / 10) ++ [48 + x % 10] := fun _ _ => rfl
  by_cases c1 : w < 10
  · rw [dl_0_1 (Nat.zero_le _) c1, e, if_pos (by omega), Nat.mod_eq_of_lt c1]
  by_cases c2 : w < 100
  · rw [dl_0_2 (by omega) c2, e, if_neg (by omega), e, if_pos (by omega)]; rfl
  by_cases c3 : w < 1000
  · rw [dl_0_3 (by omega) c3, e, if_neg (by omega), e, if_neg (by omega), e, if_pos (by omega), show w / 10 / 10 = w / 100 % 10 by omega, show w / 10 % 10 = w % 100 / 10 by omega, show w % 10 = w % 100 % 10 by omega]; rfl
  · rw [dl_0_4 (by omega) hw, e, if_neg (by omega), e, if_neg (by omega), e, if_neg (by omega), e, if_pos (by omega), show w / 10 / 10 / 10 = w / 100 / 10 by omega, show w / 10 / 10 % 10 = w / 100 % 10 by omega, show w / 10 % 10 = w % 100 / 10 by omega, show w % 10 = w % 100 % 10 by omega]; rfl
theorem dl_neg (w : Nat) : dl true w = 45 :: dl false w := by unfold dl; rfl
theorem SG_of {v : Int32} (N : Nat) (h1 : -(N : Int) ≤ v.toInt) (h2 : v.toInt ≤ N) : ∃ neg w, v = SG neg w ∧ w ≤ N ∧ (neg = true → 0 < w) ∧ v.toInt = if neg = true then -(w : Int) else (w : Int) := by
  by_cases c : 0 ≤ v.toInt
  · have hm := v.toInt_le
    have e2 : Int32.maxValue.toInt = 2147483647 := rfl
    refine ⟨false, v.toInt.toNat, ?_, by omega, (fun z => by cases z), ?_⟩
    · exact toI_of (by omega) (by omega)
    · show v.toInt = ((v.toInt.toNat : Nat) : Int)
      omega
  · have hm := v.minValue_le_toInt
    have e2 : Int32.minValue.toInt = -2147483648 := rfl
    by_cases cm : v.toInt = -2147483648
    · refine ⟨true, 2147483648, ?_, by omega, fun _ => by omega, ?_⟩
      · have : v = Int32.minValue := Int32.toInt_inj.mp (by rw [cm]; rfl)
        rw [this]; decide
      · rw [if_pos rfl]; omega
    · refine ⟨true, (-v.toInt).toNat, ?_, by omega, fun _ => by omega, ?_⟩
      · apply Int32.toInt_inj.mp
        show v.toInt = (-(nI (-v.toInt).toNat)).toInt
        rw [Int32.toInt_neg, nI_toInt (by omega), Int.bmod_eq_of_le] <;> omega
      · rw [if_pos rfl]; omega
theorem k_num {v : Int32} {neg : Bool} {w : Nat} (hw : w < 10000) (hn : neg = true → 0 < w) (hv : v.toInt = if neg = true then -(w : Int) else (w : Int)) {ds : List Nat} {lm : Int32} {ml : Nat → Int32} (hR : LR ds lm ml) (hl : ds.length ≤ 60) : ∃ o, g_X12_saysNumber 12 lm ml v.toInt64 = some o ∧ LR (ds ++ dl neg w) o.1 o.2 := by
  cases neg with
  | false =>
    rw [if_neg (by decide)] at hv
    obtain ⟨o, h1, h2⟩ := k_numP 12 w ds lm ml v.toInt64 (by omega) hw hR (by omega) (by rw [Int32.toInt_toInt64]; exact hv) (by omega)
    rw [dp_dl hw] at h2
    exact ⟨o, h1, h2⟩
  | true =>
    rw [if_pos rfl] at hv
    have hw0 := hn rfl
    have hv6 : v.toInt64.toInt = -(w : Int) := by rw [Int32.toInt_toInt64]; exact hv
    have hvn : (-v.toInt64).toInt = w := by
      rw [Int64.toInt_neg, hv6, Int.bmod_eq_of_le] <;> omega
    obtain ⟨o, h1, h2⟩ := k_says hR (c := 45) (by omega) (by omega)
    have e12 : g_X12_saysNumber 12 lm ml v.toInt64 = g_X12_saysNumber 12 o.1 o.2 (-v.toInt64) := by
      have c0 : ¬ 0 ≤ lg_cmp v.toInt64 0 := by rw [lg_ge, Int64.lt_iff_toInt_lt, t64_0, hv6]; omega
      have c1 : 0 ≤ lg_cmp (-v.toInt64) 0 := by rw [lg_ge, Int64.lt_iff_toInt_lt, t64_0, hvn]; omega
      have c2 : ¬ 0 < v.toInt64 := by rw [Int64.lt_iff_toInt_lt, t64_0, hv6]; omega
      show g_X12_saysNumber (11 + 1) lm ml v.toInt64 = g_X12_saysNumber (11 + 1) o.1 o.2 (-v.toInt64)
      unfold g_X12_saysNumber
      rw [if_neg c0, if_pos c1, show (45 : Int32) = nI 45 from rfl, h1, e_gbS, e_gl, e_gl, if_neg c2, abs_p hvn]
    obtain ⟨o', h3, h4⟩ := k_numP 12 w _ o.1 o.2 (-v.toInt64) (by omega) hw h2 (by rw [List.length_append]; show ds.length + 1 + 12 ≤ 80; omega) hvn (by omega)
    rw [dp_dl hw] at h4
    exact ⟨o', by rw [e12]; exact h3, by rw [dl_neg]; rw [List.append_assoc] at h4; exact h4⟩
theorem dl_lt {neg : Bool} {w : Nat} (hw : w < 10000) : ∀ d, d ∈ dl neg w → d < 128 := by
  intro d hd
  unfold dl at hd
  rw [List.mem_append] at hd
  rcases hd with hd | hd
  · cases neg
    · simp at hd
    · simp at hd; omega
  · revert hd
    repeat' split
    all_goals simp
    all_goals omega
/-- all of it a sign -/
def S7 (ds : List Nat) : Prop := ∀ d, d ∈ ds → d < 128
theorem S7_at {ds : List Nat} (h : S7 ds) {j : Nat} (hj : j < ds.length) : ds.getD j 0 < 128 := by
  have e : ds.getD j 0 = ds[j] := by simp [List.getD, hj]
  rw [e]
  exact h _ (List.getElem_mem hj)
theorem S7_app {a b : List Nat} (h1 : S7 a) (h2 : S7 b) : S7 (a ++ b) := fun d hd => (List.mem_append.mp hd).elim (h1 d) (h2 d)
theorem S7_one {c : Nat} (h : c < 128) : S7 [c] := fun d hd => by rw [List.mem_singleton.mp hd]; exact h
