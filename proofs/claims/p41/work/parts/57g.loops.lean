/-! rows of the whole claim that speak of the class alone (gen/pure1.py) -/
def iI (z : Int) : Int32 := Int32.ofInt z
theorem iI_to {z : Int} (h1 : -2147483648 ≤ z) (h2 : z < 2147483648) : (iI z).toInt = z := by
  show (Int32.ofInt z).toInt = z
  rw [Int32.toInt_ofInt, show Int32.size = 4294967296 from rfl, Int.bmod_eq_of_le] <;> omega
theorem iI_add (a b : Int) : iI a + iI b = iI (a + b) := (Int32.ofInt_add a b).symm
theorem iI_m1 : iI (-1) = (-1 : Int32) := by decide
theorem iI_le {a b : Int} (h1 : -2147483648 ≤ a) (h2 : a < 2147483648) (h3 : -2147483648 ≤ b) (h4 : b < 2147483648) : (iI a ≤ iI b) ↔ a ≤ b := by
  rw [Int32.le_iff_toInt_le, iI_to h1 h2, iI_to h3 h4]
theorem iI_n {n : Nat} (h : n < 2147483648) : iI (n : Int) = nI n := ofI_n h
theorem dbl_REP {x : UInt64} {N : Nat} (hx : VN x N) (hN : N < ONE) : REP (N * 2 ^ 1) := by
  obtain ⟨c, k, r1, r2, r3⟩ := VN_REP hx
  have : k ≤ 1074 ∨ c = 0 := by
    rcases Nat.lt_or_ge 1074 k with z | z
    · rcases Nat.eq_zero_or_pos c with z2 | z2
      · exact Or.inr z2
      · have b1 : ONE ≤ 2 ^ k := Nat.pow_le_pow_right (by decide) (by omega)
        have b2 : 2 ^ k ≤ c * 2 ^ k := Nat.le_mul_of_pos_left _ z2
        rw [← r1] at b2
        exact absurd (Nat.lt_of_lt_of_le hN (Nat.le_trans b1 b2)) (Nat.lt_irrefl _)
    · exact Or.inl z
  rcases this with z | z
  · exact ⟨c, k + 1, by rw [r1, Nat.pow_add, Nat.mul_assoc], r2, by omega⟩
  · exact ⟨0, 0, by rw [r1, z]; simp, by decide, by decide⟩
theorem dbl_VN {x : UInt64} {N : Nat} (hx : VN x N) (hN : N < ONE) : VN (FP.dmul x (4611686018427387904 : UInt64)) (N * 2) := by
  have := VN_mul (j := 1) hx two64 (dbl_REP hx hN)
  rw [Nat.pow_one] at this
  exact this
theorem pow_up (N m : Nat) : N * 2 ^ (m + 1) = N * 2 * 2 ^ m := by rw [Nat.pow_succ, Nat.mul_comm (2 ^ m), Nat.mul_assoc]
theorem half_lt {N m : Nat} (h : N * 2 ^ (m + 1) < 2 * ONE) : N < ONE := by
  have a1 : N * 2 ≤ N * 2 * 2 ^ m := Nat.le_mul_of_pos_right _ (Nat.two_pow_pos m)
  rw [pow_up] at h
  omega
theorem dbl_ge {N m : Nat} (h : ONE * 2 ^ (m + 1) ≤ N) : 2 * ONE ≤ N := by
  have a1 : ONE * 2 ≤ ONE * 2 * 2 ^ m := Nat.le_mul_of_pos_right _ (Nat.two_pow_pos m)
  rw [pow_up] at h
  omega
theorem half_ge {M m : Nat} (h : ONE * 2 ^ (m + 1) ≤ 2 * M) : ONE * 2 ^ m ≤ M := by
  rw [Nat.pow_succ, ← Nat.mul_assoc] at h
  omega
theorem half_lt2 {M m : Nat} (h : 2 * M < 2 * ONE * 2 ^ (m + 1)) : M < 2 * ONE * 2 ^ m := by
  rw [Nat.pow_succ, ← Nat.mul_assoc] at h
  omega
theorem l35 {low : Int} (hl : -1100 ≤ low) (n : Nat) : ∀ (m : Nat) (e : Int) (x : UInt64) (N : Nat), m < n → VN x N → REP (N * 2 ^ m) → N * 2 ^ m < 2 * ONE → low ≤ e - m → e ≤ 1100 → (low < e - m → ONE ≤ N * 2 ^ m) → g_X5_exponentOf_b35 (iI low) n (iI e) x = some (iI (e - m)) := by
  induction n with
  | zero => intro m e x N h; exact absurd h (Nat.not_lt_zero m)
  | succ n ih =>
    intro m e x N hn hx hr h2 h3 h4 h5
    cases m with
    | zero =>
      rw [Nat.pow_zero, Nat.mul_one] at h2 h5
      rw [show e - ((0 : Nat) : Int) = e by omega] at h3 h5 ⊢
      by_cases g : ONE ≤ N
      · exact if_pos ((VN_ge hx VN_1).mpr g)
      · refine (if_neg (fun z => g ((VN_ge hx VN_1).mp z))).trans (if_pos ((iI_le (by omega) (by omega) (by omega) (by omega)).mpr ?_))
        rcases Int.lt_or_le low e with z | z
        · exact absurd (h5 z) g
        · exact z
    | succ m =>
      have hN := half_lt h2
      have hd := dbl_VN hx hN
      rw [pow_up] at hr h2
      have := ih m (e - 1) _ (N * 2) (by omega) hd hr h2 (by omega) (by omega) (fun z => by rw [← pow_up]; exact h5 (by omega))
      refine (if_neg (fun z => by have := (VN_ge hx VN_1).mp z; omega)).trans ((if_neg (fun z => by have := (iI_le (by omega) (by omega) (by omega) (by omega)).mp z; omega)).trans ((e_gc (VN_n hd)).trans ?_))
      show g_X5_exponentOf_b35 (iI low) n (iI e + -1) (FP.dmul x 4611686018427387904) = _
      rw [← iI_m1, iI_add, show e + -1 = e - 1 by omega, this]
      congr 2
      omega
theorem l5 {low : Int} (hl : -1100 ≤ low) (hl0 : low ≤ 0) (n : Nat) : ∀ (m e : Nat) (x : UInt64) (N : Nat), m < n → VN x N → ONE * 2 ^ m ≤ N → N < 2 * ONE * 2 ^ m → e + m ≤ 1023 → g_X5_exponentOf_b5 (iI low) n (nI e) x = some (nI (e + m)) := by
  induction n with
  | zero => intro m e x N h; exact absurd h (Nat.not_lt_zero m)
  | succ n ih =>
    intro m e x N hn hx h1 h2 h3
    cases m with
    | zero =>
      rw [Nat.pow_zero, Nat.mul_one] at h1 h2
      refine (if_pos ((VN_lt hx VN_2).mpr h2)).trans ?_
      have := l35 hl 2200 0 (e : Int) x N (by omega) hx (by rw [Nat.pow_zero, Nat.mul_one]; exact VN_REP hx) (by rw [Nat.pow_zero, Nat.mul_one]; exact h2) (by omega) (by omega) (fun _ => by rw [Nat.pow_zero, Nat.mul_one]; exact h1)
      rw [show (e : Int) - ((0 : Nat) : Int) = (e : Int) by omega, iI_n (by omega)] at this
      rw [Nat.add_zero]
      exact this
    | succ m =>
      obtain ⟨M, hM, hx2⟩ := VN_half hx (dbl_ge h1)
      rw [hM] at h1 h2
      have := ih m (e + 1) _ M (by omega) hx2 (half_ge h1) (half_lt2 h2) (by omega)
      have hge := dbl_ge h1
      refine (if_neg (fun z => by have := (VN_lt hx VN_2).mp z; omega)).trans ((if_neg (show ¬ (1023 : Int32) ≤ nI e from nI_ge (show e < 1023 by omega) (show (1023 : Nat) < 2147483648 by omega))).trans ((e_gc (VN_n hx2)).trans ?_))
      show g_X5_exponentOf_b5 (iI low) n (nI e + 1) (FP.ddiv x 4611686018427387904) = _
      rw [nI_1, this]
      congr 2
      omega
theorem k_expP {low : Int} (hl : -1100 ≤ low) (hl0 : low ≤ 0) {m : Nat} {x : UInt64} {N : Nat} (hx : VN x N) (h1 : ONE * 2 ^ m ≤ N) (h2 : N < 2 * ONE * 2 ^ m) (hm : m ≤ 1023) : g_X5_exponentOf x (iI low) = some (nI m) := by
  unfold g_X5_exponentOf
  have := l5 hl hl0 2200 m 0 x N (by omega) hx h1 h2 (by omega)
  rw [Nat.zero_add] at this
  exact this
theorem k_expN {low : Int} (hl : -1100 ≤ low) {m : Nat} {x : UInt64} {N : Nat} (hx : VN x N) (hr : REP (N * 2 ^ m)) (h2 : N * 2 ^ m < 2 * ONE) (h3 : low ≤ -(m : Int)) (h5 : low < -(m : Int) → ONE ≤ N * 2 ^ m) : g_X5_exponentOf x (iI low) = some (iI (-(m : Int))) := by
  unfold g_X5_exponentOf g_X5_exponentOf_b5
  have hN : N < 2 * ONE := by
    have a1 : N ≤ N * 2 ^ m := Nat.le_mul_of_pos_right _ (Nat.two_pow_pos m)
    omega
  rw [if_pos ((VN_lt hx VN_2).mpr hN)]
  have := l35 hl 2200 m 0 x N (by omega) hx hr h2 (by omega) (by omega) (fun z => h5 (by omega))
  rw [show (0 : Int) - (m : Int) = -(m : Int) by omega] at this
  exact this
theorem s25 (n : Nat) : ∀ (m : Nat) (x : UInt64) (N : Nat), m < n → m ≤ 1100 → VN x N → REP (N * 2 ^ m) → N * 2 ^ m < 2 * ONE → Ok (g_X5_scale_b25 n x (iI (-(m : Int)))) (fun y => VN y (N * 2 ^ m)) := by
  induction n with
  | zero => intro m x N h; exact absurd h (Nat.not_lt_zero m)
  | succ n ih =>
    intro m x N hn hm hx hr h2
    cases m with
    | zero =>
      refine ok_t (show (0 : Int32) ≤ iI (-((0 : Nat) : Int)) by decide) (ok_s ?_)
      rw [Nat.pow_zero, Nat.mul_one]
      exact hx
    | succ m =>
      have hN := half_lt h2
      have hd := dbl_VN hx hN
      rw [pow_up] at hr h2
      refine ok_f (fun z => by have := (iI_le (a := 0) (by omega) (by omega) (by omega) (by omega)).mp z; omega) (ok_c (VN_n hd) (ok_l (ok_l ?_)))
      rw [show iI (-((m + 1 : Nat) : Int)) + 1 = iI (-(m : Int)) by rw [show (1 : Int32) = iI 1 from rfl, iI_add]; congr 1; omega, pow_up]
      exact ih m _ (N * 2) (by omega) (by omega) hd hr h2
theorem s5 {p2 : Int32} (hp2 : 0 ≤ p2) (n : Nat) : ∀ (m : Nat) (x : UInt64) (N : Nat), m < n → m ≤ 1100 → VN x N → ONE * 2 ^ m ≤ N → Ok (g_X5_scale_b5 p2 n x (nI m)) (fun y => ∃ M, N = M * 2 ^ m ∧ VN y M) := by
  induction n with
  | zero => intro m x N h; exact absurd h (Nat.not_lt_zero m)
  | succ n ih =>
    intro m x N hn hm hx h1
    cases m with
    | zero =>
      refine ok_t (show nI 0 ≤ (0 : Int32) by decide) (ok_e (x := x) ?_ ⟨N, by rw [Nat.pow_zero, Nat.mul_one], hx⟩)
      exact if_pos hp2
    | succ m =>
      obtain ⟨M, hM, hx2⟩ := VN_half hx (dbl_ge h1)
      rw [hM] at h1
      refine ok_f (show ¬ nI (m + 1) ≤ 0 from nI_ge (show 0 < m + 1 by omega) (by omega)) (ok_c (VN_n hx2) (ok_l (ok_l ?_)))
      rw [x_m1 (by omega), Nat.add_sub_cancel]
      refine ok_m (ih m _ M (by omega) (by omega) hx2 (half_ge h1)) (fun y hy => ?_)
      obtain ⟨M', m1, m2⟩ := hy
      exact ⟨M', by rw [hM, m1, Nat.pow_succ, Nat.mul_comm 2, Nat.mul_assoc], m2⟩
theorem k_scaleP {m : Nat} {x : UInt64} {N : Nat} (hx : VN x N) (hm : m ≤ 1023) (h1 : ONE * 2 ^ m ≤ N) : Ok (g_X5_scale x (nI m)) (fun y => ∃ M, N = M * 2 ^ m ∧ VN y M) := by
  unfold g_X5_scale
  exact s5 (nI_le (a := 0) (Nat.zero_le m) (by omega)) 1200 m x N (by omega) (by omega) hx h1
theorem k_scaleN {m : Nat} {x : UInt64} {N : Nat} (hx : VN x N) (hm : m ≤ 1100) (hr : REP (N * 2 ^ m)) (h2 : N * 2 ^ m < 2 * ONE) : Ok (g_X5_scale x (iI (-(m : Int)))) (fun y => VN y (N * 2 ^ m)) := by
  refine ok_t ((iI_le (b := 0) (by omega) (by omega) (by omega) (by omega)).mpr (by omega)) ?_
  exact s25 1200 m x N (by omega) (by omega) hx hr h2
