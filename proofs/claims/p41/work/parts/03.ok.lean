/-! PURE: programs that come to an end with a property; numbers -/
def Ok {α : Type} (m : Option α) (P : α → Prop) : Prop := ∃ x, m = some x ∧ P x
section OKS
variable {α β : Type} {P : α → Prop} {R : β → Prop}
theorem ok_s {x : α} (h : P x) : Ok (some x) P := ⟨x, rfl, h⟩
theorem ok_e {m : Option α} {x : α} (e : m = some x) (h : P x) : Ok m P := ⟨x, e, h⟩
theorem ok_c {b : Bool} {k : Option α} (hb : b = true) (h : Ok k P) : Ok (gc b k) P := by
  obtain ⟨x, h1, h2⟩ := h
  exact ⟨x, (if_pos hb).trans h1, h2⟩
theorem ok_l {a : β} {k : β → Option α} (h : Ok (k a) P) : Ok (gl a k) P := h
theorem ok_b {o : Option β} {k : β → Option α} (h : Ok o R) (hk : ∀ x, R x → Ok (k x) P) : Ok (gb o k) P := by
  obtain ⟨x, h1, h2⟩ := h
  obtain ⟨y, h3, h4⟩ := hk x h2
  exact ⟨y, by rw [h1]; exact h3, h4⟩
theorem ok_be {o : Option β} {k : β → Option α} {x : β} (e : o = some x) (hk : Ok (k x) P) : Ok (gb o k) P := by
  obtain ⟨y, h3, h4⟩ := hk
  exact ⟨y, by rw [e]; exact h3, h4⟩
theorem ok_i {c : Prop} [Decidable c] {a b : Option α} (ht : c → Ok a P) (hf : ¬ c → Ok b P) : Ok (if c then a else b) P := by
  by_cases hc : c
  · rw [if_pos hc]; exact ht hc
  · rw [if_neg hc]; exact hf hc
theorem ok_t {c : Prop} [Decidable c] {a b : Option α} (hc : c) (ht : Ok a P) : Ok (if c then a else b) P := by rw [if_pos hc]; exact ht
theorem ok_f {c : Prop} [Decidable c] {a b : Option α} (hc : ¬ c) (hf : Ok b P) : Ok (if c then a else b) P := by rw [if_neg hc]; exact hf
theorem ok_m {o : Option α} {Q : α → Prop} (h : Ok o Q) (hk : ∀ x, Q x → P x) : Ok o P := by
  obtain ⟨x, h1, h2⟩ := h
  exact ⟨x, h1, hk x h2⟩
theorem ok_gn {n : Option α} {k : Nat → Option α} (h : Ok n P) : Ok (go none n k) P := h
theorem ok_gs {n : Option α} {k : Nat → Option α} {a : Nat} (h : Ok (k a) P) : Ok (go (some a) n k) P := h
theorem e_gc {b : Bool} {k : Option α} (hb : b = true) : gc b k = k := if_pos hb
theorem e_gcT {k : Option α} : gc true k = k := rfl
theorem e_gb {o : Option β} {k : β → Option α} {x : β} (e : o = some x) : gb o k = k x := by rw [e]; rfl
theorem e_gl {a : β} {k : β → Option α} : gl a k = k a := rfl
end OKS
/-! numbers: nI is the normal form -/
theorem c_0 : (0 : Int32) = nI 0 := rfl
theorem c_1 : (1 : Int32) = nI 1 := rfl
theorem c_2 : (2 : Int32) = nI 2 := rfl
theorem c_3 : (3 : Int32) = nI 3 := rfl
theorem c_4 : (4 : Int32) = nI 4 := rfl
theorem c_5 : (5 : Int32) = nI 5 := rfl
theorem c_6 : (6 : Int32) = nI 6 := rfl
theorem c_7 : (7 : Int32) = nI 7 := rfl
theorem c_8 : (8 : Int32) = nI 8 := rfl
theorem c_9 : (9 : Int32) = nI 9 := rfl
theorem c_10 : (10 : Int32) = nI 10 := rfl
theorem c_24 : (24 : Int32) = nI 24 := rfl
theorem c_32 : (32 : Int32) = nI 32 := rfl
theorem c_33 : (33 : Int32) = nI 33 := rfl
theorem c_34 : (34 : Int32) = nI 34 := rfl
theorem c_36 : (36 : Int32) = nI 36 := rfl
theorem c_42 : (42 : Int32) = nI 42 := rfl
theorem c_43 : (43 : Int32) = nI 43 := rfl
theorem c_45 : (45 : Int32) = nI 45 := rfl
theorem c_48 : (48 : Int32) = nI 48 := rfl
theorem c_50 : (50 : Int32) = nI 50 := rfl
theorem c_57 : (57 : Int32) = nI 57 := rfl
theorem c_60 : (60 : Int32) = nI 60 := rfl
theorem c_61 : (61 : Int32) = nI 61 := rfl
theorem c_62 : (62 : Int32) = nI 62 := rfl
theorem c_97 : (97 : Int32) = nI 97 := rfl
theorem c_99 : (99 : Int32) = nI 99 := rfl
theorem c_102 : (102 : Int32) = nI 102 := rfl
theorem c_103 : (103 : Int32) = nI 103 := rfl
theorem c_126 : (126 : Int32) = nI 126 := rfl
theorem c_282 : (282 : Int32) = nI 282 := rfl
theorem x_sub {a b : Nat} (h : b ≤ a) : nI a - nI b = nI (a - b) := pk_sub h
theorem x_m1 {a : Nat} (h : 1 ≤ a) : nI a + (-1) = nI (a - 1) := by
  obtain ⟨k, rfl⟩ : ∃ k, a = k + 1 := ⟨a - 1, by omega⟩
  exact pk_m1 k
theorem x_ltT {a b : Nat} (h : a < b) (hb : b < 2147483648) : (nI a < nI b) = True := eq_true (nI_lt h hb)
theorem x_ltF {a b : Nat} (h : b ≤ a) (hb : a < 2147483648) : (nI a < nI b) = False := eq_false (nI_nlt h hb)
theorem x_leT {a b : Nat} (h : a ≤ b) (hb : b < 2147483648) : (nI a ≤ nI b) = True := eq_true (nI_le h hb)
theorem x_leF {a b : Nat} (h : b < a) (hb : a < 2147483648) : (nI a ≤ nI b) = False := eq_false (nI_ge h hb)
theorem x_eqT {a b : Nat} (h : a = b) : (nI a = nI b) = True := eq_true (by rw [h])
theorem x_eqF {a b : Nat} (h : a ≠ b) (ha : a < 2147483648) (hb : b < 2147483648) : (nI a = nI b) = False := eq_false (fun e => h ((nI_eq ha hb).mp e))
theorem x_m1n {a : Nat} (h : a < 2147483648) : (nI a = -1) = False := eq_false (fun e => by
  have h1 := nI_toInt h
  rw [e] at h1
  have h2 : (-1 : Int32).toInt = -1 := rfl
  omega)
theorem x_cl {a : Nat} (h : a < 2147483648) : (nI a).toNatClampNeg = a := nI_clamp h
theorem x_inb {a n : Nat} (h : a < n) (hn : n < 2147483648) : inb (nI a) n = true := by
  refine decide_eq_true ?_
  rw [nI_toInt (by omega)]
  omega
theorem x_bo0 : bo 0 = true := rfl
theorem x_bo1 : bo 1 = true := rfl
theorem x_bon0 : bo (nI 0) = true := rfl
theorem x_bon1 : bo (nI 1) = true := rfl
theorem x_nb0 : vp_nar .boolean 0 = 0 := rfl
theorem x_nb1 : vp_nar .boolean 1 = 1 := rfl
theorem x_nb {b : Int32} (h : bo b = true) : vp_nar .boolean b = b := by
  rcases of_decide_eq_true h with h | h <;> subst h <;> rfl
theorem x_bob {b : Int32} (h : bo b = true) : b = 0 ∨ b = 1 := of_decide_eq_true h
theorem x_cho {n : Nat} (h : n < 65536) : cho (nI n) = true := by
  refine decide_eq_true ?_
  rw [nI_toInt (by omega)]
  omega
theorem x_nc {n : Nat} (h : n < 65536) : vp_nar .char (nI n) = nI n := by
  have h1 := (pk_charN h).1
  unfold vp_nar
  rw [h1]
theorem x_us {f : Nat → Int32} {k : Nat} {x : Int32} : upd f k x k = x := pk_us
theorem x_un {f : Nat → Int32} {k j : Nat} {x : Int32} (h : j ≠ k) : upd f k x j = f j := pk_un h
theorem x_vs {α : Type} {f : Nat → α} {k : Nat} {x : α} : vf_upd f k x k = x := if_pos rfl
theorem x_vn {α : Type} {f : Nat → α} {k j : Nat} {x : α} (h : j ≠ k) : vf_upd f k x j = f j := if_neg h
theorem x_as {α : Type} {f : Nat → α} {k : Nat} {x : α} : va_up f k x k = x := if_pos rfl
theorem x_an {α : Type} {f : Nat → α} {k j : Nat} {x : α} (h : j ≠ k) : va_up f k x j = f j := if_neg h
theorem x_Ls {f : Nat → Int64} {k : Nat} {x : Int64} : vp_updL f k x k = x := if_pos rfl
theorem x_Ln {f : Nat → Int64} {k j : Nat} {x : Int64} (h : j ≠ k) : vp_updL f k x j = f j := if_neg h
theorem e_gbS {α β : Type} {x : β} {k : β → Option α} : gb (some x) k = k x := rfl
theorem e_goS {α : Type} {n : Option α} {k : Nat → Option α} {a : Nat} : go (some a) n k = k a := rfl
theorem e_goN {α : Type} {n : Option α} {k : Nat → Option α} : go none n k = n := rfl
theorem x_s1 {a : Nat} : nI (a + 1) - nI 1 = nI a := by rw [pk_sub (by omega)]; rfl
theorem x_s2 {a : Nat} : nI (a + 2) - nI 2 = nI a := by rw [pk_sub (by omega)]; rfl
theorem x_s21 {a : Nat} : nI (a + 2) - nI 1 = nI (a + 1) := by rw [pk_sub (by omega)]; rfl
theorem nI_inj {a b : Nat} (ha : a < 2147483648) (hb : b < 2147483648) (h : nI a = nI b) : a = b := (nI_eq ha hb).mp h
theorem nI_64 {a b : Nat} (ha : a < 2147483648) (hb : b < 2147483648) : ((nI a).toInt64 < (nI b).toInt64) = (a < b) := by
  rw [Int64.lt_iff_toInt_lt, Int32.toInt_toInt64, Int32.toInt_toInt64, nI_toInt ha, nI_toInt hb]
  exact propext Int.ofNat_lt
