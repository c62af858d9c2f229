/-! TEXTS that the reader takes: a piece after a piece -/
def rl : List Nat → RS → Option RS
  | [], S => some S
  | c :: cs, S => (nx S c).bind (rl cs)
theorem rl_1 {S S' : RS} {c : Nat} (h : nx S c = some S') : rl [c] S = some S' := by
  show (nx S c).bind (rl []) = _
  rw [h]; rfl
theorem rl_c {S S' : RS} {c : Nat} {cs : List Nat} (h : nx S c = some S') : rl (c :: cs) S = rl cs S' := by
  show (nx S c).bind (rl cs) = _
  rw [h]; rfl
theorem rl_cat : ∀ {a b : List Nat} {S S1 S2 : RS}, rl a S = some S1 → rl b S1 = some S2 → rl (a ++ b) S = some S2
  | [], b, S, S1, S2, h, g => by
    cases h
    exact g
  | c :: cs, b, S, S1, S2, h, g => by
    cases hx : nx S c with
    | none =>
      have h : (nx S c).bind (rl cs) = some S1 := h
      rw [hx] at h
      cases h
    | some S' =>
      have h : (nx S c).bind (rl cs) = some S1 := h
      rw [hx] at h
      show (nx S c).bind (rl (cs ++ b)) = some S2
      rw [hx]
      exact rl_cat (a := cs) h g
theorem rd_rl (c : Nat → Nat) : ∀ (l : List Nat) (j : Nat) (S : RS), (∀ i, i < l.length → c (j + i) = l.getD i 0) → (rd c l.length j S).2 = rl l S
  | [], _, _, _ => rfl
  | x :: xs, j, S, h => by
    have h0 : c j = x := h 0 (Nat.succ_pos _)
    have hs : ∀ i, i < xs.length → c (j + 1 + i) = xs.getD i 0 := fun i hi => by
      have := h (i + 1) (Nat.succ_lt_succ hi)
      rw [show j + 1 + i = j + (i + 1) by omega]
      exact this
    show (rd c (xs.length + 1) j S).2 = (nx S x).bind (rl xs)
    cases hx : nx S x with
    | none =>
      rw [rd_none (by rw [h0]; exact hx)]
      rfl
    | some S' =>
      rw [rd_some (S' := S') (by rw [h0]; exact hx), rd_rl c xs (j + 1) S' hs]
      rfl
/-- between two tokens: how many there are at most, how many spoons lie, whether a second digit may follow -/
def MID (nc T d : Nat) (x : Bool) (S : RS) : Prop := S.2.2.2.2.1 = false ∧ S.2.2.2.2.2 = x ∧ dd S = d ∧ S.1 ≤ T ∧ (∀ p, p < S.1 → (S.2.1 p = 0 ∨ S.2.1 p = 7) → S.2.2.1 p < nc) ∧ (x = true → 0 < S.1 ∧ S.2.1 (S.1 - 1) = 1)
section MIDS
variable {nc T d : Nat} {x : Bool} {S : RS}
theorem MID_0 : MID nc 0 0 false rs0 := ⟨rfl, rfl, rfl, Nat.le_refl 0, fun p h => absurd h (Nat.not_lt_zero p), fun h => by cases h⟩
theorem MID_push (h : MID nc T d x S) {q v c : Nat} {b : Bool} (hv : (q = 0 ∨ q = 7) → v < nc) (hb : b = true → q = 1) : MID nc (T + 1) (d - fnd q + ly q) b (push S q v c b) := by
  obtain ⟨h1, h2, h3, h4, h5, h6⟩ := h
  refine ⟨rfl, rfl, by rw [dd_push, h3], Nat.succ_le_succ h4, fun p hp hk => ?_, fun z => ⟨Nat.succ_pos _, ?_⟩⟩
  · have hp' : p < S.1 + 1 := hp
    have hk : va_up S.2.1 S.1 q p = 0 ∨ va_up S.2.1 S.1 q p = 7 := hk
    show va_up S.2.2.1 S.1 v p < nc
    by_cases e : p = S.1
    · subst e
      rw [x_as] at hk ⊢
      exact hv hk
    · rw [x_an e] at hk ⊢
      exact h5 p (by omega) hk
  · show va_up S.2.1 S.1 q (S.1 + 1 - 1) = 1
    rw [Nat.add_sub_cancel, x_as]
    exact hb z
theorem m_let (h : MID nc T d x S) (h5 : d + 1 ≤ 5) (h24 : T + 1 + (d + 1) ≤ 24) {v : Nat} (hv : v < nc) (h6 : nc ≤ 6) : ∃ S', nx S (97 + v) = some S' ∧ MID nc (T + 1) (d + 1) false S' := by
  have hl : ltr (97 + v) = true := inb1.mpr (by omega)
  have hd : ¬ dgt (97 + v) = true := fun z => by have := inb2.mp z; omega
  have hr : rm1 S = true := rm1_iff.mpr (by rw [h.2.2.1]; have := h.2.2.2.1; omega)
  refine ⟨push S 0 (97 + v - 97) (97 + v) false, ?_, ?_⟩
  · unfold nx
    rw [if_neg (by rw [h.1]; decide), if_neg hd, if_pos hl, if_pos hr]
  · have := MID_push h (q := 0) (v := 97 + v - 97) (c := 97 + v) (b := false) (fun _ => by omega) (fun z => by cases z)
    exact this
theorem m_dig1 (h : MID nc T d false S) (h5 : d + 1 ≤ 5) (h24 : T + 1 + (d + 1) ≤ 24) {c : Nat} (hc : 48 ≤ c ∧ c ≤ 57) : ∃ S', nx S c = some S' ∧ MID nc (T + 1) (d + 1) true S' := by
  have hd : dgt c = true := inb2.mpr hc
  have hr : rm1 S = true := rm1_iff.mpr (by rw [h.2.2.1]; have := h.2.2.2.1; omega)
  refine ⟨push S 1 (c - 48) c true, ?_, ?_⟩
  · unfold nx
    rw [if_neg (by rw [h.1]; decide), if_pos hd, if_neg (by rw [h.2.1]; decide), if_pos hr]
  · exact MID_push h (q := 1) (v := c - 48) (c := c) (b := true) (fun z => by omega) (fun _ => rfl)
theorem m_dig2 (h : MID nc T d true S) {c : Nat} (hc : 48 ≤ c ∧ c ≤ 57) : ∃ S', nx S c = some S' ∧ MID nc T d false S' := by
  have hd : dgt c = true := inb2.mpr hc
  obtain ⟨h1, h2, h3, h4, h5, h6⟩ := h
  obtain ⟨g1, g2⟩ := h6 rfl
  refine ⟨(S.1, S.2.1, va_up S.2.2.1 (S.1 - 1) (10 * S.2.2.1 (S.1 - 1) + (c - 48)), S.2.2.2.1, false, false), ?_, rfl, rfl, h3, h4, fun p hp hk => ?_, fun z => by cases z⟩
  · unfold nx
    rw [if_neg (by rw [h1]; decide), if_pos hd, if_pos h2]
  · have hp : p < S.1 := hp
    have hk : S.2.1 p = 0 ∨ S.2.1 p = 7 := hk
    show va_up S.2.2.1 (S.1 - 1) _ p < nc
    by_cases e : p = S.1 - 1
    · rw [e, g2] at hk
      omega
    · rw [x_an e]
      exact h5 p hp hk
theorem m_op (h : MID nc T d x S) (h2 : 2 ≤ d) {c : Nat} (hc : c = 43 ∨ c = 45 ∨ c = 42) : ∃ S', nx S c = some S' ∧ MID nc (T + 1) (d - 1) false S' := by
  have hl : ¬ ltr c = true := fun z => by have := inb1.mp z; omega
  have hd : ¬ dgt c = true := fun z => by have := inb2.mp z; omega
  obtain ⟨o1, o2, o3⟩ := opk_c hc
  refine ⟨push S (opk c) 0 c false, ?_, ?_⟩
  · unfold nx
    rw [if_neg (by rw [h.1]; decide), if_neg hd, if_neg hl, if_pos hc, if_pos (by rw [h.2.2.1]; exact h2)]
  · have := MID_push h (q := opk c) (v := 0) (c := c) (b := false) (fun z => by
      rcases z with z | z
      · rw [z] at o1; exact absurd o1 (by decide)
      · rw [z] at o1; exact absurd o1 (by decide)) (fun z => by cases z)
    rw [o1, o2] at this
    rw [show d - 1 = d - 2 + 1 by omega]
    exact this
theorem m_cast (h : MID nc T d x S) (h1 : 1 ≤ d) (h24 : T + 1 + d ≤ 24) {c : Nat} (hc : c = 126 ∨ c = 33) : ∃ S', nx S c = some S' ∧ MID nc (T + 1) d false S' := by
  have hl : ¬ ltr c = true := fun z => by have := inb1.mp z; omega
  have hd : ¬ dgt c = true := fun z => by have := inb2.mp z; omega
  have hT := h.2.2.2.1
  refine ⟨push S (if c = 126 then 5 else 6) 0 c false, ?_, ?_⟩
  · unfold nx
    rw [if_neg (by rw [h.1]; decide), if_neg hd, if_neg hl, if_neg (show ¬ (c = 43 ∨ c = 45 ∨ c = 42) by omega), if_pos hc, if_pos (by rw [h.2.2.1]; omega)]
  · have := MID_push h (q := if c = 126 then 5 else 6) (v := 0) (c := c) (b := false) (fun z => by split at z <;> omega) (fun z => by cases z)
    have e : d - fnd (if c = 126 then 5 else 6) + ly (if c = 126 then 5 else 6) = d := by
      rcases hc with e | e <;> subst e <;> simp [fnd, ly] <;> omega
    rw [e] at this
    exact this
theorem m_st (h : MID nc T d x S) (h1 : 1 ≤ d) {v : Nat} (hv : v < nc) (h6 : nc ≤ 6) : ∃ S', rl [61, 97 + v] S = some S' ∧ MID nc (T + 1) (d - 1) false S' ∧ 0 < NS S'.2.1 S'.1 := by
  have hl : ltr (97 + v) = true := inb1.mpr (by omega)
  have hm : MID nc T d false (S.1, S.2.1, S.2.2.1, S.2.2.2.1, false, false) := ⟨rfl, rfl, h.2.2.1, h.2.2.2.1, h.2.2.2.2.1, fun z => by cases z⟩
  refine ⟨push (S.1, S.2.1, S.2.2.1, S.2.2.2.1, true, false) 7 (97 + v - 97) 61 false, ?_, ?_, ?_⟩
  · have e1 : nx S 61 = some (S.1, S.2.1, S.2.2.1, S.2.2.2.1, true, false) := by
      unfold nx
      rw [if_neg (by rw [h.1]; decide), if_neg (by decide), if_neg (by decide), if_neg (by decide), if_neg (by decide), if_pos rfl, if_pos (by rw [h.2.2.1]; exact h1)]
    rw [rl_c e1]
    refine rl_1 ?_
    unfold nx
    rw [if_pos rfl, if_pos hl]
  · have := MID_push hm (q := 7) (v := 97 + v - 97) (c := 61) (b := false) (fun _ => by omega) (fun z => by cases z)
    exact this
  · rw [NS_push, if_pos rfl]
    exact Nat.succ_pos _
end MIDS
/-- a number of a store, a letter -/
def dg9 (a : Nat) : List Nat := if a < 10 then [48 + a] else [49, 38 + a]
theorem dgs_12 : ∀ a : Fin 12, dgs (nI a.1) = dg9 a.1 := by decide +kernel
/-- a piece that lays a spoon -/
def UNT (nc : Nat) (t : List Nat) : Prop := ∀ T d S, MID nc T d false S → d + 1 ≤ 5 → T + 1 + (d + 1) ≤ 24 → ∃ S' x, rl t S = some S' ∧ MID nc (T + 1) (d + 1) x S'
/-- also behind a number -/
def UNX (nc : Nat) (t : List Nat) : Prop := ∀ T d x S, MID nc T d x S → d + 1 ≤ 5 → T + 1 + (d + 1) ≤ 24 → ∃ S', rl t S = some S' ∧ MID nc (T + 1) (d + 1) false S'
theorem UNX_let {nc v : Nat} (hv : v < nc) (h6 : nc ≤ 6) : UNX nc [97 + v] := fun T d x S h h5 h24 => by
  obtain ⟨S', e, m⟩ := m_let h h5 h24 hv h6
  exact ⟨S', rl_1 e, m⟩
theorem UNT_let {nc v : Nat} (hv : v < nc) (h6 : nc ≤ 6) : UNT nc [97 + v] := fun T d S h h5 h24 => by
  obtain ⟨S', e, m⟩ := m_let h h5 h24 hv h6
  exact ⟨S', false, rl_1 e, m⟩
theorem UNT_num {nc a : Nat} (ha : a < 12) : UNT nc (dg9 a) := fun T d S h h5 h24 => by
  unfold dg9
  by_cases c : a < 10
  · rw [if_pos c]
    obtain ⟨S', e, m⟩ := m_dig1 h h5 h24 (c := 48 + a) (by omega)
    exact ⟨S', true, rl_1 e, m⟩
  · rw [if_neg c]
    obtain ⟨S1, e1, m1⟩ := m_dig1 h h5 h24 (c := 49) (by omega)
    obtain ⟨S2, e2, m2⟩ := m_dig2 m1 (c := 38 + a) (by omega)
    exact ⟨S2, false, by rw [rl_c e1]; exact rl_1 e2, m2⟩
/-- two pieces, each lays a spoon -/
def PR9 (nc : Nat) (a b : List Nat) : Prop := ∀ T S, MID nc T 0 false S → T + 4 ≤ 24 → ∃ S' x, rl (a ++ b) S = some S' ∧ MID nc (T + 2) 2 x S'
theorem PR_l {nc : Nat} {a b : List Nat} (ha : UNT nc a) (hb : UNX nc b) : PR9 nc a b := fun T S h h24 => by
  obtain ⟨S1, x1, e1, m1⟩ := ha T 0 S h (by omega) (by omega)
  obtain ⟨S2, e2, m2⟩ := hb (T + 1) 1 x1 S1 m1 (by omega) (by omega)
  exact ⟨S2, false, rl_cat e1 e2, m2⟩
theorem PR_r {nc : Nat} {a b : List Nat} (ha : UNX nc a) (hb : UNT nc b) : PR9 nc a b := fun T S h h24 => by
  obtain ⟨S1, e1, m1⟩ := ha T 0 false S h (by omega) (by omega)
  obtain ⟨S2, x2, e2, m2⟩ := hb (T + 1) 1 S1 m1 (by omega) (by omega)
  exact ⟨S2, x2, rl_cat e1 e2, m2⟩
def S7o (t : List Nat) : Prop := ∀ x, x ∈ t → 32 ≤ x ∧ x ≤ 126
theorem S7_app {a b : List Nat} (ha : S7o a) (hb : S7o b) : S7o (a ++ b) := fun x hx => (List.mem_append.mp hx).elim (ha x) (hb x)
theorem S7_1 {c : Nat} (h : 32 ≤ c ∧ c ≤ 126) : S7o [c] := fun x hx => by rw [List.mem_singleton.mp hx]; exact h
theorem S7_num {a : Nat} (ha : a < 12) : S7o (dg9 a) := by
  unfold dg9
  by_cases c : a < 10
  · rw [if_pos c]; exact S7_1 (by omega)
  · rw [if_neg c]
    intro x hx
    simp only [List.mem_cons, List.not_mem_nil, or_false] at hx
    omega
theorem dg9_len (a : Nat) : (dg9 a).length ≤ 2 := by unfold dg9; split <;> simp
/-- a whole store -/
def PCE (nc : Nat) (t : List Nat) : Prop := ∀ T S, MID nc T 0 false S → T ≤ 16 → ∃ S', rl t S = some S' ∧ MID nc (T + 5) 0 false S' ∧ 0 < NS S'.2.1 S'.1
def GT9 (nc : Nat) (t : List Nat) : Prop := t.length ≤ 7 ∧ S7o t ∧ PCE nc t
theorem MID_le {nc T T' d : Nat} {x : Bool} {S : RS} (h : MID nc T d x S) (hT : T ≤ T') : MID nc T' d x S := ⟨h.1, h.2.1, h.2.2.1, Nat.le_trans h.2.2.2.1 hT, h.2.2.2.2⟩
section GTS
variable {nc v : Nat} {a b : List Nat}
theorem gt_op (h6 : nc ≤ 6) (hv : v < nc) (hl : a.length + b.length ≤ 3) (sa : S7o a) (sb : S7o b) (hp : PR9 nc a b) {o : Nat} (ho : o = 43 ∨ o = 45 ∨ o = 42) : GT9 nc (((a ++ b) ++ [o]) ++ [61, 97 + v]) := by
  refine ⟨by simp only [List.length_append, List.length_nil, List.length_cons]; omega, S7_app (S7_app (S7_app sa sb) (S7_1 (by omega))) (S7_app (a := [61]) (S7_1 (by omega)) (S7_1 (by omega))), fun T S h hT => ?_⟩
  obtain ⟨S1, x1, e1, m1⟩ := hp T S h (by omega)
  obtain ⟨S2, e2, m2⟩ := m_op m1 (by omega) ho
  obtain ⟨S3, e3, m3, n3⟩ := m_st m2 (by omega) hv h6
  exact ⟨S3, rl_cat (rl_cat e1 (rl_1 e2)) e3, MID_le m3 (by omega), n3⟩
theorem gt_bop (h6 : nc ≤ 6) (hv : v < nc) (hl : a.length + b.length ≤ 3) (sa : S7o a) (sb : S7o b) (hp : PR9 nc a b) : GT9 nc (((a ++ b) ++ [126, 43]) ++ [61, 97 + v]) := by
  refine ⟨by simp only [List.length_append, List.length_nil, List.length_cons]; omega, S7_app (S7_app (S7_app sa sb) (S7_app (a := [126]) (S7_1 (by omega)) (S7_1 (by omega)))) (S7_app (a := [61]) (S7_1 (by omega)) (S7_1 (by omega))), fun T S h hT => ?_⟩
  obtain ⟨S1, x1, e1, m1⟩ := hp T S h (by omega)
  obtain ⟨S4, e4, m4⟩ := m_cast m1 (by omega) (by omega) (Or.inl rfl)
  obtain ⟨S2, e2, m2⟩ := m_op m4 (by omega) (Or.inl rfl)
  obtain ⟨S3, e3, m3, n3⟩ := m_st m2 (by omega) hv h6
  exact ⟨S3, rl_cat (rl_cat e1 (by rw [rl_c e4]; exact rl_1 e2)) e3, MID_le m3 (by omega), n3⟩
theorem gt_cast (h6 : nc ≤ 6) (hv : v < nc) (hl : a.length ≤ 3) (sa : S7o a) (ha : UNT nc a) {o : Nat} (ho : o = 126 ∨ o = 33) : GT9 nc ((a ++ [o]) ++ [61, 97 + v]) := by
  refine ⟨by simp only [List.length_append, List.length_nil, List.length_cons]; omega, S7_app (S7_app sa (S7_1 (by omega))) (S7_app (a := [61]) (S7_1 (by omega)) (S7_1 (by omega))), fun T S h hT => ?_⟩
  obtain ⟨S1, x1, e1, m1⟩ := ha T 0 S h (by omega) (by omega)
  obtain ⟨S2, e2, m2⟩ := m_cast m1 (by omega) (by omega) ho
  obtain ⟨S3, e3, m3, n3⟩ := m_st m2 (by omega) hv h6
  exact ⟨S3, rl_cat (rl_cat e1 (rl_1 e2)) e3, MID_le m3 (by omega), n3⟩
theorem gt_one (h6 : nc ≤ 6) (hv : v < nc) (hl : a.length ≤ 3) (sa : S7o a) (ha : UNT nc a) : GT9 nc (a ++ [61, 97 + v]) := by
  refine ⟨by simp only [List.length_append, List.length_nil, List.length_cons]; omega, S7_app sa (S7_app (a := [61]) (S7_1 (by omega)) (S7_1 (by omega))), fun T S h hT => ?_⟩
  obtain ⟨S1, x1, e1, m1⟩ := ha T 0 S h (by omega) (by omega)
  obtain ⟨S3, e3, m3, n3⟩ := m_st m1 (by omega) hv h6
  exact ⟨S3, rl_cat e1 e3, MID_le m3 (by omega), n3⟩
theorem okt_rl {t : List Nat} {T : Nat} {S' : RS} (h60 : t.length ≤ 60) (h7 : S7o t) (e : rl t rs0 = some S') (m : MID nc T 0 false S') (n : 0 < NS S'.2.1 S'.1) : OKT nc (tx9 t) := by
  have e1 : (rd (tx9 t).2 (tx9 t).1 0 rs0).2 = some S' := by
    rw [← e]
    exact rd_rl _ t 0 rs0 (fun i _ => by rw [Nat.zero_add]; rfl)
  have e2 : rT (tx9 t) = S' := by
    unfold rT
    rw [e1]
    rfl
  refine ⟨h60, fun j => ?_, by rw [e1, e2], ?_, ?_⟩
  · show t.getD j 0 < 65536
    by_cases hj : j < t.length
    · have := h7 _ (getD_mem hj)
      omega
    · rw [List.getD_eq_getElem?_getD, List.getElem?_eq_none (by omega)]; decide
  · rw [e2]
    exact decide_eq_true ⟨m.1, m.2.2.1, n⟩
  · rw [e2]
    exact m.2.2.2.2.1
theorem okt_1 {t : List Nat} (h : GT9 nc t) : OKT nc (tx9 t) := by
  obtain ⟨S', e, m, n⟩ := h.2.2 0 rs0 MID_0 (by omega)
  exact okt_rl (by have := h.1; omega) h.2.1 e m n
theorem okt_2 (ha : GT9 nc a) (hb : GT9 nc b) : OKT nc (tx9 (a ++ b)) := by
  obtain ⟨S1, e1, m1, n1⟩ := ha.2.2 0 rs0 MID_0 (by omega)
  obtain ⟨S2, e2, m2, n2⟩ := hb.2.2 5 S1 m1 (by omega)
  exact okt_rl (by rw [List.length_append]; have := ha.1; have := hb.1; omega) (S7_app ha.2.1 hb.2.1) (rl_cat e1 e2) m2 n2
end GTS
