/-! READING: what one character more makes of the tokens read so far -/
abbrev RS : Type := Nat × (Nat → Nat) × (Nat → Nat) × (Nat → Nat) × Bool × Bool
def rs0 : RS := (0, fun _ => 0, fun _ => 0, fun _ => 0, false, false)
def push (S : RS) (q v c : Nat) (d : Bool) : RS := (S.1 + 1, va_up S.2.1 S.1 q, va_up S.2.2.1 S.1 v, va_up S.2.2.2.1 S.1 c, false, d)
def dd (S : RS) : Nat := DD S.2.1 S.1
def rm1 (S : RS) : Bool := decide (dd S + 1 ≤ 5 ∧ S.1 + 1 + (dd S + 1) ≤ 24)
def opk (c : Nat) : Nat := if c = 43 then 2 else if c = 45 then 3 else 4
def ltr (c : Nat) : Bool := decide (97 ≤ c ∧ c ≤ 102)
def dgt (c : Nat) : Bool := decide (48 ≤ c ∧ c ≤ 57)
def nx (S : RS) (c : Nat) : Option RS :=
  if S.2.2.2.2.1 = true then (if ltr c = true then some (push S 7 (c - 97) 61 false) else none)
  else if dgt c = true then (if S.2.2.2.2.2 = true then some (S.1, S.2.1, va_up S.2.2.1 (S.1 - 1) (10 * S.2.2.1 (S.1 - 1) + (c - 48)), S.2.2.2.1, false, false) else (if rm1 S = true then some (push S 1 (c - 48) c true) else none))
  else if ltr c = true then (if rm1 S = true then some (push S 0 (c - 97) c false) else none)
  else if c = 43 ∨ c = 45 ∨ c = 42 then (if 2 ≤ dd S then some (push S (opk c) 0 c false) else none)
  else if c = 126 ∨ c = 33 then (if 1 ≤ dd S ∧ S.1 + 1 + dd S ≤ 24 then some (push S (if c = 126 then 5 else 6) 0 c false) else none)
  else if c = 61 then (if 1 ≤ dd S then some (S.1, S.2.1, S.2.2.1, S.2.2.2.1, true, false) else none)
  else none
def bI (b : Bool) : Int32 := if b = true then nI 1 else nI 0
/-- what stands between the tokens: a store waits for its letter, a number for its second digit -/
def RM (S : RS) : Prop := (S.2.2.2.2.1 = true → 1 ≤ dd S ∧ S.2.2.2.2.2 = false) ∧ (S.2.2.2.2.2 = true → 0 < S.1 ∧ S.2.1 (S.1 - 1) = 1 ∧ S.2.2.1 (S.1 - 1) ≤ 9)
/-- the class's reader holds S -/
def XR (S : RS) (tk st ms sp aL aD : Int32) (vs fs ks ps sq ls : Nat → Int32) : Prop :=
  tk = nI S.1 ∧ st = nI (NS S.2.1 S.1) ∧ ms = nI (MS S.2.1 S.1) ∧ sp = nI (dd S) ∧ aL = bI S.2.2.2.2.1 ∧ aD = bI S.2.2.2.2.2 ∧ RX S.1 S.2.1 S.2.2.1 S.2.2.2.1 ks vs fs ps sq ls
theorem dd_push {S : RS} {q v c : Nat} {d : Bool} : dd (push S q v c d) = dd S - fnd q + ly q := by
  show DD (va_up S.2.1 S.1 q) (S.1 + 1) = _
  rw [DD_s, x_as, DD_cg S.1 (fun r hr => up_lt r hr)]
  rfl
theorem NS_push {S : RS} {q v c : Nat} {d : Bool} : NS (push S q v c d).2.1 (push S q v c d).1 = NS S.2.1 S.1 + if q = 7 then 1 else 0 := by
  show NS (va_up S.2.1 S.1 q) (S.1 + 1) = _
  rw [NS_s, x_as, NS_cg S.1 (fun r hr => up_lt r hr)]
theorem MS_push {S : RS} {q v c : Nat} {d : Bool} : MS (push S q v c d).2.1 (push S q v c d).1 = mx (MS S.2.1 S.1) (dd S - fnd q + ly q) := by
  have h : DD (va_up S.2.1 S.1 q) (S.1 + 1) = dd S - fnd q + ly q := dd_push (S := S) (q := q) (v := v) (c := c) (d := d)
  show (if MS (va_up S.2.1 S.1 q) S.1 < DD (va_up S.2.1 S.1 q) (S.1 + 1) then DD (va_up S.2.1 S.1 q) (S.1 + 1) else MS (va_up S.2.1 S.1 q) S.1) = _
  rw [h, MS_cg S.1 (fun r hr => up_lt r hr)]
  rfl
theorem RX_b {t : Nat} {k w f : Nat → Nat} {ks vs fs ps sq ls : Nat → Int32} (h : RX t k w f ks vs fs ps sq ls) : t ≤ 24 ∧ MS k t ≤ 5 ∧ NS k t ≤ t ∧ t + DD k t ≤ 24 ∧ DD k t ≤ 5 := by
  refine ⟨by have := h.2.2; omega, MS_le t (fun q hq => (h.1 q hq).2.2.2.2.2.1), NS_le k t, h.2.2, ?_⟩
  cases t with
  | zero => exact Nat.zero_le 5
  | succ t => exact (h.1 t (Nat.lt_succ_self t)).2.2.2.2.2.1
theorem bo_bI (b : Bool) : bo (bI b) = true := by cases b <;> rfl
/-- a token more -/
theorem XR_push {S : RS} {tk st ms sp aL aD : Int32} {vs fs ks ps sq ls ks' vs' fs' ps' sq' ls' : Nat → Int32} (h : XR S tk st ms sp aL aD vs fs ks ps sq ls) {q v c : Nat} {d : Bool} (hF : FSk q v c) (hfd : fnd q ≤ dd S) (h5 : dd S - fnd q + ly q ≤ 5) (h24 : S.1 + 1 + (dd S - fnd q + ly q) ≤ 24)
    (ek : ks' = upd ks S.1 (nI q)) (ev : vs' = upd vs S.1 (nI v)) (ef : fs' = upd fs S.1 (nI c)) (ep : ∀ p, p < S.1 → ps' p = ps p) (ep' : 0 < fnd q → ps' S.1 = sq (dd S - fnd q)) (el : ∀ p, p < S.1 → ls' p = ls p) (el' : fnd q = 2 → ls' S.1 = sq (dd S - 1)) (es : ∀ i, i < dd S - fnd q → sq' i = sq i) (es' : q ≠ 7 → sq' (dd S - fnd q) = nI S.1) :
    XR (push S q v c d) (nI (S.1 + 1)) (nI (NS S.2.1 S.1 + if q = 7 then 1 else 0)) (nI (mx (MS S.2.1 S.1) (dd S - fnd q + ly q))) (nI (dd S - fnd q + ly q)) (nI 0) (bI d) vs' fs' ks' ps' sq' ls' := by
  refine ⟨rfl, by rw [NS_push], by rw [MS_push], by rw [dd_push], rfl, rfl, ?_⟩
  exact RX_push h.2.2.2.2.2.2 hF hfd h5 h24 ek ev ef ep ep' el el' es es'
theorem k_letter {c : Nat} (hc : c < 65536) : g_X6_isLetter (nI c) = some (bI (ltr c)) := by
  unfold g_X6_isLetter bI ltr
  by_cases h1 : c < 97
  · simp (disch := omega) only [c_97, x_ltT, ↓reduceIte]
    rw [if_neg (by simp; omega)]; rfl
  · by_cases h2 : c ≤ 102
    · simp (disch := omega) only [c_97, c_103, x_ltF, x_leF, ↓reduceIte]
      rw [if_pos (by simp; omega)]; rfl
    · simp (disch := omega) only [c_97, c_103, x_ltF, x_leT, ↓reduceIte]
      rw [if_neg (by simp; omega)]; rfl
abbrev XO : Type := Int32 × Int32 × Int32 × Int32 × Int32 × Int32 × Int32 × (Nat → Int32) × (Nat → Int32) × (Nat → Int32) × (Nat → Int32) × (Nat → Int32) × (Nat → Int32)
def XQ (r : Option RS) (o : XO) : Prop := (r = none → o.1 = nI 0) ∧ ∀ S', r = some S' → o.1 = nI 1 ∧ XR S' o.2.1 o.2.2.1 o.2.2.2.1 o.2.2.2.2.1 o.2.2.2.2.2.1 o.2.2.2.2.2.2.1 o.2.2.2.2.2.2.2.1 o.2.2.2.2.2.2.2.2.1 o.2.2.2.2.2.2.2.2.2.1 o.2.2.2.2.2.2.2.2.2.2.1 o.2.2.2.2.2.2.2.2.2.2.2.1 o.2.2.2.2.2.2.2.2.2.2.2.2
theorem XQ_n {o : XO} (h : o.1 = nI 0) : XQ none o := ⟨fun _ => h, fun _ z => by cases z⟩
theorem XQ_s {S' : RS} {o : XO} (h : o.1 = nI 1) (h2 : XR S' o.2.1 o.2.2.1 o.2.2.2.1 o.2.2.2.2.1 o.2.2.2.2.2.1 o.2.2.2.2.2.2.1 o.2.2.2.2.2.2.2.1 o.2.2.2.2.2.2.2.2.1 o.2.2.2.2.2.2.2.2.2.1 o.2.2.2.2.2.2.2.2.2.2.1 o.2.2.2.2.2.2.2.2.2.2.2.1 o.2.2.2.2.2.2.2.2.2.2.2.2) : XQ (some S') o := ⟨fun z => (by cases z), fun S'' z => by cases z; exact ⟨h, h2⟩⟩
theorem inb1 {c : Nat} : ltr c = true ↔ 97 ≤ c ∧ c ≤ 102 := by unfold ltr; simp
theorem inb2 {c : Nat} : dgt c = true ↔ 48 ≤ c ∧ c ≤ 57 := by unfold dgt; simp
theorem rm1_iff {S : RS} : rm1 S = true ↔ dd S + 1 ≤ 5 ∧ S.1 + 1 + (dd S + 1) ≤ 24 := by unfold rm1; simp
