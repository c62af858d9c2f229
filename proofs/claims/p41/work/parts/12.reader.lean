/-! READING: character by character -/
def MS (k : Nat → Nat) : Nat → Nat
  | 0 => 0
  | p + 1 => if MS k p < DD k (p + 1) then DD k (p + 1) else MS k p
section RCG
variable {k k' : Nat → Nat}
theorem DD_cg : ∀ p, (∀ q, q < p → k' q = k q) → DD k' p = DD k p
  | 0, _ => rfl
  | p + 1, h => by rw [DD_s, DD_s, DD_cg p (fun q hq => h q (by omega)), h p (by omega)]
theorem SS_cg : ∀ p i, (∀ q, q < p → k' q = k q) → SS k' p i = SS k p i
  | 0, _, _ => rfl
  | p + 1, i, h => by
    show (if k' p ≠ 7 ∧ i + 1 = DD k' (p + 1) then p else SS k' p i) = (if k p ≠ 7 ∧ i + 1 = DD k (p + 1) then p else SS k p i)
    rw [h p (by omega), DD_cg (p + 1) h, SS_cg p i (fun q hq => h q (by omega))]
theorem NS_cg : ∀ p, (∀ q, q < p → k' q = k q) → NS k' p = NS k p
  | 0, _ => rfl
  | p + 1, h => by rw [NS_s, NS_s, NS_cg p (fun q hq => h q (by omega)), h p (by omega)]
theorem MS_cg : ∀ p, (∀ q, q < p → k' q = k q) → MS k' p = MS k p
  | 0, _ => rfl
  | p + 1, h => by
    show (if MS k' p < DD k' (p + 1) then DD k' (p + 1) else MS k' p) = (if MS k p < DD k (p + 1) then DD k (p + 1) else MS k p)
    rw [DD_cg (p + 1) h, MS_cg p (fun q hq => h q (by omega))]
end RCG
theorem up_lt {k : Nat → Nat} {t q : Nat} : ∀ p, p < t → va_up k t q p = k p := fun p hp => x_an (by omega)
theorem MS_le {k : Nat → Nat} : ∀ p, (∀ q, q < p → DD k (q + 1) ≤ 5) → MS k p ≤ 5
  | 0, _ => Nat.zero_le 5
  | p + 1, h => by
    show (if MS k p < DD k (p + 1) then DD k (p + 1) else MS k p) ≤ 5
    have := MS_le p (fun q hq => h q (by omega))
    have := h p (by omega)
    split <;> omega
/-- the reader's rows hold the tokens read so far -/
def RX (t : Nat) (k w f : Nat → Nat) (ks vs fs ps sq ls : Nat → Int32) : Prop :=
  (∀ p, p < t → ks p = nI (k p) ∧ vs p = nI (w p) ∧ fs p = nI (f p) ∧ FSk (k p) (w p) (f p) ∧ fnd (k p) ≤ DD k p ∧ DD k (p + 1) ≤ 5 ∧ (0 < fnd (k p) → ps p = nI (SS k p (DD k p - fnd (k p)))) ∧ (fnd (k p) = 2 → ls p = nI (SS k p (DD k p - 1)))) ∧ (∀ i, i < DD k t → sq i = nI (SS k t i)) ∧ t + DD k t ≤ 24
theorem RX_push {t : Nat} {k w f : Nat → Nat} {ks vs fs ps sq ls ks' vs' fs' ps' sq' ls' : Nat → Int32} (h : RX t k w f ks vs fs ps sq ls) {q v c : Nat} (hF : FSk q v c) (hfd : fnd q ≤ DD k t) (h5 : DD k t - fnd q + ly q ≤ 5) (h24 : t + 1 + (DD k t - fnd q + ly q) ≤ 24)
    (ek : ks' = upd ks t (nI q)) (ev : vs' = upd vs t (nI v)) (ef : fs' = upd fs t (nI c)) (ep : ∀ p, p < t → ps' p = ps p) (ep' : 0 < fnd q → ps' t = sq (DD k t - fnd q)) (el : ∀ p, p < t → ls' p = ls p) (el' : fnd q = 2 → ls' t = sq (DD k t - 1)) (es : ∀ i, i < DD k t - fnd q → sq' i = sq i) (es' : q ≠ 7 → sq' (DD k t - fnd q) = nI t) :
    RX (t + 1) (va_up k t q) (va_up w t v) (va_up f t c) ks' vs' fs' ps' sq' ls' := by
  obtain ⟨h1, h2, h3⟩ := h
  have hD : ∀ p, p ≤ t → DD (va_up k t q) p = DD k p := fun p hp => DD_cg p (fun r hr => up_lt r (by omega))
  have hS : ∀ p i, p ≤ t → SS (va_up k t q) p i = SS k p i := fun p i hp => SS_cg p i (fun r hr => up_lt r (by omega))
  have hD1 : DD (va_up k t q) (t + 1) = DD k t - fnd q + ly q := by rw [DD_s, hD t (Nat.le_refl _), x_as]
  refine ⟨fun p hp => ?_, fun i hi => ?_, by rw [hD1]; omega⟩
  · by_cases e : p = t
    · subst e
      rw [x_as, x_as, x_as, hD p (Nat.le_refl _), hD1, hS p _ (Nat.le_refl _), hS p _ (Nat.le_refl _)]
      refine ⟨by rw [ek]; exact x_us, by rw [ev]; exact x_us, by rw [ef]; exact x_us, hF, hfd, h5, fun z => ?_, fun z => ?_⟩
      · rw [ep' z, h2 _ (by omega)]
      · rw [el' z, h2 _ (by omega)]
    · have hp' : p < t := by omega
      obtain ⟨a1, a2, a3, a4, a5, a6, a7, a8⟩ := h1 p hp'
      rw [x_an e, x_an e, x_an e, hD p (by omega), hD (p + 1) (by omega), hS p _ (by omega), hS p _ (by omega)]
      exact ⟨by rw [ek, x_un e]; exact a1, by rw [ev, x_un e]; exact a2, by rw [ef, x_un e]; exact a3, a4, a5, a6, fun z => by rw [ep p hp']; exact a7 z, fun z => by rw [el p hp']; exact a8 z⟩
  · rw [hD1] at hi
    by_cases c7 : q = 7
    · rw [SS_old (Or.inl (by rw [x_as]; exact c7)), hS t i (Nat.le_refl _)]
      have : ly q = 0 := by rw [c7]; rfl
      rw [es i (by omega)]
      exact h2 i (by omega)
    · have hly : ly q = 1 := if_neg c7
      by_cases e : i = DD k t - fnd q
      · rw [SS_top (by rw [x_as]; exact c7) (by rw [hD1]; omega), e]
        exact es' c7
      · rw [SS_old (Or.inr (by rw [hD1]; omega)), hS t i (Nat.le_refl _), es i (by omega)]
        exact h2 i (by omega)
/-! the class's fitsToken, by how many spoons are found and laid -/
section FT
variable {t ms n q c v : Nat} {fs ks vs ps sq ls : Nat → Int32}
def mx (a b : Nat) : Nat := if a < b then b else a
theorem x_mx {a b : Nat} (ha : a < 2147483648) (hb : b < 2147483648) : (if nI a < nI b then nI b else nI a) = nI (mx a b) := by
  unfold mx
  by_cases h : a < b
  · rw [if_pos (nI_lt h hb), if_pos h]
  · rw [if_neg (nI_nlt (by omega) ha), if_neg h]
theorem ft01 (hm : ms ≤ 5) (h5 : n + 1 ≤ 5) (h24 : t + 1 + (n + 1) ≤ 24) (hc : c < 65536) : g_X6_fitsToken (nI t) (nI ms) (nI n) fs ks vs ps sq ls (nI q) (nI c) (nI v) (nI 0) (nI 1) = some (nI 1, nI (t + 1), nI (mx ms (n + 1)), nI (n + 1), upd fs t (nI c), upd ks t (nI q), upd vs t (nI v), upd ps t (-1), upd sq n (nI t), upd ls t (-1)) := by
  unfold g_X6_fitsToken g_X6_fitsToken_b102 g_X6_fitsToken_b132 g_X6_fitsToken_b151
  simp (disch := omega) only [e_gl, e_gcT, c_0, c_1, c_5, c_24, x_sub, nI_add, Nat.sub_zero, x_ltT, x_ltF, x_leT, x_leF, ↓reduceIte, x_inb, x_cl, x_nc hc, x_s1, x_mx, Nat.add_sub_cancel]
theorem ft01F (h : ¬ (n + 1 ≤ 5 ∧ t + 1 + (n + 1) ≤ 24)) (hn : n ≤ 5) (ht : t ≤ 24) : g_X6_fitsToken (nI t) (nI ms) (nI n) fs ks vs ps sq ls (nI q) (nI c) (nI v) (nI 0) (nI 1) = some (nI 0, nI t, nI ms, nI n, fs, ks, vs, ps, sq, ls) := by
  unfold g_X6_fitsToken
  by_cases h5 : n + 1 ≤ 5
  · simp (disch := omega) only [e_gl, c_0, c_1, c_5, c_24, x_sub, nI_add, Nat.sub_zero, x_ltT, x_ltF, x_leT, x_leF, ↓reduceIte]
  · simp (disch := omega) only [e_gl, c_0, c_1, c_5, c_24, x_sub, nI_add, Nat.sub_zero, x_ltT, x_ltF, x_leT, x_leF, ↓reduceIte]
theorem ft21 (hm : ms ≤ 5) (h5 : n + 2 ≤ 5) (h24 : t + (n + 2) ≤ 24) (hc : c < 65536) : g_X6_fitsToken (nI t) (nI ms) (nI (n + 2)) fs ks vs ps sq ls (nI q) (nI c) (nI v) (nI 2) (nI 1) = some (nI 1, nI (t + 1), nI (mx ms (n + 1)), nI (n + 1), upd fs t (nI c), upd ks t (nI q), upd vs t (nI v), upd ps t (sq n), upd sq n (nI t), upd ls t (sq (n + 1))) := by
  unfold g_X6_fitsToken g_X6_fitsToken_b102 g_X6_fitsToken_b132 g_X6_fitsToken_b151
  simp (disch := omega) only [e_gl, e_gcT, c_0, c_1, c_5, c_24, x_s2, x_s21, nI_add, x_ltT, x_ltF, x_leT, x_leF, ↓reduceIte, x_inb, x_cl, x_nc hc, x_s1, x_mx]
theorem ft21F (h : n < 2) : g_X6_fitsToken (nI t) (nI ms) (nI n) fs ks vs ps sq ls (nI q) (nI c) (nI v) (nI 2) (nI 1) = some (nI 0, nI t, nI ms, nI n, fs, ks, vs, ps, sq, ls) := by
  unfold g_X6_fitsToken
  simp (disch := omega) only [e_gl, c_0, x_ltT, ↓reduceIte]
theorem ft11 (hm : ms ≤ 5) (h5 : n + 1 ≤ 5) (h24 : t + 1 + (n + 1) ≤ 24) (hc : c < 65536) : g_X6_fitsToken (nI t) (nI ms) (nI (n + 1)) fs ks vs ps sq ls (nI q) (nI c) (nI v) (nI 1) (nI 1) = some (nI 1, nI (t + 1), nI (mx ms (n + 1)), nI (n + 1), upd fs t (nI c), upd ks t (nI q), upd vs t (nI v), upd ps t (sq n), upd sq n (nI t), upd ls t (-1)) := by
  unfold g_X6_fitsToken g_X6_fitsToken_b102 g_X6_fitsToken_b132 g_X6_fitsToken_b151
  simp (disch := omega) only [e_gl, e_gcT, c_0, c_1, c_5, c_24, nI_add, x_ltT, x_ltF, x_leT, x_leF, ↓reduceIte, x_inb, x_cl, x_nc hc, x_s1, x_mx]
theorem ft11F (h : n = 0 ∨ 24 < t + 1 + n) (hn : n ≤ 5) (ht : t ≤ 24) : g_X6_fitsToken (nI t) (nI ms) (nI n) fs ks vs ps sq ls (nI q) (nI c) (nI v) (nI 1) (nI 1) = some (nI 0, nI t, nI ms, nI n, fs, ks, vs, ps, sq, ls) := by
  unfold g_X6_fitsToken
  by_cases h5 : n = 0
  · subst h5
    simp (disch := omega) only [e_gl, c_0, x_ltT, ↓reduceIte]
  · obtain ⟨j, rfl⟩ : ∃ j, n = j + 1 := ⟨n - 1, by omega⟩
    simp (disch := omega) only [e_gl, c_0, c_1, c_5, c_24, x_s1, nI_add, x_ltT, x_ltF, x_leT, x_leF, ↓reduceIte]
theorem ft10 (hm : ms ≤ 5) (h5 : n + 1 ≤ 5) (h24 : t + (n + 1) ≤ 24) (hc : c < 65536) : g_X6_fitsToken (nI t) (nI ms) (nI (n + 1)) fs ks vs ps sq ls (nI q) (nI c) (nI v) (nI 1) (nI 0) = some (nI 1, nI (t + 1), nI (mx ms n), nI n, upd fs t (nI c), upd ks t (nI q), upd vs t (nI v), upd ps t (sq n), sq, upd ls t (-1)) := by
  unfold g_X6_fitsToken g_X6_fitsToken_b102 g_X6_fitsToken_b132 g_X6_fitsToken_b151
  simp (disch := omega) only [e_gl, e_gcT, c_0, c_1, c_5, c_24, x_s1, nI_add, Nat.add_zero, x_ltT, x_ltF, x_leT, x_leF, ↓reduceIte, x_inb, x_cl, x_nc hc, x_s1, x_mx]
end FT
