/-! READING: the reference's reader takes a character as nx says -/
section RDM
variable {t n n' ms c : Nat} {sg nu : Nat → Int32}
theorem ad_T {v fd pt : Int32} (h1 : ¬ nI n < fd) (h2 : nI n + pt = nI n') (h3 : n' ≤ 5) (h4 : t + 1 + n' ≤ 24) (h5 : nI (t + 1 + n) + pt = nI (t + 1 + n')) (hm : ms ≤ 5) (hc : c < 65536) :
    g_X12_adds (nI t) (nI n) (nI ms) sg nu (nI c) v fd pt = some (nI 1, nI (t + 1), nI n', nI (mx ms n'), upd sg t (nI c), upd nu t v) := by
  unfold g_X12_adds g_X12_adds_b43 g_X12_adds_b80 g_X12_adds_b100
  rw [if_neg h1]
  simp (disch := omega) only [e_gl, e_gcT, c_0, c_1, c_5, c_24, nI_add, h2, h5, x_ltT, x_ltF, x_leT, x_leF, x_eqF, ↓reduceIte, x_inb, x_cl, x_nc hc, x_mx, x_bon1]
theorem ad_F {v fd pt : Int32} (h : nI n < fd ∨ 5 < nI n + pt ∨ 24 < nI (t + 1 + n) + pt) (ht : t < 60) (hc : c < 65536) :
    Ok (g_X12_adds (nI t) (nI n) (nI ms) sg nu (nI c) v fd pt) (fun o => o.1 = nI 0) := by
  have e : Ok (g_X12_adds_b42 (nI t) (nI n) (nI ms) sg nu (nI c) v pt) (fun o => o.1 = nI 0) := by
    unfold g_X12_adds_b42 g_X12_adds_b43 g_X12_adds_b80 g_X12_adds_b100
    exact ok_c (x_inb ht (by omega)) (ok_c (x_inb ht (by omega)) (ok_t rfl (ok_l (ok_t rfl (ok_l (ok_l (ok_c rfl (ok_s rfl))))))))
  unfold g_X12_adds
  rw [c_1, nI_add, nI_add]
  refine ok_i (fun _ => e) (fun h1 => ok_i (fun _ => e) (fun h2 => ok_i (fun _ => e) (fun h3 => ?_)))
  rcases h with h | h | h
  · exact absurd h h1
  · exact absurd h h2
  · exact absurd h h3
end RDM
def bN (b : Bool) : Nat := if b = true then 1 else 0
def XM (S : RS) (nu sg : Nat → Int32) (tk sp ms x4 x5 : Int32) : Prop :=
  tk = nI (S.1 + bN S.2.2.2.2.1) ∧ sp = nI (dd S - bN S.2.2.2.2.1) ∧ ms = nI (MS S.2.1 S.1) ∧ x4 = bI S.2.2.2.2.2 ∧ x5 = bI S.2.2.2.2.1 ∧ (∀ p, p < S.1 → sg p = nI (S.2.2.2.1 p) ∧ nu p = nI (S.2.2.1 p)) ∧ (S.2.2.2.2.1 = true → sg S.1 = nI 61)
abbrev MO : Type := Int32 × Int32 × Int32 × Int32 × (Nat → Int32) × (Nat → Int32)
abbrev MK : Type := (Nat → Int32) → (Nat → Int32) → Int32 → Int32 → Int32 → Int32 → Int32 → Int32 → Option MO
section RDM2
variable {np : Nat} {p1 : Nat → Int32} {p2 p3 : Int32} {K : MK} {P : MO → Prop} {nu sg : Nat → Int32} {tk sp ms x4 x5 x7 x8 x9 : Int32} {j c : Nat} {S : RS}
theorem m295F {x10 : Int32} (h0 : x10 = nI 0) (h : ∀ o : MO, o.1 = nI j → P o) : Ok (g_X12_reads_b295 np p1 p2 p3 K nu sg tk sp ms x10 x4 x5 (nI j)) P := by
  unfold g_X12_reads_b295
  exact ok_t h0 (ok_s (h _ rfl))
theorem m295T {x10 : Int32} (h1 : x10 = nI 1) (h : Ok (K nu sg tk sp ms x4 x5 (nI (j + 1))) P) : Ok (g_X12_reads_b295 np p1 p2 p3 K nu sg tk sp ms x10 x4 x5 (nI j)) P := by
  unfold g_X12_reads_b295
  refine ok_f (by rw [h1]; decide) (ok_l ?_)
  rw [show nI j + 1 = nI (j + 1) from nI_add _ 1]
  exact h
theorem m276F {x10 : Int32} (h0 : x10 = nI 0) (h : ∀ o : MO, o.1 = nI j → P o) : Ok (g_X12_reads_b276 np p1 p2 p3 K nu sg tk sp ms (nI j) x7 x10) P := by
  unfold g_X12_reads_b276 g_X12_reads_b293
  exact ok_i (fun _ => m295F h0 h) (fun _ => m295F h0 h)
theorem m276N {x10 : Int32} (h1 : x10 = nI 1) (hc : c < 65536) (h61 : c ≠ 61) (h : Ok (K nu sg tk sp ms (nI 0) (nI 0) (nI (j + 1))) P) : Ok (g_X12_reads_b276 np p1 p2 p3 K nu sg tk sp ms (nI j) (nI c) x10) P := by
  unfold g_X12_reads_b276 g_X12_reads_b293
  exact ok_f (fun z => h61 (nI_inj (by omega) (by omega) (show nI c = nI 61 from z))) (m295T h1 h)
theorem m276Y {x10 : Int32} (h1 : x10 = nI 1) (h : Ok (K nu sg tk sp ms (nI 0) (nI 1) (nI (j + 1))) P) : Ok (g_X12_reads_b276 np p1 p2 p3 K nu sg tk sp ms (nI j) (nI 61) x10) P := by
  unfold g_X12_reads_b276 g_X12_reads_b293
  exact ok_t rfl (m295T h1 h)
/-- a token more -/
theorem XM_push {q v c : Nat} {d : Bool} (h : XM S nu sg tk sp ms x4 x5) (hL : S.2.2.2.2.1 = false) {m n : Nat} (hm : m = mx (MS S.2.1 S.1) (dd S - fnd q + ly q)) (hn : n = dd S - fnd q + ly q) : XM (push S q v c d) (upd nu S.1 (nI v)) (upd sg S.1 (nI c)) (nI (S.1 + 1)) (nI n) (nI m) (bI d) (nI 0) := by
  obtain ⟨h1, h2, h3, h4, h5, h6, h7⟩ := h
  refine ⟨rfl, ?_, ?_, rfl, rfl, fun p hp => ?_, fun z => (by cases z)⟩
  · rw [dd_push, hn]; rfl
  · rw [MS_push, hm]
  · have hp' : p < S.1 + 1 := hp
    show upd sg S.1 (nI c) p = nI (va_up S.2.2.2.1 S.1 c p) ∧ upd nu S.1 (nI v) p = nI (va_up S.2.2.1 S.1 v p)
    by_cases e : p = S.1
    · subst e
      rw [x_us, x_us, x_as, x_as]
      exact ⟨rfl, rfl⟩
    · rw [x_un e, x_un e, x_an e, x_an e]
      exact h6 p (by omega)
abbrev NXN (S : RS) (c j : Nat) (P : MO → Prop) : Prop := nx S c = none → ∀ o : MO, o.1 = nI j → P o
abbrev NXS (S : RS) (c j : Nat) (K : MK) (P : MO → Prop) : Prop := ∀ S', nx S c = some S' → ∀ nu sg tk sp ms x4 x5, XM S' nu sg tk sp ms x4 x5 → Ok (K nu sg tk sp ms x4 x5 (nI (j + 1))) P
theorem m158 (hG : GS S) (hX : XM S nu sg tk sp ms x4 x5) (hL : S.2.2.2.2.1 = false) (hc : c < 65536) (hN : NXN S c j P) (hS : NXS S c j K P) {q v : Nat} {d : Bool} {sv x9 : Int32} (hq : q ≤ 1) (hsv : sv = nI v) (h9 : x9 = bI d)
    (hnx : nx S c = if rm1 S = true then some (push S q v c d) else none) : Ok (g_X12_reads_b179 np p1 p2 p3 K nu sg tk sp ms (nI 0) (nI j) x9 (nI c) sv) P := by
  obtain ⟨b1, b2, b3, b4⟩ := GS_b hG
  have hX' := hX
  obtain ⟨h1, h2, h3, h4, h5, h6, h7⟩ := hX'
  have hf : fnd q = 0 ∧ ly q = 1 := by rcases (show q = 0 ∨ q = 1 by omega) with e | e <;> subst e <;> exact ⟨rfl, rfl⟩
  rw [hL] at h1 h2
  have h1' : tk = nI S.1 := h1
  have h2' : sp = nI (dd S) := h2
  unfold g_X12_reads_b179
  subst h1' h2' h3 hsv h9
  by_cases hr : rm1 S = true
  · obtain ⟨r1, r2⟩ := rm1_iff.mp hr
    rw [if_pos hr] at hnx
    refine ok_be (ad_T (n' := dd S + 1) (nI_nlt (Nat.zero_le _) (by omega)) (nI_add _ 1) r1 r2 (nI_add _ 1) b3 hc) (m295T rfl ?_)
    exact hS _ hnx _ _ _ _ _ _ _ (XM_push hX hL (by rw [hf.1, hf.2]; rfl) (by rw [hf.1, hf.2]; rfl))
  · rw [if_neg hr] at hnx
    have : ¬ (dd S + 1 ≤ 5 ∧ S.1 + 1 + (dd S + 1) ≤ 24) := fun z => hr (rm1_iff.mpr z)
    refine ok_b (ad_F ?_ (by omega) hc) (fun o ho => m295F ho (hN hnx))
    by_cases g : dd S + 1 ≤ 5
    · refine Or.inr (Or.inr ?_)
      rw [c_1, nI_add, c_24]
      exact nI_lt (by omega) (by omega)
    · refine Or.inr (Or.inl ?_)
      rw [c_1, nI_add, c_5]
      exact nI_lt (by omega) (by omega)
theorem m214 (hG : GS S) (hX : XM S nu sg tk sp ms x4 x5) (hL : S.2.2.2.2.1 = false) (hc : c < 65536) (h61 : c ≠ 61) (hN : NXN S c j P) (hS : NXS S c j K P) {q : Nat} (hf : fnd q = 2) (hl : ly q = 1)
    (hnx : nx S c = if 2 ≤ dd S then some (push S q 0 c false) else none) : Ok (g_X12_reads_b214 np p1 p2 p3 K nu sg tk sp ms (nI j) (nI c)) P := by
  obtain ⟨b1, b2, b3, b4⟩ := GS_b hG
  have b5 := hG.2.1
  have hX' := hX
  obtain ⟨h1, h2, h3, h4, h5, h6, h7⟩ := hX'
  rw [hL] at h1 h2
  have h1' : tk = nI S.1 := h1
  have h2' : sp = nI (dd S) := h2
  unfold g_X12_reads_b214
  subst h1' h2' h3
  by_cases hr : 2 ≤ dd S
  · rw [if_pos hr] at hnx
    refine ok_be (ad_T (n' := dd S - 1) (nI_nlt (b := 2) hr (by omega)) (x_m1 (by omega)) (by omega) (by omega) (by rw [x_m1 (by omega)]; congr 1; omega) b3 hc) (m276N rfl hc h61 ?_)
    exact hS _ hnx _ _ _ _ _ _ _ (XM_push hX hL (by rw [hf, hl]; congr 1; omega) (by rw [hf, hl]; omega))
  · rw [if_neg hr] at hnx
    exact ok_b (ad_F (Or.inl (nI_lt (b := 2) (by omega) (by omega))) (by omega) hc) (fun o ho => m276F ho (hN hnx))
theorem m259 (hG : GS S) (hX : XM S nu sg tk sp ms x4 x5) (hL : S.2.2.2.2.1 = false) (hc : c < 65536) (h61 : c ≠ 61) (hN : NXN S c j P) (hS : NXS S c j K P) {q : Nat} (hf : fnd q = 1) (hl : ly q = 1)
    (hnx : nx S c = if 1 ≤ dd S ∧ S.1 + 1 + dd S ≤ 24 then some (push S q 0 c false) else none) : Ok (g_X12_reads_b259 np p1 p2 p3 K nu sg tk sp ms (nI j) (nI c)) P := by
  obtain ⟨b1, b2, b3, b4⟩ := GS_b hG
  have b5 := hG.2.1
  have hX' := hX
  obtain ⟨h1, h2, h3, h4, h5, h6, h7⟩ := hX'
  rw [hL] at h1 h2
  have h1' : tk = nI S.1 := h1
  have h2' : sp = nI (dd S) := h2
  unfold g_X12_reads_b259 g_X12_reads_b275
  subst h1' h2' h3
  by_cases hr : 1 ≤ dd S ∧ S.1 + 1 + dd S ≤ 24
  · rw [if_pos hr] at hnx
    refine ok_be (ad_T (n' := dd S) (nI_nlt (b := 1) hr.1 (by omega)) (nI_add _ 0) b2 hr.2 (nI_add _ 0) b3 hc) (ok_f (show ¬ nI 1 = 0 by decide) (m276N rfl hc h61 ?_))
    exact hS _ hnx _ _ _ _ _ _ _ (XM_push hX hL (by rw [hf, hl]; congr 1; omega) (by rw [hf, hl]; omega))
  · rw [if_neg hr] at hnx
    refine ok_b (ad_F ?_ (by omega) hc) (fun o ho => ok_t ho (m276F rfl (hN hnx)))
    by_cases g : 1 ≤ dd S
    · refine Or.inr (Or.inr ?_)
      rw [c_0, nI_add, c_24]
      exact nI_lt (by omega) (by omega)
    · exact Or.inl (nI_lt (b := 1) (by omega) (by omega))
theorem m148 (hG : GS S) (hX : XM S nu sg tk sp ms x4 x5) (hL : S.2.2.2.2.1 = false) (hA : dgt c = true → S.2.2.2.2.2 = false) (hc : c < 65536) (hN : NXN S c j P) (hS : NXS S c j K P) :
    Ok (g_X12_reads_b148 np p1 p2 p3 K nu sg tk sp ms (nI 0) (nI j) (nI c) (bI (ltr c)) (bI (dgt c))) P := by
  obtain ⟨b1, b2, b3, b4⟩ := GS_b hG
  have b5 := hG.2.1
  have hL' : ¬ S.2.2.2.2.1 = true := by rw [hL]; exact Bool.false_ne_true
  have ne : ∀ i : Nat, i < 65536 → c ≠ i → ¬ nI c = nI i := fun i hi hne z => hne (nI_inj (by omega) (by omega) z)
  unfold g_X12_reads_b148
  by_cases hl : ltr c = true
  · have hl' := inb1.mp hl
    have hd : ¬ dgt c = true := fun z => by have := inb2.mp z; omega
    refine ok_f (by rw [hl]; decide) ?_
    unfold g_X12_reads_b158
    refine ok_f (by rw [hl]; decide) ?_
    refine m158 (q := 0) (v := c - 97) (d := false) hG hX hL hc hN hS (by omega) (pk_sub (b := 97) (by omega)) (by rw [Bool.not_eq_true] at hd; rw [hd]) ?_
    unfold nx
    rw [if_neg hL', if_neg hd, if_pos hl]
  · have hl0 : bI (ltr c) = nI 0 := by rw [Bool.not_eq_true] at hl; rw [hl]; rfl
    refine ok_t hl0 ?_
    by_cases hd : dgt c = true
    · have hd' := inb2.mp hd
      refine ok_f (by rw [hd]; decide) ?_
      unfold g_X12_reads_b158
      refine ok_t hl0 ?_
      refine m158 (q := 1) (v := c - 48) (d := true) hG hX hL hc hN hS (by omega) (pk_sub (b := 48) (by omega)) (by rw [hd]) ?_
      unfold nx
      rw [if_neg hL', if_pos hd, if_neg (by rw [hA hd]; exact Bool.false_ne_true)]
    · have hd0 : bI (dgt c) = nI 0 := by rw [Bool.not_eq_true] at hd; rw [hd]; rfl
      refine ok_t hd0 ?_
      have hnx : nx S c = if c = 43 ∨ c = 45 ∨ c = 42 then (if 2 ≤ dd S then some (push S (opk c) 0 c false) else none) else if c = 126 ∨ c = 33 then (if 1 ≤ dd S ∧ S.1 + 1 + dd S ≤ 24 then some (push S (if c = 126 then 5 else 6) 0 c false) else none) else if c = 61 then (if 1 ≤ dd S then some (S.1, S.2.1, S.2.2.1, S.2.2.2.1, true, false) else none) else none := by
        unfold nx
        rw [if_neg hL', if_neg hd, if_neg hl]
      by_cases ho : c = 43 ∨ c = 45 ∨ c = 42
      · obtain ⟨o1, o2, _⟩ := opk_c ho
        rw [if_pos ho] at hnx
        have key : Ok (g_X12_reads_b214 np p1 p2 p3 K nu sg tk sp ms (nI j) (nI c)) P := m214 hG hX hL hc (by omega) hN hS o1 o2 hnx
        rcases ho with e | e | e
        · exact ok_t (by rw [e]; rfl) key
        · exact ok_f (ne 43 (by omega) (by omega)) (ok_t (by rw [e]; rfl) key)
        · exact ok_f (ne 43 (by omega) (by omega)) (ok_f (ne 45 (by omega) (by omega)) (ok_t (by rw [e]; rfl) key))
      · rw [if_neg ho] at hnx
        refine ok_f (ne 43 (by omega) (by omega)) (ok_f (ne 45 (by omega) (by omega)) (ok_f (ne 42 (by omega) (by omega)) ?_))
        by_cases h61 : c = 61
        · rw [if_neg (show ¬ (c = 126 ∨ c = 33) by omega), if_pos h61] at hnx
          refine ok_t (by rw [h61]; rfl) ?_
          have hX' := hX
          obtain ⟨h1, h2, h3, h4, h5, h6, h7⟩ := hX'
          rw [hL] at h1 h2
          have h1' : tk = nI S.1 := h1
          have h2' : sp = nI (dd S) := h2
          rw [h1', h2', h3]
          by_cases hr : 1 ≤ dd S
          · rw [if_pos hr] at hnx
            refine ok_be (ad_T (n' := dd S - 1) (nI_nlt (b := 1) hr (by omega)) (x_m1 (by omega)) (by omega) (by omega) (by rw [x_m1 (by omega)]; congr 1; omega) b3 hc) ?_
            rw [h61] at hnx ⊢
            refine m276Y rfl (hS _ (by rw [h61]; exact hnx) _ _ _ _ _ _ _ ?_)
            refine ⟨rfl, rfl, ?_, rfl, rfl, fun p hp => ?_, fun _ => x_us⟩
            · show nI (mx (MS S.2.1 S.1) (dd S - 1)) = nI (MS S.2.1 S.1)
              congr 1
              unfold mx
              have : dd S ≤ MS S.2.1 S.1 := by
                show DD S.2.1 S.1 ≤ MS S.2.1 S.1
                cases hS1 : S.1 with
                | zero => exact Nat.zero_le _
                | succ u =>
                  show _ ≤ (if MS S.2.1 u < DD S.2.1 (u + 1) then DD S.2.1 (u + 1) else MS S.2.1 u)
                  split <;> omega
              rw [if_neg (by omega)]
            · have hp' : p < S.1 := hp
              show upd sg S.1 (nI 61) p = _ ∧ upd nu S.1 0 p = _
              rw [x_un (by omega), x_un (by omega)]
              exact h6 p hp'
          · rw [if_neg hr] at hnx
            exact ok_b (ad_F (Or.inl (nI_lt (b := 1) (by omega) (by omega))) (by omega) hc) (fun o ho => m276F ho (hN hnx))
        · refine ok_f (ne 61 (by omega) h61) ?_
          by_cases hu : c = 126 ∨ c = 33
          · rw [if_pos hu] at hnx
            have key : Ok (g_X12_reads_b259 np p1 p2 p3 K nu sg tk sp ms (nI j) (nI c)) P := by
              refine m259 (q := if c = 126 then 5 else 6) hG hX hL hc h61 hN hS ?_ ?_ hnx <;> split <;> rfl
            rcases hu with e | e
            · exact ok_t (by rw [e]; rfl) key
            · exact ok_f (ne 126 (by omega) (by omega)) (ok_t (by rw [e]; rfl) key)
          · rw [if_neg hu, if_neg h61] at hnx
            unfold g_X12_reads_b275
            exact ok_f (ne 126 (by omega) (by omega)) (ok_f (ne 33 (by omega) (by omega)) (m276F rfl (hN hnx)))
end RDM2
