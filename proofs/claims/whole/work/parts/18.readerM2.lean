/-! READING: the reference's loop over a text -/
def EQM (r : Nat × Option RS) (o : MO) : Prop := o.1 = eR r ∧ ∀ S', r.2 = some S' → o.2.1 = nI (S'.1 + bN S'.2.2.2.2.1) ∧ o.2.2.1 = nI (dd S' - bN S'.2.2.2.2.1) ∧ o.2.2.2.1 = nI (MS S'.2.1 S'.1) ∧ (∀ p, p < S'.1 → o.2.2.2.2.2 p = nI (S'.2.2.2.1 p) ∧ o.2.2.2.2.1 p = nI (S'.2.2.1 p))
theorem dd_NS {S : RS} (h : GS S) (hd : dd S = 0) : (S.1 = 0) ↔ NS S.2.1 S.1 = 0 := by
  constructor
  · intro e; rw [e]; rfl
  · intro e
    obtain ⟨h1, h2, h3⟩ := h
    have hz : ∀ p, NS S.2.1 p = 0 → p ≤ S.1 → 0 < p → 0 < DD S.2.1 p := by
      intro p
      cases p with
      | zero => exact fun _ _ z => absurd z (by decide)
      | succ p =>
        intro hp hps _
        rw [NS_s] at hp
        have h7 : S.2.1 p ≠ 7 := fun z => by rw [if_pos z] at hp; omega
        rw [DD_s]
        have : ly (S.2.1 p) = 1 := if_neg h7
        omega
    rcases Nat.eq_zero_or_pos S.1 with z | z
    · exact z
    · have := hz S.1 e (Nat.le_refl _) z
      have h0 : DD S.2.1 S.1 = 0 := hd
      omega
theorem c16 {c : Nat} (h : c < 65536) : ((nI c).toUInt32 % 65536).toInt32 = nI c := x_nc h
theorem kM_in1 {c : Nat} (h : c < 65536) : g_X12_in (nI c).toInt64 97 102 = some (bI (ltr c)) := by
  rw [in_nI (a := c) (by omega) 97 102 (by omega) (by omega) 97 102 rfl rfl]
  unfold bI ltr
  simp only [decide_eq_true_eq]
theorem kM_in2 {c : Nat} (h : c < 65536) : g_X12_in (nI c).toInt64 48 57 = some (bI (dgt c)) := by
  rw [in_nI (a := c) (by omega) 48 57 (by omega) (by omega) 48 57 rfl rfl]
  unfold bI dgt
  simp only [decide_eq_true_eq]
theorem lR {np off : Nat} {p1 : Nat → Int32} {c : Nat → Nat} (hc : ∀ j, c j < 65536) : ∀ (m F j : Nat) (S : RS) (nu sg : Nat → Int32) (tk sp ms x4 x5 : Int32), m < F → off + (j + m) ≤ np → np < 2147483647 → (∀ i, i < j + m → p1 (off + i) = nI (c i)) → GS S → XM S nu sg tk sp ms x4 x5 →
    Ok (g_X12_reads_b24 np p1 (nI off) (nI (j + m)) F nu sg tk sp ms x4 x5 (nI j)) (EQM (rd c m j S))
  | m, 0, j, S, _, _, _, _, _, _, _, h, _, _, _, _, _ => absurd h (Nat.not_lt_zero m)
  | 0, F + 1, j, S, nu, sg, tk, sp, ms, x4, x5, _, hn, hn', hp, hG, hX => by
    obtain ⟨b1, b2, b3, b4⟩ := GS_b hG
    unfold g_X12_reads_b24
    refine ok_t (nI_le (Nat.le_refl _) (by omega)) ?_
    have hX' := hX
    obtain ⟨e1, e2, e3, e4, e5, e6, e7⟩ := hX'
    have key : ∀ v : Int32, v = (if fin S = true then -1 else nI j) → EQM (rd c 0 j S) (v, tk, sp, ms, nu, sg) := fun v hv => ⟨hv, fun S' z => by cases z; exact ⟨e1, e2, e3, e6⟩⟩
    by_cases hL : S.2.2.2.2.1 = true
    · refine ok_f (by rw [e5, hL]; decide) (ok_s (key _ ?_))
      rw [if_neg (show ¬ fin S = true by unfold fin; rw [hL]; simp)]
      rfl
    · rw [Bool.not_eq_true] at hL
      rw [hL] at e1 e2 e5
      have e1' : tk = nI S.1 := e1
      have e2' : sp = nI (dd S) := e2
      refine ok_t e5 ?_
      by_cases hd : dd S = 0
      · refine ok_f (by rw [e2', hd]; decide) ?_
        by_cases h0 : S.1 = 0
        · refine ok_t (by rw [e1', h0]; rfl) (ok_s (key _ ?_))
          rw [if_neg (show ¬ fin S = true by unfold fin; simp; have := (dd_NS hG hd).mp h0; omega)]
          rfl
        · refine ok_f (by rw [e1']; exact fun z => h0 (nI_inj (by omega) (by omega) (show nI S.1 = nI 0 from z))) (ok_s (key _ ?_))
          have : NS S.2.1 S.1 ≠ 0 := fun z => h0 ((dd_NS hG hd).mpr z)
          rw [if_pos (show fin S = true by unfold fin; rw [hL, hd]; simp; omega)]
      · refine ok_t (by rw [e2']; exact nI_lt (a := 0) (by omega) (by omega)) (ok_s (key _ ?_))
        rw [if_neg (show ¬ fin S = true by unfold fin; simp; omega)]
        rfl
  | m + 1, F + 1, j, S, nu, sg, tk, sp, ms, x4, x5, hm, hn, hn', hp, hG, hX => by
    obtain ⟨b1, b2, b3, b4⟩ := GS_b hG
    have b5 := hG.2.1
    have hj := hc j
    unfold g_X12_reads_b24
    have hN : NXN S (c j) j (EQM (rd c (m + 1) j S)) := fun hx o ho => by
      rw [rd_none hx]
      exact ⟨ho, fun S' z => by cases z⟩
    have hS : NXS S (c j) j (g_X12_reads_b24 np p1 (nI off) (nI (j + (m + 1))) F) (EQM (rd c (m + 1) j S)) := fun S' hx nu' sg' tk' sp' ms' x4' x5' hX' => by
      rw [rd_some hx]
      have := lR (np := np) (off := off) (p1 := p1) hc m F (j + 1) S' nu' sg' tk' sp' ms' x4' x5' (by omega) (by omega) hn' (fun i hi => hp i (by omega)) (GS_nx hG hx) hX'
      rw [show j + 1 + m = j + (m + 1) by omega] at this
      exact this
    refine ok_f (nI_ge (by omega) (by omega)) ?_
    rw [nI_add]
    refine ok_c (x_inb (by omega) (by omega)) (ok_l ?_)
    rw [x_cl (by omega), hp j (by omega), c16 hj]
    refine ok_be (kM_in1 hj) (ok_be (kM_in2 hj) ?_)
    have hX' := hX
    obtain ⟨e1, e2, e3, e4, e5, e6, e7⟩ := hX'
    by_cases hL : S.2.2.2.2.1 = true
    · have m1 := hG.2.2.1 hL
      have hA : S.2.2.2.2.2 = false := m1.2
      rw [hL] at e1 e2 e5
      refine ok_f (by rw [e5]; decide) ?_
      have e1' : tk = nI (S.1 + 1) := e1
      have e2' : sp = nI (dd S - 1) := e2
      have hs : tk - 1 = nI S.1 := by rw [e1']; exact x_s1
      rw [hs]
      refine ok_c (x_inb (by omega) (by omega)) ?_
      rw [x_cl (by omega)]
      by_cases hl : ltr (c j) = true
      · have hl' := inb1.mp hl
        have hnx : nx S (c j) = some (push S 7 (c j - 97) 61 false) := by unfold nx; rw [if_pos hL, if_pos hl]
        refine m295T (by rw [hl]; rfl) (hS _ hnx _ _ _ _ _ _ _ ?_)
        have hsv : nI (c j) - 97 = nI (c j - 97) := pk_sub (b := 97) (by omega)
        rw [hsv, e1', e2', e3, e4, hA]
        refine ⟨rfl, ?_, ?_, rfl, rfl, fun p hp => ?_, fun z => (by cases z)⟩
        · rw [dd_push]; rfl
        · rw [MS_push]
          have : dd S ≤ MS S.2.1 S.1 := by
            show DD S.2.1 S.1 ≤ MS S.2.1 S.1
            cases hS1 : S.1 with
            | zero => exact Nat.zero_le _
            | succ u =>
              show _ ≤ (if MS S.2.1 u < DD S.2.1 (u + 1) then DD S.2.1 (u + 1) else MS S.2.1 u)
              split <;> omega
          unfold mx
          rw [if_neg (by rw [fnd_7]; simp [ly]; omega)]
        · have hp' : p < S.1 + 1 := hp
          show sg p = nI (va_up S.2.2.2.1 S.1 61 p) ∧ upd nu S.1 (nI (c j - 97)) p = nI (va_up S.2.2.1 S.1 (c j - 97) p)
          by_cases e : p = S.1
          · subst e
            rw [x_us, x_as, x_as]
            exact ⟨e7 hL, rfl⟩
          · rw [x_un e, x_an e, x_an e]
            exact e6 p (by omega)
      · have hnx : nx S (c j) = none := by unfold nx; rw [if_pos hL, if_neg hl]
        exact m295F (by rw [Bool.not_eq_true] at hl; rw [hl]; rfl) (hN hnx)
    · rw [Bool.not_eq_true] at hL
      have hL' : ¬ S.2.2.2.2.1 = true := by rw [hL]; exact Bool.false_ne_true
      rw [hL] at e1 e2 e5
      have e1' : tk = nI S.1 := e1
      have e2' : sp = nI (dd S) := e2
      refine ok_t e5 ?_
      rw [e5]
      by_cases hd : dgt (c j) = true
      · have hd' := inb2.mp hd
        refine ok_f (by rw [hd]; decide) ?_
        by_cases hA : S.2.2.2.2.2 = true
        · obtain ⟨m0, m1, m2⟩ := hG.2.2.2 hA
          refine ok_f (by rw [e4, hA]; decide) ?_
          have hnx : nx S (c j) = some (S.1, S.2.1, va_up S.2.2.1 (S.1 - 1) (10 * S.2.2.1 (S.1 - 1) + (c j - 48)), S.2.2.2.1, false, false) := by
            unfold nx
            rw [if_neg hL', if_pos hd, if_pos hA]
          have hs : tk - 1 = nI (S.1 - 1) := by rw [e1']; exact pk_sub (b := 1) (by omega)
          rw [hs]
          refine ok_c (x_inb (by omega) (by omega)) (ok_c (x_inb (by omega) (by omega)) ?_)
          rw [x_cl (by omega)]
          refine m295T rfl (hS _ hnx _ _ _ _ _ _ _ ?_)
          have hv : ((10 * nu (S.1 - 1)) + nI (c j)) - 48 = nI (10 * S.2.2.1 (S.1 - 1) + (c j - 48)) := by
            rw [(e6 (S.1 - 1) (by omega)).2, c_10, pk_mul, nI_add, c_48, pk_sub (by omega)]
            congr 1; omega
          rw [hv]
          refine ⟨e1', e2', e3, rfl, rfl, fun p hp => ?_, fun z => (by cases z)⟩
          have hp' : p < S.1 := hp
          show sg p = nI (S.2.2.2.1 p) ∧ upd nu (S.1 - 1) (nI (10 * S.2.2.1 (S.1 - 1) + (c j - 48))) p = nI (va_up S.2.2.1 (S.1 - 1) (10 * S.2.2.1 (S.1 - 1) + (c j - 48)) p)
          by_cases e : p = S.1 - 1
          · rw [e, x_us, x_as]
            exact ⟨(e6 (S.1 - 1) (by omega)).1, rfl⟩
          · rw [x_un e, x_an e]
            exact e6 p hp'
        · rw [Bool.not_eq_true] at hA
          refine ok_t (by rw [e4, hA]; rfl) ?_
          exact m148 hG hX hL (fun _ => hA) hj hN hS
      · refine ok_t (by rw [Bool.not_eq_true] at hd; rw [hd]; rfl) ?_
        exact m148 hG hX hL (fun z => absurd z hd) hj hN hS
theorem k_X12_reads {np off L : Nat} {p1 : Nat → Int32} {c : Nat → Nat} (hc : ∀ j, c j < 65536) (hL : off + L ≤ np) (hL' : L < 100) (hn : np < 2147483647) (hp : ∀ i, i < L → p1 (off + i) = nI (c i)) (tk sp ms : Int32) (nu sg : Nat → Int32) :
    Ok (g_X12_reads np tk sp ms p1 nu sg (nI off) (nI L)) (EQM (rd c L 0 rs0)) := by
  unfold g_X12_reads
  have := lR (np := np) (off := off) (p1 := p1) hc L 100 0 rs0 nu sg 0 0 0 0 0 hL' (by omega) hn (fun i hi => hp i (by omega)) GS_0 ⟨rfl, rfl, rfl, rfl, rfl, fun p hp => absurd hp (Nat.not_lt_zero p), fun z => (by cases z)⟩
  rw [Nat.zero_add] at this
  exact this
