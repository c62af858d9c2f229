/-! WRITING a text down: the first letter beyond the cauldrons -/
def LB (k w : Nat → Nat) (nc p : Nat) : Prop := (k p = 0 ∨ k p = 7) ∧ nc ≤ w p
def PBS (T : Nat) (k w : Nat → Nat) (nc : Nat) (r : Option Nat) : Prop := match r with
  | none => ∀ p, p < T → ¬ LB k w nc p
  | some q => q < T ∧ LB k w nc q ∧ ∀ p, p < q → ¬ LB k w nc p
section WR
variable {T : Nat} {k w f : Nat → Nat} {nc : Nat} {ks vs sg nu : Nat → Int32}
theorem l6_pb (hT : T ≤ 24) (hn : nc ≤ 6) (h7 : ∀ p, p < T → k p ≤ 7) (hw : ∀ p, p < T → (k p = 0 ∨ k p = 7) → w p < 6) (hR : ∀ p, p < T → ks p = nI (k p) ∧ vs p = nI (w p)) :
    ∀ (n p : Nat), p ≤ T → T - p < n → (∀ q, q < p → ¬ LB k w nc q) → Ok (g_X6_placeBeyond_b2 (nI T) ks vs (nI nc) n (nI p)) (fun o => ∃ r, PBS T k w nc r ∧ o = fcode r)
  | 0, p, _, h, _ => absurd h (Nat.not_lt_zero _)
  | n + 1, p, hp, hm, hq => by
    unfold g_X6_placeBeyond_b2
    by_cases e : p = T
    · subst e
      exact ok_t (nI_le (Nat.le_refl _) (by omega)) (ok_s ⟨none, hq, rfl⟩)
    · have hp' : p < T := by omega
      obtain ⟨r1, r2⟩ := hR p hp'
      have h7p := h7 p hp'
      have go36 : (k p = 0 ∨ k p = 7) → Ok (g_X6_placeBeyond_b36 (nI T) ks vs (nI nc) (g_X6_placeBeyond_b2 (nI T) ks vs (nI nc) n) (nI p)) (fun o => ∃ r, PBS T k w nc r ∧ o = fcode r) := by
        intro hk
        have hw' := hw p hp' hk
        unfold g_X6_placeBeyond_b36 g_X6_placeBeyond_b48
        refine ok_c (x_inb (by omega) (by omega)) ?_
        rw [x_cl (by omega), r2]
        by_cases g : w p < nc
        · refine ok_t (nI_lt g (by omega)) (ok_l ?_)
          rw [nI_1]
          exact l6_pb hT hn h7 hw hR n (p + 1) (by omega) (by omega) (fun q hq' => by
            by_cases c : q = p
            · rw [c]; exact fun z => absurd z.2 (Nat.not_le.mpr g)
            · exact hq q (by omega))
        · exact ok_f (nI_nlt (by omega) (by omega)) (ok_s ⟨some p, ⟨hp', ⟨hk, by omega⟩, hq⟩, rfl⟩)
      refine ok_f (nI_ge hp' (by omega)) (ok_f (show ¬ (24 : Int32) ≤ nI p from nI_ge (show p < 24 by omega) (show (24 : Nat) < 2147483648 by omega)) (ok_c (x_inb (by omega) (by omega)) ?_))
      rw [x_cl (by omega), r1]
      by_cases e0 : k p = 0
      · exact ok_t (by rw [e0]; rfl) (go36 (Or.inl e0))
      · refine ok_f (fun z => e0 (nI_inj (by omega) (by omega) (show nI (k p) = nI 0 from z))) (ok_c (x_inb (by omega) (by omega)) ?_)
        by_cases e7 : k p = 7
        · exact ok_t (by rw [e7]; rfl) (go36 (Or.inr e7))
        · refine ok_f (fun z => e7 (nI_inj (by omega) (by omega) (show nI (k p) = nI 7 from z))) ?_
          unfold g_X6_placeBeyond_b48
          refine ok_l ?_
          rw [nI_1]
          exact l6_pb hT hn h7 hw hR n (p + 1) (by omega) (by omega) (fun q hq' => by
            by_cases c : q = p
            · rw [c]; exact fun z => z.1.elim e0 e7
            · exact hq q (by omega))
theorem k6_pb (hT : T ≤ 24) (hn : nc ≤ 6) (h7 : ∀ p, p < T → k p ≤ 7) (hw : ∀ p, p < T → (k p = 0 ∨ k p = 7) → w p < 6) (hR : ∀ p, p < T → ks p = nI (k p) ∧ vs p = nI (w p)) : Ok (g_X6_placeBeyond (nI T) ks vs (nI nc)) (fun o => ∃ r, PBS T k w nc r ∧ o = fcode r) := by
  unfold g_X6_placeBeyond
  exact l6_pb hT hn h7 hw hR 100 0 (Nat.zero_le _) (by omega) (fun q z => absurd z (Nat.not_lt_zero q))
theorem PBS_one {r r' : Option Nat} (h : PBS T k w nc r) (h' : PBS T k w nc r') : r = r' := by
  cases r with
  | none => cases r' with
    | none => rfl
    | some q => exact absurd h'.2.1 (h q h'.1)
  | some q => cases r' with
    | none => exact absurd h.2.1 (h' q h.1)
    | some q' =>
      by_cases c : q = q'
      · rw [c]
      · rcases Nat.lt_or_gt_of_ne c with c | c
        · exact absurd h.2.1 (h'.2.2 q c)
        · exact absurd h'.2.1 (h.2.2 q' c)
/-- a text's numbers after it is written down -/
def sWr (s row : Nat → Int32) (i : Nat) (L : Int32) : Nat → Int32 := upd (va_cpy row (upd (upd s (34 + 62 * i) 0) (34 + 62 * i + 1) L) 0 (34 + 62 * i + 2) L.toNatClampNeg) 1 (va_cpy row (upd (upd s (34 + 62 * i) 0) (34 + 62 * i + 1) L) 0 (34 + 62 * i + 2) L.toNatClampNeg 1 + 1)
abbrev WO : Type := Int32 × Int32 × Int32 × Int32 × Int32 × Int32 × (Nat → Int32) × (Nat → Int32) × (Nat → Int32) × (Nat → Int32)
theorem l_doWrite {s row rf : Nat → Int32} {th er : Int32} {L i : Nat} {sp ms : Int32} (hsh : SH T k) (hT : TK T k w f sg nu) (hn : nc ≤ 6) (h0 : s 0 = nI nc) (hi : i < 4) (hL : L ≤ 60) :
    ∀ (n p : Nat), p ≤ T → T - p < n → (∀ q, q < p → ¬ LB k w nc q) → Ok (g_X12_doWrite_b49 th er row s rf (nI L) n nu sg (nI T) sp ms (nI i) (nI p))
      (fun o => ∃ r, PBS T k w nc r ∧ (r = none → o.1 = nI i ∧ o.2.1 = th ∧ o.2.2.1 = er ∧ o.2.2.2.2.2.2.2.2.1 = sWr s row i (nI L) ∧ o.2.2.2.2.2.2.2.2.2 = rf) ∧ ∀ q, r = some q → o.2.1 = nI 2 ∧ o.2.2.1 = er ∧ o.2.2.2.2.2.2.2.2.1 = s ∧ o.2.2.2.2.2.2.2.2.2 = upd (upd (upd (upd rf 0 5) 1 (nI q)) 2 0) 3 0)
  | 0, p, _, h, _ => absurd h (Nat.not_lt_zero _)
  | n + 1, p, hp, hm, hq => by
    have hTT := hsh.1
    unfold g_X12_doWrite_b49
    by_cases e : p = T
    · subst e
      have e1 : (34 + (62 * nI i) : Int32) = nI (34 + 62 * i) := by rw [c_34, c_62, pk_mul, nI_add]
      rw [e1]
      refine ok_t (nI_le (Nat.le_refl _) (by omega)) (ok_l ?_)
      rw [show nI (34 + 62 * i) + 1 = nI (34 + 62 * i + 1) from nI_1 _, show nI (34 + 62 * i) + 2 = nI (34 + 62 * i + 2) from nI_add _ 2]
      refine ok_c (x_inb (by omega) (by omega)) (ok_c (x_inb (by omega) (by omega)) (ok_c ?_ (ok_c rfl (ok_c rfl (ok_s ⟨none, hq, fun _ => ⟨rfl, rfl, rfl, ?_, rfl⟩, fun q z => by cases z⟩)))))
      · refine decide_eq_true ⟨by decide, ?_, ?_, ?_, ?_⟩
        · exact (show ¬ nI (34 + 62 * i + 2) < nI 0 from nI_nlt (Nat.zero_le _) (by omega))
        · exact (show ¬ nI L < nI 0 from nI_nlt (Nat.zero_le _) (by omega))
        · rw [x_cl (by omega)]; show 0 + L ≤ 60; omega
        · rw [x_cl (by omega), x_cl (by omega)]; omega
      · rw [x_cl (by omega), x_cl (by omega), x_cl (by omega)]
        unfold sWr
        rw [x_cl (by omega)]
        rfl
    · have hp' : p < T := by omega
      obtain ⟨hsg, hnu, hF⟩ := hT p hp'
      have hFx := hF
      unfold FSk at hFx
      have h7p := (hsh.2.2 p hp').1
      have go79 : (k p = 0 ∨ k p = 7) → Ok (g_X12_doWrite_b79 th er row s rf (nI L) (g_X12_doWrite_b49 th er row s rf (nI L) n) nu sg (nI T) sp ms (nI i) (nI p)) (fun o => ∃ r, PBS T k w nc r ∧ (r = none → o.1 = nI i ∧ o.2.1 = th ∧ o.2.2.1 = er ∧ o.2.2.2.2.2.2.2.2.1 = sWr s row i (nI L) ∧ o.2.2.2.2.2.2.2.2.2 = rf) ∧ ∀ q, r = some q → o.2.1 = nI 2 ∧ o.2.2.1 = er ∧ o.2.2.2.2.2.2.2.2.1 = s ∧ o.2.2.2.2.2.2.2.2.2 = upd (upd (upd (upd rf 0 5) 1 (nI q)) 2 0) 3 0) := by
        intro hk
        have hw' : w p < 6 := by omega
        have hnu' := hnu (by omega)
        unfold g_X12_doWrite_b79 g_X12_doWrite_b102
        refine ok_c (x_inb (by omega) (by omega)) ?_
        rw [x_cl (by omega), hnu']
        by_cases g : w p < nc
        · refine ok_be (k_X12_isCauldron_in h0 g hn) (ok_f (by decide) (ok_l ?_))
          rw [nI_1]
          exact l_doWrite hsh hT hn h0 hi hL n (p + 1) (by omega) (by omega) (fun q hq' => by
            by_cases c : q = p
            · rw [c]; exact fun z => absurd z.2 (Nat.not_le.mpr g)
            · exact hq q (by omega))
        · refine ok_be (k_X12_isCauldron_out h0 (Or.inr (nI_le (by omega) (by omega))) hn) (ok_t rfl ?_)
          exact ok_s ⟨some p, ⟨hp', ⟨hk, by omega⟩, hq⟩, fun z => (by cases z), fun q z => by cases z; exact ⟨rfl, rfl, rfl, rfl⟩⟩
      refine ok_f (nI_ge hp' (by omega)) (ok_be (kM_letter (by omega) hsg hF) ?_)
      by_cases e0 : k p = 0
      · exact ok_f (by rw [if_pos e0]; decide) (go79 (Or.inl e0))
      · refine ok_t (by rw [if_neg e0]; rfl) (ok_c (x_inb (by omega) (by omega)) ?_)
        rw [x_cl (by omega), hsg]
        by_cases e7 : k p = 7
        · have : f p = 61 := by omega
          exact ok_t (by rw [this]; rfl) (go79 (Or.inr e7))
        · have hne : f p ≠ 61 ∧ f p < 65536 := by omega
          refine ok_f (fun z => hne.1 (nI_inj (by omega) (by omega) (show nI (f p) = nI 61 from z))) ?_
          unfold g_X12_doWrite_b102
          refine ok_l ?_
          rw [nI_1]
          exact l_doWrite hsh hT hn h0 hi hL n (p + 1) (by omega) (by omega) (fun q hq' => by
            by_cases c : q = p
            · rw [c]; exact fun z => z.1.elim e0 e7
            · exact hq q (by omega))
end WR
