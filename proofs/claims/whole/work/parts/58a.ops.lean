/-! THE CALLS: what the reference keeps and ends, what the histories hold -/
section OPS
theorem cpy_in {α : Type} {f g : Nat → α} {n k : Nat} (h : k < n) : va_cpy f g 0 0 n k = f k := by
  show (if 0 ≤ k ∧ k < 0 + n then f (0 + (k - 0)) else g k) = f k
  rw [if_pos ⟨Nat.zero_le _, by omega⟩, Nat.zero_add, Nat.sub_zero]
theorem AG_cpy {α : Type} (f g : Nat → α) (n : Nat) : AG n (va_cpy f g 0 0 n) f := fun _ hc => cpy_in hc
theorem cp_ok {sp dp n : Nat} {a b : Nat} (h1 : sp + n ≤ a) (h2 : dp + n ≤ b) (ha : a < 2147483648) (hb : b < 2147483648) : cpok (nI sp) (nI dp) (nI n) a b = true := by
  refine decide_eq_true ⟨?_, ?_, ?_, ?_, ?_⟩
  · exact (show ¬ nI sp < nI 0 from nI_nlt (Nat.zero_le _) (by omega))
  · exact (show ¬ nI dp < nI 0 from nI_nlt (Nat.zero_le _) (by omega))
  · exact (show ¬ nI n < nI 0 from nI_nlt (Nat.zero_le _) (by omega))
  · rw [x_cl (by omega), x_cl (by omega)]; exact h1
  · rw [x_cl (by omega), x_cl (by omega)]; exact h2
theorem k_X12_keep (th : Int32) (s be : Nat → Int32) (f beF : Nat → UInt32) : g_X12_keep th s be f beF = some (0, va_cpy s be 0 0 282, va_cpy f beF 0 0 6) := rfl
variable {be s past : Nat → Int32} {beF f pastF : Nat → UInt32} {p1 : Int32}
theorem k_X12_endsF {th pm : Int32} (h : ¬ th ≤ 0) : g_X12_ends pm th past pastF be s beF f p1 = some (0, pm, past, pastF, va_cpy be s 0 0 282, va_cpy beF f 0 0 6) := by
  unfold g_X12_ends
  rw [if_neg h]
  rfl
theorem k_X12_ends93 {ch : Nat} (hc : ch < 6) : g_X12_ends_b93 be s beF f p1 past pastF (nI ch) = some (p1, nI (ch + 1), va_cpy be past 0 (282 * ch) 282, va_cpy beF pastF 0 (6 * ch) 6, s, f) := by
  unfold g_X12_ends_b93
  rw [c_282, pk_mul, c_6, pk_mul, nI_1]
  rw [show (0 : Int32) = nI 0 from rfl, e_gc (cp_ok (by omega) (by omega) (by omega) (by omega)), e_gc (cp_ok (by omega) (by omega) (by omega) (by omega)), e_gl, x_cl (by omega), x_cl (by omega), x_cl (by omega), x_cl (by omega), x_cl (by omega)]
theorem k_X12_ends5 {ch : Nat} (hc : ch < 6) : g_X12_ends (nI ch) 0 past pastF be s beF f p1 = some (p1, nI (ch + 1), va_cpy be past 0 (282 * ch) 282, va_cpy beF pastF 0 (6 * ch) 6, s, f) := by
  unfold g_X12_ends
  rw [if_pos (by decide), if_neg (fun z => by have := nI_inj (by omega) (by omega) (show nI ch = nI 6 from z); omega)]
  exact k_X12_ends93 hc
theorem k_X12_ends6 : g_X12_ends (nI 6) 0 past pastF be s beF f p1 = some (p1, nI 6, va_cpy be (va_cpy past past 282 0 1410) 0 1410 282, va_cpy beF (va_cpy pastF pastF 6 0 30) 0 30 6, s, f) := by
  have := k_X12_ends93 (be := be) (s := s) (beF := beF) (f := f) (p1 := p1) (past := va_cpy past past 282 0 1410) (pastF := va_cpy pastF pastF 6 0 30) (ch := 5) (by decide)
  exact this
/-- the histories: the ring's books, the next one first; the reference's rows, the oldest first -/
def HR (LS : List Nat) (SE : Nat → SV) (Q : Nat → BK) (ch : Nat) (past : Nat → Int32) (pastF : Nat → UInt32) : Prop := ∀ i, i < ch → BR LS SE (Q (6 - ch + i)) (fun j => past (282 * i + j)) (fun j => pastF (6 * i + j))
def rotU (Q : Nat → BK) (q : BK) (r : Nat) : BK := if r = 5 then q else Q (r + 1)
def rotD (Q : Nat → BK) (r : Nat) : BK := if r = 0 then Q 5 else Q (r - 1)
variable {LS : List Nat} {SE : Nat → SV} {Q : Nat → BK} {ch : Nat} {b q : BK}
theorem BR_ag' {b' : BK} {s' : Nat → Int32} {f' : Nat → UInt32} (h : BR LS SE b s f) (hb : BE b' b) (e : AG 282 s' s) (ef : AG 6 f' f) : BR LS SE b' s' f' := by
  obtain ⟨nc, ns, X, h⟩ := h
  exact ⟨nc, ns, X, BR_ag h hb e ef⟩
theorem cpy_at {α : Type} {f g : Nat → α} {sp dp n k : Nat} (h1 : dp ≤ k) (h2 : k < dp + n) : va_cpy f g sp dp n k = f (sp + (k - dp)) := if_pos ⟨h1, h2⟩
theorem cpy_out {α : Type} {f g : Nat → α} {sp dp n k : Nat} (h : k < dp ∨ dp + n ≤ k) : va_cpy f g sp dp n k = g k := if_neg (by omega)
theorem HR_push5 (h : HR LS SE Q ch past pastF) (hc : ch < 6) (hB : BR LS SE b be beF) (hq : BE q b) : HR LS SE (rotU Q q) (ch + 1) (va_cpy be past 0 (282 * ch) 282) (va_cpy beF pastF 0 (6 * ch) 6) := by
  intro i hi
  by_cases e : i = ch
  · have e1 : rotU Q q (6 - (ch + 1) + i) = q := if_pos (by omega)
    rw [e1, e]
    refine BR_ag' hB hq (fun c hc' => ?_) (fun c hc' => ?_)
    · exact (cpy_at (by omega) (by omega)).trans (congrArg be (by omega))
    · exact (cpy_at (by omega) (by omega)).trans (congrArg beF (by omega))
  · have e1 : rotU Q q (6 - (ch + 1) + i) = Q (6 - ch + i) := by
      show (if 6 - (ch + 1) + i = 5 then q else Q (6 - (ch + 1) + i + 1)) = _
      rw [if_neg (by omega)]
      congr 1
      omega
    rw [e1]
    refine BR_ag' (h i (by omega)) (BE_r _) (fun c hc' => ?_) (fun c hc' => ?_)
    · exact cpy_out (Or.inl (by omega))
    · exact cpy_out (Or.inl (by omega))
theorem HR_push6 (h : HR LS SE Q 6 past pastF) (hB : BR LS SE b be beF) (hq : BE q b) : HR LS SE (rotU Q q) 6 (va_cpy be (va_cpy past past 282 0 1410) 0 1410 282) (va_cpy beF (va_cpy pastF pastF 6 0 30) 0 30 6) := by
  have h5 : HR LS SE (fun r => Q (r + 0)) 6 past pastF := h
  intro i hi
  by_cases e : i = 5
  · rw [e]
    refine BR_ag' hB hq (fun c hc' => ?_) (fun c hc' => ?_)
    · exact (cpy_at (by omega) (by omega)).trans (congrArg be (by omega))
    · exact (cpy_at (by omega) (by omega)).trans (congrArg beF (by omega))
  · have e1 : rotU Q q (6 - 6 + i) = Q (6 - 6 + (i + 1)) := by
      show (if 6 - 6 + i = 5 then q else Q (6 - 6 + i + 1)) = _
      rw [if_neg (by omega)]
      rfl
    rw [e1]
    refine BR_ag' (h (i + 1) (by omega)) (BE_r _) (fun c hc' => ?_) (fun c hc' => ?_)
    · rw [cpy_out (Or.inl (by omega)), cpy_at (by omega) (by omega)]
      show past _ = past _
      congr 1
      omega
    · rw [cpy_out (Or.inl (by omega)), cpy_at (by omega) (by omega)]
      show pastF _ = pastF _
      congr 1
      omega
theorem HR_pop (h : HR LS SE Q (ch + 1) past pastF) (hc : ch + 1 ≤ 6) : HR LS SE (rotD Q) ch past pastF := by
  intro i hi
  have e1 : rotD Q (6 - ch + i) = Q (6 - (ch + 1) + i) := by
    show (if 6 - ch + i = 0 then Q 5 else Q (6 - ch + i - 1)) = _
    rw [if_neg (by omega)]
    congr 1
    omega
  rw [e1]
  exact h i (by omega)
/-- why the class refused last, and the reference -/
def RFR (kp rs de hc ca cd : Int32) (rf : Nat → Int32) : Prop := (kp = 0 ∧ rf 0 = 0 ∧ rf 2 = 0) ∨ (kp = 1 ∧ rf 0 = rs ∧ rs ≠ 0 ∧ rf 1 = de ∧ ((hc = 0 ∧ rf 2 = 0) ∨ (hc = 1 ∧ rf 2 = ca ∧ ca ≠ 0 ∧ rf 3 = cd)))
theorem RFR_keep {rs de hc ca cd : Int32} {rf : Nat → Int32} (h : rs ≠ 0) : RFR 1 rs de 0 ca cd (upd (upd (upd (upd rf 0 rs) 1 de) 2 0) 3 0) := by
  refine Or.inr ⟨rfl, ?_, h, ?_, Or.inl ⟨rfl, ?_⟩⟩
  · rw [x_un (by decide), x_un (by decide), x_un (by decide), x_us]
  · rw [x_un (by decide), x_un (by decide), x_us]
  · rw [x_un (by decide), x_us]
theorem k_X12_refuse (th : Int32) (rf : Nat → Int32) (a b c : Int32) : g_X12_refuse th rf a b c = some (0, a, upd (upd (upd (upd rf 0 b) 1 c) 2 0) 3 0) := rfl
theorem k_X12_refuseFor (th : Int32) (rf : Nat → Int32) (a b c d e : Int32) : g_X12_refuseFor th rf a b c d e = some (0, a, upd (upd (upd (upd rf 0 b) 1 c) 2 d) 3 e) := rfl
theorem RFR_keepC {rs de ca cd : Int32} {rf : Nat → Int32} (h : rs ≠ 0) (h2 : ca ≠ 0) : RFR 1 rs de 1 ca cd (upd (upd (upd (upd rf 0 rs) 1 de) 2 ca) 3 cd) := by
  refine Or.inr ⟨rfl, ?_, h, ?_, Or.inr ⟨rfl, ?_, h2, ?_⟩⟩
  · rw [x_un (by decide), x_un (by decide), x_un (by decide), x_us]
  · rw [x_un (by decide), x_un (by decide), x_us]
  · rw [x_un (by decide), x_us]
  · rw [x_us]
end OPS
