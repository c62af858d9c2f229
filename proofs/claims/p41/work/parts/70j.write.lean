/-! THE LAW's write, cell -/
theorem tk_s : ∀ (t : List Nat) (i : Nat), i < t.length → t.take (i + 1) = t.take i ++ [t.getD i 0]
  | [], i, h => absurd h (Nat.not_lt_zero i)
  | x :: xs, 0, _ => rfl
  | x :: xs, i + 1, h => by
    show x :: xs.take (i + 1) = x :: (xs.take i ++ [xs.getD i 0])
    rw [tk_s xs i (Nat.lt_of_succ_lt_succ h)]
theorem tk_len {t : List Nat} {i : Nat} (h : i ≤ t.length) : (t.take i).length = i := by
  rw [List.length_take]
  omega
theorem getD_mem9 {t : List Nat} {i : Nat} (h : i < t.length) : t.getD i 0 ∈ t := getD_mem h
/-- book and books before are the same -/
def SAME9 (σ σ' : AB) : Prop := σ'.1 = σ.1 ∧ σ'.2.1 = σ.2.1 ∧ σ'.2.2.1 = σ.2.2.1
theorem SAME9.rf {σ : AB} : SAME9 σ σ := ⟨rfl, rfl, rfl⟩
theorem SAME9.tr {σ σ' σ'' : AB} (h : SAME9 σ σ') (g : SAME9 σ' σ'') : SAME9 σ σ'' := ⟨g.1.trans h.1, g.2.1.trans h.2.1, g.2.2.trans h.2.2⟩
/-- books that are well -/
def GB (σ : AB) : Prop := (∃ LS SE, BOK LS SE σ.1 ∧ ∀ r, r < σ.2.1 → BOK LS SE (σ.2.2.1 r)) ∧ σ.2.1 ≤ 6
theorem GOK.gb {σ : AB} (h : GOK σ) : GB σ := ⟨h.1, h.2.1⟩
theorem GB.same {σ σ' : AB} (h : GB σ) (e : SAME9 σ σ') : GB σ' := by
  obtain ⟨⟨LS, SE, h1, h2⟩, h3⟩ := h
  obtain ⟨e1, e2, e3⟩ := e
  exact ⟨⟨LS, SE, by rw [e1]; exact h1, fun r hr => by rw [e3]; exact h2 r (by rw [← e2]; exact hr)⟩, by rw [e2]; exact h3⟩
theorem LNS.same {σ σ' : AB} (h : LNS σ σ') : SAME9 σ σ' := ⟨h.1, h.2.1, h.2.2.1⟩
theorem REFUSED.same {σ σ' : AB} (h : REFUSED σ σ') : SAME9 σ σ' := ⟨h.1, h.2.1, h.2.2.1⟩
theorem PUSHED.of {σ σ1 σ' : AB} (e : SAME9 σ σ1) (h : PUSHED σ1 σ') : PUSHED σ σ' := by
  obtain ⟨e1, e2, e3⟩ := e
  obtain ⟨h1, h2, h3⟩ := h
  rw [e2] at h1
  rw [e1] at h2
  exact ⟨h1, h2, fun r hr => by rw [h3 r hr, e3]⟩
section PW
variable {σ : AB} {K : Int32 → AB → Prop} {t : List Nat}
theorem pt_writeU (hG : GB σ) (hl : t.length ≤ 16) (hK : ∀ r σ2, GB σ2 → ((r < 0 ∧ SAME9 σ σ2) ∨ (¬ r < 0 ∧ PUSHED σ σ2)) → K r σ2) : wp_L_write K t σ := by
  have hloop : ∀ n i σ1, i ≤ t.length → t.length - i < n → SAME9 σ σ1 → wp_L_write_b2 K t n (nI i) σ1 := by
    intro n
    induction n with
    | zero => intro i σ1 _ h; omega
    | succ n ih =>
      intro i σ1 hi hm hS
      unfold wp_L_write_b2
      have hG1 := hG.same hS
      refine ⟨fun q => ?_, fun q => ?_⟩
      · intro r1 σ2 hr hG2
        obtain ⟨-, hr⟩ := hr
        refine hK r1 σ2 hG2.gb ?_
        rcases hr with ⟨-, hr, e1, e2, e3⟩ | ⟨hw, hr, -, hp⟩
        · exact Or.inl ⟨hr, hS.tr ⟨e1, e2, e3⟩⟩
        · refine Or.inr ⟨?_, hp.of hS⟩
          rw [hr]
          exact nI_pos (by have := hw.2; omega)
      · rw [nI_le9 (by omega) (by omega)] at q
        refine ⟨i, by omega, rfl, by omega, fun r4 e4 r5 σ6 hr => ?_⟩
        have hS6 : SAME9 σ σ6 := by
          rcases hr with ⟨-, -, -, -, e⟩ | ⟨-, -, e⟩
          · rw [e]; exact hS
          · rw [e]; exact hS
        refine ⟨fun _ v7 e7 => ?_, fun _ => hK (-9) σ6 (hG.same hS6) (Or.inl ⟨by decide, hS6⟩)⟩
        rw [e7, nI_1]
        exact ih (i + 1) σ6 (by omega) (by omega) hS6
  exact hloop 17 0 σ (Nat.zero_le _) (by omega) SAME9.rf
theorem pt_writeD (hin : σ.2.2.2.2.1 = []) (hl : t.length ≤ 16) (h7 : S7o t) (hK : ∀ r σ2, GOK σ2 → ((σ2.2.2.2.2.1 = [] ∧ σ2.2.2.2.1 = σ.2.2.2.1 ∧ σ2.2.2.2.2.2.2 = σ.2.2.2.2.2.2) ∧ ((¬ WOK (σ.1, σ.2.1, σ.2.2.1, σ.2.2.2.1, t, σ.2.2.2.2.2) ∧ r < 0) ∨ (WOK (σ.1, σ.2.1, σ.2.2.1, σ.2.2.2.1, t, σ.2.2.2.2.2) ∧ r = nI σ.1.2.2.1 ∧ WRITTEN (σ.1, σ.2.1, σ.2.2.1, σ.2.2.2.1, t, σ.2.2.2.2.2) σ2))) → K r σ2) : wp_L_write K t σ := by
  have hloop : ∀ n i, i ≤ t.length → t.length - i < n → wp_L_write_b2 K t n (nI i) (σ.1, σ.2.1, σ.2.2.1, σ.2.2.2.1, t.take i, σ.2.2.2.2.2) := by
    intro n
    induction n with
    | zero => intro i _ h; omega
    | succ n ih =>
      intro i hi hm
      unfold wp_L_write_b2
      refine ⟨fun q => ?_, fun q => ?_⟩
      · rw [nI_le9 (by omega) (by omega)] at q
        obtain rfl : i = t.length := by omega
        rw [List.take_length]
        intro r1 σ2 hr hG2
        obtain ⟨⟨a1, a2, a3⟩, hr⟩ := hr
        refine hK r1 σ2 hG2 ⟨⟨a1, a2, a3⟩, ?_⟩
        rcases hr with ⟨hw, hr, -⟩ | ⟨hw, hr, hwr, -⟩
        · exact Or.inl ⟨hw, hr⟩
        · exact Or.inr ⟨hw, hr, hwr⟩
      · rw [nI_le9 (by omega) (by omega)] at q
        have hi' : i < t.length := by omega
        refine ⟨i, hi', rfl, by omega, fun r4 e4 r5 σ6 hr => ?_⟩
        have hc := h7 _ (getD_mem9 hi')
        have e5 : r4.toInt = (t.getD i 0 : Nat) := by rw [e4]; exact nI_toInt (by omega)
        have c1 : ¬ r4 < 32 := by
          rw [e4]
          exact nI_nlt (b := 32) hc.1 (by omega)
        have c2 : r4 ≤ 126 := by
          rw [e4]
          exact nI_le (b := 126) hc.2 (by omega)
        have hlen : (t.take i).length = i := tk_len hi
        have c0 : (t.take i).length < 60 := by rw [hlen]; omega
        rcases hr with ⟨-, -, -, hr5, hs6⟩ | ⟨hn, -⟩
        · have hr5 : r5 = nI (i + 1) := by rw [hr5]; show nI ((t.take i).length + 1) = _; rw [hlen]
          have hs6 : σ6 = (σ.1, σ.2.1, σ.2.2.1, σ.2.2.2.1, t.take (i + 1), σ.2.2.2.2.2) := by
            rw [hs6, tk_s t i hi', e5]
            rfl
          refine ⟨fun _ v7 e7 => ?_, fun z => absurd (hr5.trans (nI_1 i).symm) z⟩
          rw [e7, nI_1, hs6]
          exact ih (i + 1) (by omega) (by omega)
        · exact absurd ⟨c0, c1, c2⟩ hn
  have h := hloop 17 0 (Nat.zero_le _) (by omega)
  have e : ((σ.1, σ.2.1, σ.2.2.1, σ.2.2.2.1, t.take 0, σ.2.2.2.2.2) : AB) = σ := by
    have : t.take 0 = σ.2.2.2.2.1 := hin.symm
    rw [this]
  rw [e] at h
  exact h
theorem pt_cell {sn : Nat} {sg : Nat → Int32} (hn : sn < 2147483648) {q : Nat} (hq : q < 2147483648) (hK : ∀ r, K r σ) : wp_L_cell K sn sg (nI q) σ := by
  refine ⟨fun _ => hK _, fun c => ?_⟩
  rw [nI_le9 hn hq] at c
  exact ⟨x_inb (by omega) (by omega), hK _⟩
end PW
