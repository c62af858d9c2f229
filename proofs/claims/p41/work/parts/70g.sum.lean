/-! THE LAW's text and sum -/
section PS1
variable {LS : List Nat} {SE : Nat → SV} {σ : AB} {KA : Nat → (Nat → Int32) → AB → Prop}
theorem pt_text (hB : BOK LS SE σ.1) {i : Nat} (hi : i < σ.1.2.2.1) (hK : ∀ σ' f, LNS σ σ' → (∀ j, j < (σ.1.2.2.2 i).1 → f j = nI ((σ.1.2.2.2 i).2 j)) → KA (σ.1.2.2.2 i).1 f σ') : wp_L_text KA (nI i) σ := by
  have h4 := hB.2.1
  have ho := okt hB hi
  intro r6 σ7 hr
  rcases hr with ⟨hr, -, -⟩ | ⟨i9, hi9, ei, er, es⟩
  · exact absurd hr (out_no hi (by omega))
  obtain rfl : i = i9 := nI_inj (by omega) (by omega) ei
  have h60 := ho.1
  have eln : σ7.2.2.2.1 = txC (σ.1.2.2.2 i) := by rw [es]
  have hL : LNS σ σ7 := by rw [es]; exact ⟨rfl, rfl, rfl, rfl⟩
  refine ⟨(σ.1.2.2.2 i).1, h60, er, ?_⟩
  have hloop : ∀ n j f, j ≤ (σ.1.2.2.2 i).1 → (σ.1.2.2.2 i).1 - j < n → (∀ d, d < j → f d = nI ((σ.1.2.2.2 i).2 d)) → wp_L_text_b10 KA n (nI j) (σ.1.2.2.2 i).1 f σ7 := by
    intro n
    induction n with
    | zero => intro j f _ h; omega
    | succ n ih =>
      intro j f hj hm hf
      unfold wp_L_text_b10
      refine ⟨fun q => ?_, fun q => ?_⟩
      · rw [nI_le9 (by omega) (by omega)] at q
        obtain rfl : j = (σ.1.2.2.2 i).1 := by omega
        exact hK σ7 f hL hf
      · rw [nI_le9 (by omega) (by omega)] at q
        have hj' : j < (σ.1.2.2.2 i).1 := by omega
        intro r1 σ2 hr
        obtain ⟨rfl, hr⟩ := hr
        have hlen : σ2.2.2.2.1.length = (σ.1.2.2.2 i).1 := by rw [eln, txC_len]
        rw [fx_in (n := σ2.2.2.2.1.length) (by omega) (by omega)] at hr
        have hc : (σ.1.2.2.2 i).2 j < 65536 := ho.2.1 j
        have hg : σ2.2.2.2.1.getD j 0 = (σ.1.2.2.2 i).2 j := by
          rw [eln]
          unfold txC
          rw [List.getD_eq_getElem?_getD, List.getElem?_map, List.getElem?_range hj']
          rfl
        have hr : r1 = nI ((σ.1.2.2.2 i).2 j) := by rw [← hg]; exact hr
        refine ⟨x_inb hj' (by omega), fun v3 e3 f4 e4 v5 e5 => ?_⟩
        rw [e5, nI_1]
        refine ih (j + 1) f4 (by omega) (by omega) (fun d hd => ?_)
        rw [e4, e3, pk_vc, hr, i2c_at hc, nI_clamp (by omega)]
        by_cases z : d = j
        · rw [z]; exact x_us
        · rw [x_un z]; exact hf d (by omega)
  exact hloop 62 0 _ (Nat.zero_le _) (by omega) (fun d hd => absurd hd (Nat.not_lt_zero d))
end PS1
def SA9 (B : BB) : Nat → Int64
  | 0 => 7
  | n + 1 => 31 * SA9 B n + (f_account B 0 (nI n)).toInt64
def SB9 (B : BB) : Nat → Int64
  | 0 => SA9 B 6
  | k + 1 => 37 * SB9 B k + (f_of B (nI (k / 7)) (nI (k % 7))).toInt64 + (f_bits B (nI (k / 7))).toInt64
def SC9 (x : TX) (h : Int64) : Nat → Int64
  | 0 => h
  | j + 1 => 41 * SC9 x h j + (nI (x.2 j)).toInt64
def SD9 (B : BB) : Nat → Int64
  | 0 => SB9 B (7 * B.2.1)
  | i + 1 => 43 * SC9 (B.2.2.2 i) (SD9 B i) (B.2.2.2 i).1 + (f_spellOf B (nI i) 4).toInt64
/-- what the law sums up of a book -/
def SUM9 (B : BB) : Int64 := SD9 B B.2.2.1
section PS2
variable {B : BB}
theorem acc_b9 {b9 c9 : Int32} {n : Nat} (h : n < 6) : f_account B b9 (nI n) = f_account B c9 (nI n) := by
  have h6 : (nI n : Int32) ≠ 6 := fun z => by have := nI_inj (b := 6) (by omega) (by omega) z; omega
  unfold f_account
  rw [if_neg (c := nI n = 6) h6, if_neg (c := nI n = 6) h6]
variable {LS : List Nat} {SE : Nat → SV} {σ : AB} {KL : Int64 → AB → Prop}
theorem pt_sum (hB : BOK LS SE σ.1) (hK : ∀ σ', LNS σ σ' → KL (SUM9 σ.1) σ') : wp_L_sum KL σ := by
  have h6 := hB.1
  have h4 := hB.2.1
  have hspells : ∀ n i σ1, LNS σ σ1 → i ≤ σ.1.2.2.1 → σ.1.2.2.1 - i < n → wp_L_sum_b83 KL n (SD9 σ.1 i) (nI i) σ1 := by
    intro n
    induction n with
    | zero => intro i σ1 _ _ h; omega
    | succ n ih =>
      intro i σ1 hL hi hm
      have e1 : σ1.1 = σ.1 := hL.1
      unfold wp_L_sum_b83
      refine ⟨n8 (n := 1) (by decide), fun r7 e7 => ?_⟩
      rw [acc1, e1] at e7
      rw [e7]
      refine ⟨fun q => ?_, fun q => ?_⟩
      · rw [nI_le9 (by omega) (by omega)] at q
        obtain rfl : i = σ.1.2.2.1 := by omega
        exact hK σ1 hL
      · rw [nI_le9 (by omega) (by omega)] at q
        have hi' : i < σ.1.2.2.1 := by omega
        refine pt_text (LS := LS) (SE := SE) (by rw [e1]; exact hB) (by rw [e1]; exact hi') (fun σ2 f hL2 hf => ?_)
        have hL2 := LNS.tr hL hL2
        have e2 : σ2.1 = σ.1 := hL2.1
        rw [e1] at hf ⊢
        have h60 := (okt hB hi').1
        intro v10 e10
        rw [e10]
        have hchars : ∀ m j, j ≤ (σ.1.2.2.2 i).1 → (σ.1.2.2.2 i).1 - j < m → wp_L_sum_b107 KL (wp_L_sum_b83 KL n) m (SC9 (σ.1.2.2.2 i) (SD9 σ.1 i) j) (nI i) (nI (σ.1.2.2.2 i).1) (nI j) (σ.1.2.2.2 i).1 f σ2 := by
          intro m
          induction m with
          | zero => intro j _ h; omega
          | succ m ihm =>
            intro j hj hmj
            unfold wp_L_sum_b107
            refine ⟨fun q => ?_, fun q => ?_⟩
            · rw [nI_le9 (by omega) (by omega)] at q
              obtain rfl : j = (σ.1.2.2.2 i).1 := by omega
              intro r1 er v2 ev v3 e3
              rw [e2] at er
              rw [e3, nI_1, ev, er]
              exact ih (i + 1) σ2 hL2 (by omega) (by omega)
            · rw [nI_le9 (by omega) (by omega)] at q
              refine ⟨x_inb (by omega) (by omega), fun v4 e4 v5 e5 v6 e6 => ?_⟩
              rw [nI_clamp (by omega), hf j (by omega)] at e4
              rw [e6, nI_1, e5, e4]
              exact ihm (j + 1) (by omega) (by omega)
        exact hchars 62 0 (Nat.zero_le _) (by omega)
  have hcauldrons : ∀ n k, k ≤ 7 * σ.1.2.1 → 7 * σ.1.2.1 - k < n → wp_L_sum_b33 KL n (SB9 σ.1 k) (nI k) σ := by
    intro n
    induction n with
    | zero => intro k _ h; omega
    | succ n ih =>
      intro k hk hm
      unfold wp_L_sum_b33
      refine ⟨n8 (n := 0) (by decide), fun r11 e11 => ?_⟩
      rw [acc0] at e11
      have e7 : (7 : Int32) * r11 = nI (7 * σ.1.2.1) := by
        rw [e11]
        exact pk_mul 7 _
      rw [e7]
      refine ⟨fun q => ?_, fun q => ?_⟩
      · rw [nI_le9 (by omega) (by omega)] at q
        obtain rfl : k = 7 * σ.1.2.1 := by omega
        exact hspells 5 0 σ LNS.rf (Nat.zero_le _) (by omega)
      · rw [nI_le9 (by omega) (by omega)] at q
        have hk' : k < 7 * σ.1.2.1 := by omega
        have hd : nI k / (7 : Int32) = nI (k / 7) := pk_div (d := 7) (by omega) (by omega) (by omega)
        have hr : nI k - nI k / (7 : Int32) * (7 : Int32) = nI (k % 7) := pk_rem (d := 7) (by omega) (by omega) (by omega)
        refine ⟨by decide, by decide, fun v12 e12 => ?_⟩
        rw [hr] at e12
        rw [hd, e12]
        intro r13 e13
        refine ⟨by decide, ⟨k / 7, by omega, rfl⟩, fun r14 e14 v15 e15 v16 e16 => ?_⟩
        rw [e16, nI_1, e15, e13, e14]
        exact ih (k + 1) (by omega) (by omega)
  have haccounts : ∀ n w, w ≤ 6 → 6 - w < n → wp_L_sum_b6 KL n (SA9 σ.1 w) (nI w) σ := by
    intro n
    induction n with
    | zero => intro w _ h; omega
    | succ n ih =>
      intro w hw hm
      unfold wp_L_sum_b6
      refine ⟨fun q => ?_, fun q => ?_⟩
      · have q : nI 6 ≤ nI w := q
        rw [nI_le9 (by omega) (by omega)] at q
        obtain rfl : w = 6 := by omega
        exact hcauldrons 43 0 (Nat.zero_le _) (by omega)
      · have q : ¬ nI 6 ≤ nI w := q
        rw [nI_le9 (by omega) (by omega)] at q
        refine ⟨⟨w, by omega, rfl⟩, fun r17 e17 v18 e18 v19 e19 => ?_⟩
        rw [acc_b9 (c9 := 0) (by omega)] at e17
        rw [e19, nI_1, e18, e17]
        exact ih (w + 1) (by omega) (by omega)
  intro v20 e20
  rw [e20]
  exact haccounts 7 0 (Nat.zero_le _) (by omega)
end PS2
