/-! THE LAW's tokens holds -/
section TKW
variable {K : Int32 → AB → Prop} {k12 : Int32 → Nat → (Nat → Int32) → Nat → (Nat → Int32) → AB → Prop} {k49 : Int32 → Int32 → Int32 → Int32 → Int32 → Int32 → Int32 → Int32 → Nat → (Nat → Int32) → Nat → (Nat → Int32) → Nat → (Nat → Int32) → AB → Prop} {σ : AB} {f1 f2 f4 : Nat → Int32} {m j : Nat} {y : Nat → Nat} {x3 x5 x6 x7 x8 x9 x10 s0 s1 : Int32}
theorem pt_isDigit {c : Nat} (hc : c < 65536) (h : K (bif dgt c then 1 else 0) σ) : wp_L_isDigit K (nI c) σ := by
  refine ⟨fun g => ?_, fun g => ⟨fun g2 => ?_, fun g2 => ?_⟩⟩
  · have g : c < 48 := by
      refine Nat.lt_of_not_le (fun z => ?_)
      exact nI_nlt (b := 48) z (by omega) g
    rw [ndgt (by omega)] at h
    exact ⟨rfl, h⟩
  · have g2 : 57 < c := by
      refine Nat.lt_of_not_le (fun z => ?_)
      exact nI_nlt (b := c) (a := 57) z (by omega) g2
    rw [ndgt (by omega)] at h
    exact ⟨rfl, h⟩
  · have g : 48 ≤ c := Nat.le_of_not_lt (fun z => g (nI_lt (b := 48) z (by omega)))
    have g2 : c ≤ 57 := Nat.le_of_not_lt (fun z => g2 (nI_lt (a := 57) z (by omega)))
    rw [inb2.mpr ⟨g, g2⟩] at h
    exact ⟨rfl, h⟩
theorem t215 (hm : m ≤ 60) (hj : j < m) (hy : ∀ d, y d < 65536) (hf : ∀ d, d < m → f4 d = nI (y d))
    (hk : k49 x3 (x5 + 1) x6 (s1 + s0) (if x8 < s1 + s0 then s1 + s0 else x8) x9 x10 (nI (j + bif tw9 y m j then 2 else 1)) 6 f1 6 f2 m f4 σ) :
    wp_L_tokens_b215 K k12 k49 x3 x5 x6 x8 x9 x10 (nI j) (nI (y j)) s0 s1 6 f1 6 f2 m f4 σ := by
  intro v27 e27 v28 e28
  rw [← e27, ← e28] at hk
  have h265 : tw9 y m j = true → wp_L_tokens_b265 K k12 k49 x3 x5 x6 v27 v28 x9 x10 (nI j) 6 f1 6 f2 m f4 σ := fun z => by
    rw [z] at hk
    refine ⟨fun z => absurd z (by decide), fun _ => ?_⟩
    intro v25 e25 v26 e26
    rw [e25, e26, show nI j + 2 = nI (j + 2) from nI_add j 2]
    exact hk
  have h269 : tw9 y m j = false → wp_L_tokens_b269 K k12 k49 x3 x5 x6 v27 v28 x9 x10 (nI j) 6 f1 6 f2 m f4 σ := fun z => by
    rw [z] at hk
    refine ⟨fun _ => ?_, fun z => absurd rfl z⟩
    intro v25 e25 v26 e26
    rw [e25, e26, nI_1]
    exact hk
  refine ⟨fun c => ?_, fun c => ?_⟩
  · have c : y j = 61 := nI_inj (by have := hy j; omega) (by omega) (show nI (y j) = nI 61 from c)
    exact h265 (by unfold tw9; rw [decide_eq_true c]; rfl)
  · have c : y j ≠ 61 := fun z => c (by rw [z]; rfl)
    refine pt_isDigit (hy j) ⟨fun g => ?_, fun g => ⟨fun g2 => ?_, fun g2 => ?_⟩⟩
    · have g : dgt (y j) = false := by
        cases e : dgt (y j) with
        | false => rfl
        | true => rw [e] at g; exact absurd g (by decide)
      exact h269 (tw_no c g)
    · rw [nI_1, nI_le9 (by omega) (by omega)] at g2
      refine h269 ?_
      unfold tw9
      rw [decide_eq_false c, decide_eq_false (show ¬ (j + 1 < m) by omega)]
      cases dgt (y j) <;> rfl
    · rw [nI_1, nI_le9 (by omega) (by omega)] at g2
      have g : dgt (y j) = true := by
        cases e : dgt (y j) with
        | true => rfl
        | false => rw [e] at g; exact absurd rfl g
      have hj2 : j + 1 < m := by omega
      rw [nI_1, nI_clamp (by omega), hf (j + 1) hj2]
      refine ⟨x_inb hj2 (by omega), pt_isDigit (hy (j + 1)) ⟨fun g3 => ?_, fun g3 => ?_⟩⟩
      · refine h269 ?_
        have : dgt (y (j + 1)) = false := by
          cases e : dgt (y (j + 1)) with
          | false => rfl
          | true => rw [e] at g3; exact absurd g3 (by decide)
        unfold tw9
        rw [decide_eq_false c, this]
        simp
      · refine h265 ?_
        have : dgt (y (j + 1)) = true := by
          cases e : dgt (y (j + 1)) with
          | true => rfl
          | false => rw [e] at g3; exact absurd rfl g3
        unfold tw9
        rw [g, this, decide_eq_true hj2]
        simp
theorem t182 {c : Nat} (hc : c < 65536) (hk : wp_L_tokens_b215 K k12 k49 x3 x5 (s1 + s0) x8 x9 x10 (nI j) (nI c) (dl9 c) x7 6 f1 6 f2 m f4 σ) :
    wp_L_tokens_b182 K k12 k49 x3 x5 x7 x8 x9 x10 (nI j) (nI c) (bif (ltr c || dgt c) then 1 else 0) s0 s1 6 f1 6 f2 m f4 σ := by
  intro v33 e33
  rw [← e33] at hk
  unfold dl9 at hk
  cases hn : (ltr c || dgt c) with
  | true =>
    rw [hn] at hk
    exact ⟨fun z => absurd z (by decide), fun _ => hk⟩
  | false =>
    rw [hn] at hk
    have hk : wp_L_tokens_b215 K k12 k49 x3 x5 v33 x8 x9 x10 (nI j) (nI c) (if c = 126 ∨ c = 33 then 0 else -1) x7 6 f1 6 f2 m f4 σ := hk
    refine ⟨fun _ => ⟨fun g => ?_, fun g => ⟨fun g2 => ?_, fun g2 => ?_⟩⟩, fun z => absurd rfl z⟩
    · have g : c = 126 := nI_inj (by omega) (by omega) (show nI c = nI 126 from g)
      rw [if_pos (Or.inl g)] at hk
      exact hk
    · have g2 : c = 33 := nI_inj (by omega) (by omega) (show nI c = nI 33 from g2)
      rw [if_pos (Or.inr g2)] at hk
      exact hk
    · rw [if_neg (fun z => z.elim (fun z => g (by rw [z]; rfl)) (fun z => g2 (by rw [z]; rfl)))] at hk
      exact hk
theorem t117 {c : Nat} (hc : c < 65536) (hc9 : c = 61 → j + 1 < m) (hm : m ≤ 60) (hf : ∀ d, d < m → f4 d = nI (y d)) {nw : Int32}
    (hk : wp_L_tokens_b182 K k12 k49 x3 x5 x7 x8 (x9 ||| tk9 c) (x10 ||| sk9 c (y (j + 1))) (nI j) (nI c) nw (is9 c) x6 6 f1 6 f2 m f4 σ) :
    wp_L_tokens_b117 K k12 k49 x3 x5 x6 x7 x8 x9 x10 (nI j) (nI c) (bif ltr c then 1 else 0) nw 6 f1 6 f2 m f4 σ := by
  have h165 : ∀ v35, v35 = x9 ||| tk9 c → wp_L_tokens_b165 K k12 k49 x3 x5 x6 x7 x8 v35 (nI j) (nI c) nw (sk9 c (y (j + 1))) x10 6 f1 6 f2 m f4 σ := by
    intro v35 e35 v34 e34
    rw [e34, e35]
    unfold is9 at hk
    refine ⟨fun g => ?_, fun g => ?_⟩
    · have g : c = 61 := nI_inj (by omega) (by omega) (show nI c = nI 61 from g)
      rw [decide_eq_true g] at hk
      exact hk
    · rw [decide_eq_false (fun z => g (by rw [z]; rfl))] at hk
      exact hk
  have h137 : wp_L_tokens_b137 K k12 k49 x3 x5 x6 x7 x8 x10 (nI j) (nI c) nw (tk9 c) x9 6 f1 6 f2 m f4 σ := by
    intro v35 e35
    refine ⟨fun g => ?_, fun g => ?_⟩
    · have g : c = 61 := nI_inj (by omega) (by omega) (show nI c = nI 61 from g)
      have hj2 := hc9 g
      have e : sk9 c (y (j + 1)) = (1 : Int32) <<< ((f4 (nI j + 1).toNatClampNeg - 97) &&& 31) := by
        unfold sk9
        rw [decide_eq_true g, nI_1, nI_clamp (by omega), hf (j + 1) hj2]
        rfl
      rw [nI_1]
      refine ⟨x_inb hj2 (by omega), ?_⟩
      have h := h165 v35 e35
      rw [e, nI_1] at h
      exact h
    · have h := h165 v35 e35
      have e : sk9 c (y (j + 1)) = 0 := sk_no (fun z => g (by rw [z]; rfl))
      rw [e] at h
      exact h
  unfold tk9 at h137
  cases hl : ltr c with
  | true =>
    rw [hl] at h137
    exact ⟨fun z => absurd z (by decide), fun _ => h137⟩
  | false =>
    rw [hl] at h137
    exact ⟨fun _ => h137, fun z => absurd rfl z⟩
theorem t97 {c : Nat} (hc : c < 65536) (hk : wp_L_tokens_b117 K k12 k49 x3 x5 x6 x7 x8 x9 x10 (nI j) (nI c) (bif ltr c then 1 else 0) (bif (ltr c || dgt c) then 1 else 0) 6 f1 6 f2 m f4 σ) :
    wp_L_tokens_b97 K k12 k49 x3 x5 x6 x7 x8 x9 x10 (nI j) (nI c) (bif ltr c then 1 else 0) 6 f1 6 f2 m f4 σ := by
  cases hl : ltr c with
  | true =>
    rw [hl] at hk
    exact ⟨fun z => absurd z (by decide), fun _ => hk⟩
  | false =>
    rw [hl] at hk
    refine ⟨fun _ => pt_isDigit hc ?_, fun z => absurd rfl z⟩
    cases hd : dgt c with
    | true =>
      rw [hd] at hk
      exact ⟨fun z => absurd z (by decide), fun _ => hk⟩
    | false =>
      rw [hd] at hk
      exact ⟨fun _ => hk, fun z => absurd rfl z⟩
end TKW
section TKL
variable {LS : List Nat} {SE : Nat → SV} {σ0 σ : AB} {K : Int32 → AB → Prop}
theorem sp_out {B : BB} {q w : Int32} (h4 : B.2.2.1 ≤ 4) (ho : OUT q B.2.2.1) : f_spellOf B q w = -11 := by
  unfold f_spellOf
  rw [fx_out (by omega) ho]
theorem tk_out {B : BB} {q w : Int32} (h4 : B.2.2.1 ≤ 4) (ho : OUT q B.2.2.1) : f_token B q w = -11 := by
  unfold f_token
  rw [fx_out (by omega) ho]
/-- what is counted of the spells ahead -/
def CNT9 (B : BB) (i : Nat) (f1 f2 : Nat → Int32) : Prop := ∀ c, c < 6 → f1 c = nI (CH 0 c B.2.2.2 i) ∧ f2 c = nI (CH 7 c B.2.2.2 i)
theorem tk_440 (hB : BOK LS SE σ.1) (hs0 : ∀ c, c < σ.1.2.1 → σ.1.1.2.2.2.2.2.2.2.2.2.1 c = 0) (hK : K 1 σ) {f1 f2 : Nat → Int32} (hC : CNT9 σ.1 σ.1.2.2.1 f1 f2) : ∀ n k, k ≤ σ.1.2.1 → σ.1.2.1 - k < n → wp_L_tokens_b440 K n (nI k) 6 f1 6 f2 σ := by
  have h6 := hB.1
  have h4 := hB.2.1
  intro n
  induction n with
  | zero => intro k _ h; omega
  | succ n ih =>
    intro k hk hm
    unfold wp_L_tokens_b440
    refine ⟨n8 (n := 0) (by decide), fun r1 e1 => ?_⟩
    rw [acc0] at e1
    rw [e1]
    refine ⟨fun _ => ?_, fun q => ?_⟩
    · refine ⟨n8 (n := 1) (by decide), fun r2 e2 => ⟨n8 (n := 0) (by decide), fun r3 e3 r4 e4 => ?_⟩⟩
      rw [acc1] at e2
      rw [acc0] at e3
      rw [e3, of_out h6 out_n] at e4
      rw [e2]
      refine ⟨fun _ r5 e5 => ?_, fun z => absurd e4 z⟩
      rw [sp_out h4 out_n] at e5
      refine ⟨fun _ r6 e6 => ?_, fun z => absurd e5 z⟩
      rw [tk_out h4 out_n] at e6
      exact ⟨fun _ => ⟨rfl, hK⟩, fun z => absurd e6 z⟩
    · rw [nI_le9 (by omega) (by omega)] at q
      have hk' : k < σ.1.2.1 := by omega
      obtain ⟨c1, c2⟩ := hC k (by omega)
      have hin : inb (nI k) 6 = true := x_inb (by omega) (by omega)
      rw [nI_clamp (by omega)]
      intro r7 e7
      rw [of5 hk' h6, ← c1] at e7
      refine ⟨hin, fun _ r8 e8 => ?_, fun z => absurd e7 z⟩
      rw [of6 hk' h6, ← c2] at e8
      refine ⟨hin, fun _ r9 e9 => ?_, fun z => absurd e8 z⟩
      rw [of4 hk' h6, hs0 k hk'] at e9
      refine ⟨fun _ r10 e10 => ?_, fun z => absurd e9 z⟩
      rw [of7 hk' h6] at e10
      refine ⟨fun _ v11 e11 => ?_, fun z => absurd e10 z⟩
      rw [e11, nI_1]
      exact ih (k + 1) (by omega) (by omega)
theorem tk_296 (hB : BOK LS SE σ.1) {i : Nat} (hi : i < σ.1.2.2.1) (h0 : ∀ j, j < 4 → σ.1.1.2.2.2.2.2.2.2.2.2.2.2 j = 0) {m1 m2 : Nat} (h1 : MSK 0 (rS σ.1 i) m1) (h2 : MSK 7 (rS σ.1 i) m2) {k12 : Int32 → Nat → (Nat → Int32) → Nat → (Nat → Int32) → AB → Prop} (hk : ∀ f1 f2, CNT9 σ.1 (i + 1) f1 f2 → k12 (nI (i + 1)) 6 f1 6 f2 σ) :
    ∀ n k f1 f2, k ≤ 6 → 6 - k < n → (∀ c, c < 6 → f1 c = nI (CH 0 c σ.1.2.2.2 (if c < k then i + 1 else i)) ∧ f2 c = nI (CH 7 c σ.1.2.2.2 (if c < k then i + 1 else i))) → wp_L_tokens_b296 K k12 n (nI i) (nI (rS σ.1 i).1) (nI (NS (rS σ.1 i).2.1 (rS σ.1 i).1)) (nI (dd (rS σ.1 i))) (nI (MS (rS σ.1 i).2.1 (rS σ.1 i).1)) (nI m1) (nI m2) (nI k) 6 f1 6 f2 σ := by
  have h4 := hB.2.1
  have h24 := rS24 hB hi
  have ho := okt hB hi
  intro n
  induction n with
  | zero => intro k _ _ _ h; omega
  | succ n ih =>
    intro k f1 f2 hk6 hm hc
    unfold wp_L_tokens_b296
    refine ⟨fun q => ?_, fun q => ?_⟩
    · have q : nI 6 ≤ nI k := q
      rw [nI_le9 (by omega) (by omega)] at q
      obtain rfl : k = 6 := by omega
      have hC : CNT9 σ.1 (i + 1) f1 f2 := fun c hc6 => by
        have := hc c hc6
        rw [if_pos hc6] at this
        exact this
      intro r13 e13
      rw [sp0 hi h4] at e13
      refine ⟨fun _ r14 e14 => ?_, fun z => absurd e13 z⟩
      rw [sp1 hi h4] at e14
      refine ⟨fun _ r15 e15 => ?_, fun z => absurd e14 z⟩
      rw [sp2 hi h4] at e15
      refine ⟨fun _ => ?_, fun z => absurd e15 z⟩
      have hdd : dd (rS σ.1 i) = 0 := (OKT_aL ho).2.1
      refine ⟨fun _ r16 e16 => ?_, fun z => absurd (by rw [hdd]; rfl) z⟩
      rw [tok_out hi h4 h24 out_n] at e16
      refine ⟨fun _ r17 e17 => ?_, fun z => absurd e16 z⟩
      rw [tok_out hi h4 h24 out_m1] at e17
      refine ⟨fun _ r18 e18 => ?_, fun z => absurd e17 z⟩
      rw [sp4 hi h4, h0 i (by omega)] at e18
      refine ⟨fun _ r19 e19 => ?_, fun z => absurd e18 z⟩
      rw [sp5 hi h4] at e19
      refine ⟨fun _ => ⟨fun z => absurd z (by decide), fun _ v12 e12 => ?_⟩, fun z => absurd e19 z⟩
      rw [e12, nI_1]
      exact hk f1 f2 hC
    · have q : ¬ nI 6 ≤ nI k := q
      rw [nI_le9 (by omega) (by omega)] at q
      have hk' : k < 6 := by omega
      have hin : inb (nI k) 6 = true := x_inb hk' (by omega)
      rw [nI_clamp (by omega)]
      refine ⟨hin, hin, fun v20 e20 f21 e21 => ⟨hin, hin, fun v22 e22 f23 e23 v24 e24 => ?_⟩⟩
      rw [e24, nI_1]
      obtain ⟨a1, a2⟩ := hc k hk'
      rw [if_neg (Nat.lt_irrefl k)] at a1 a2
      have r1 : ((nI m1 >>> (nI k &&& 31)) &&& 1) = if m1.testBit k = true then 1 else 0 := mk_rd ⟨m1, h1.1⟩ ⟨k, hk'⟩
      have r2 : ((nI m2 >>> (nI k &&& 31)) &&& 1) = if m2.testBit k = true then 1 else 0 := mk_rd ⟨m2, h2.1⟩ ⟨k, hk'⟩
      rw [r1, h1.2 k hk', a1] at e20
      rw [r2, h2.2 k hk', a2] at e22
      have b1 : v20 = nI (CH 0 k σ.1.2.2.2 (i + 1)) := by
        rw [e20]
        show nI (CH 0 k σ.1.2.2.2 i) + (if HB 0 k (σ.1.2.2.2 i) = true then 1 else 0) = nI (CH 0 k σ.1.2.2.2 i + if HB 0 k (σ.1.2.2.2 i) = true then 1 else 0)
        by_cases z : HB 0 k (σ.1.2.2.2 i) = true
        · rw [if_pos z, if_pos z]; exact nI_1 _
        · rw [if_neg z, if_neg z]; exact Int32.add_zero _
      have b2 : v22 = nI (CH 7 k σ.1.2.2.2 (i + 1)) := by
        rw [e22]
        show nI (CH 7 k σ.1.2.2.2 i) + (if HB 7 k (σ.1.2.2.2 i) = true then 1 else 0) = nI (CH 7 k σ.1.2.2.2 i + if HB 7 k (σ.1.2.2.2 i) = true then 1 else 0)
        by_cases z : HB 7 k (σ.1.2.2.2 i) = true
        · rw [if_pos z, if_pos z]; exact nI_1 _
        · rw [if_neg z, if_neg z]; exact Int32.add_zero _
      refine ih (k + 1) f21 f23 (by omega) (by omega) (fun c hc6 => ?_)
      by_cases z : c = k
      · subst z
        rw [e21, e23, x_us, x_us, if_pos (Nat.lt_succ_self _)]
        exact ⟨b1, b2⟩
      · rw [e21, e23, x_un z, x_un z]
        have := hc c hc6
        by_cases g : c < k
        · rw [if_pos g] at this
          rw [if_pos (by omega)]
          exact this
        · rw [if_neg g] at this
          rw [if_neg (by omega)]
          exact this
theorem tk_49 (hB : BOK LS SE σ.1) {i : Nat} (hi : i < σ.1.2.2.1) (h0 : ∀ j, j < 4 → σ.1.1.2.2.2.2.2.2.2.2.2.2.2 j = 0) {k12 : Int32 → Nat → (Nat → Int32) → Nat → (Nat → Int32) → AB → Prop} (hk : ∀ f1 f2, CNT9 σ.1 (i + 1) f1 f2 → k12 (nI (i + 1)) 6 f1 6 f2 σ) {f1 f2 f4 : Nat → Int32} (hC : CNT9 σ.1 i f1 f2) (hf : ∀ d, d < (σ.1.2.2.2 i).1 → f4 d = nI ((σ.1.2.2.2 i).2 d)) :
    ∀ n j S m1 m2, j ≤ (σ.1.2.2.2 i).1 → (σ.1.2.2.2 i).1 - j < n → AT9 (σ.1.2.2.2 i) j S → GS S → S.2.2.2.2.1 = false → (S.2.2.2.2.2 = true → j < (σ.1.2.2.2 i).1 → dgt ((σ.1.2.2.2 i).2 j) = false) → MSK 0 S m1 → MSK 7 S m2 → wp_L_tokens_b49 K k12 n (nI i) (nI S.1) (nI (NS S.2.1 S.1)) (nI (dd S)) (nI (MS S.2.1 S.1)) (nI m1) (nI m2) (nI j) 6 f1 6 f2 (σ.1.2.2.2 i).1 f4 σ := by
  have h4 := hB.2.1
  have h24 := rS24 hB hi
  have ho := okt hB hi
  have h60 := ho.1
  have hy := ho.2.1
  intro n
  induction n with
  | zero => intro j S m1 m2 _ h; omega
  | succ n ih =>
    intro j S m1 m2 hj hm hA hG hL hD g1 g2
    unfold wp_L_tokens_b49
    refine ⟨fun q => ?_, fun q => ?_⟩
    · rw [nI_le9 (by omega) (by omega)] at q
      obtain rfl : j = (σ.1.2.2.2 i).1 := by omega
      obtain rfl : S = rS σ.1 i := AT_e hA
      exact tk_296 hB hi h0 g1 g2 hk 7 0 f1 f2 (by omega) (by omega) (fun c hc6 => by rw [if_neg (Nat.not_lt_zero c)]; exact hC c hc6)
    · rw [nI_le9 (by omega) (by omega)] at q
      have hj' : j < (σ.1.2.2.2 i).1 := by omega
      have hc := hy j
      obtain ⟨S', n1, n2, s1, s2, s3, s4, s5, s6, s7, s8, s9, ⟨s10, s11⟩, ⟨s12, s13⟩, s14, s15⟩ := tk_step ho hA hG hj' hL (fun z => hD z hj') g1 g2
      have hp := PRE_at _ _ S' rfl s15 s1
      have hlt : S.1 < (rS σ.1 i).1 := by
        have : S'.1 ≤ (rS σ.1 i).1 := hp.1
        omega
      have hb := GS_b hG
      have hb' := GS_b s2
      rw [nI_clamp (by omega), hf j hj']
      refine ⟨x_inb hj' (by omega), fun v38 e38 r39 e39 => ?_⟩
      have e39 : r39 = v38 := by
        rw [e39, e38, tok_in hi h4 hlt h24]
        congr 1
        exact (hp.2 S.1 (by omega)).trans s6
      rw [e38]
      have hbody : wp_L_tokens_b97 K k12 (wp_L_tokens_b49 K k12 n) (nI i) (nI S.1) (nI (NS S.2.1 S.1)) (nI (dd S)) (nI (MS S.2.1 S.1)) (nI m1) (nI m2) (nI j) (nI ((σ.1.2.2.2 i).2 j)) (bif ltr ((σ.1.2.2.2 i).2 j) then 1 else 0) 6 f1 6 f2 (σ.1.2.2.2 i).1 f4 σ := by
        refine t97 hc (t117 (y := (σ.1.2.2.2 i).2) hc s14 h60 hf (t182 hc (t215 h60 hj' hy hf ?_)))
        rw [s11, s13, s7, s8, nI_1, x_mx (by omega) (by omega), ← s9, ← s5]
        exact ih _ S' n1 n2 s15 (by have : 1 ≤ (bif tw9 (σ.1.2.2.2 i).2 (σ.1.2.2.2 i).1 j then 2 else 1) := (by cases tw9 (σ.1.2.2.2 i).2 (σ.1.2.2.2 i).1 j <;> decide); omega) s1 s2 s3 s4 s10 s12
      refine ⟨fun _ => ⟨fun c => ?_, fun c => ⟨fun c2 => ?_, fun c2 => ?_⟩⟩, fun z => absurd (e39.trans e38) z⟩
      · have c : (σ.1.2.2.2 i).2 j < 97 := Nat.lt_of_not_le (fun z => nI_nlt (b := 97) z (by omega) c)
        rw [nltr (by omega)] at hbody
        exact hbody
      · have c2 : 102 < (σ.1.2.2.2 i).2 j := Nat.lt_of_not_le (fun z => nI_nlt (a := 102) z (by omega) c2)
        rw [nltr (by omega)] at hbody
        exact hbody
      · have c : 97 ≤ (σ.1.2.2.2 i).2 j := Nat.le_of_not_lt (fun z => c (nI_lt (b := 97) z (by omega)))
        have c2 : (σ.1.2.2.2 i).2 j ≤ 102 := Nat.le_of_not_lt (fun z => c2 (nI_lt (a := 102) z (by omega)))
        rw [inb1.mpr ⟨c, c2⟩] at hbody
        exact hbody
theorem pt_tokens (hB : BOK LS SE σ.1) (h0 : ∀ j, j < 4 → σ.1.1.2.2.2.2.2.2.2.2.2.2.2 j = 0) (hs0 : ∀ c, c < σ.1.2.1 → σ.1.1.2.2.2.2.2.2.2.2.2.1 c = 0) (hK : ∀ σ', LNS σ σ' → K 1 σ') : wp_L_tokens K σ := by
  have h6 := hB.1
  have h4 := hB.2.1
  have hloop : ∀ n i f1 f2 σ1, i ≤ σ.1.2.2.1 → σ.1.2.2.1 - i < n → LNS σ σ1 → CNT9 σ.1 i f1 f2 → wp_L_tokens_b12 K n (nI i) 6 f1 6 f2 σ1 := by
    intro n
    induction n with
    | zero => intro i f1 f2 σ1 _ h; omega
    | succ n ih =>
      intro i f1 f2 σ1 hi hm hL hC
      have e1 : σ1.1 = σ.1 := hL.1
      unfold wp_L_tokens_b12
      refine ⟨n8 (n := 1) (by decide), fun r40 e40 => ?_⟩
      rw [acc1, e1] at e40
      rw [e40]
      refine ⟨fun q => ?_, fun q => ?_⟩
      · rw [nI_le9 (by omega) (by omega)] at q
        obtain rfl : i = σ.1.2.2.1 := by omega
        refine tk_440 (LS := LS) (SE := SE) (by rw [e1]; exact hB) (by rw [e1]; exact hs0) (hK σ1 hL) (by rw [e1]; exact hC) 7 0 (Nat.zero_le _) (by rw [e1]; omega)
      · rw [nI_le9 (by omega) (by omega)] at q
        have hi' : i < σ.1.2.2.1 := by omega
        refine pt_text (LS := LS) (SE := SE) (by rw [e1]; exact hB) (by rw [e1]; exact hi') (fun σ2 f hL2 hf => ?_)
        have hL2 := LNS.tr hL hL2
        have e2 : σ2.1 = σ.1 := hL2.1
        have e12 : σ1.1 = σ2.1 := e1.trans e2.symm
        rw [e12] at hf ⊢
        have hB2 : BOK LS SE σ2.1 := by rw [e2]; exact hB
        have h24 := (okt hB2 (by rw [e2]; exact hi')).1
        refine tk_49 hB2 (by rw [e2]; exact hi') (by rw [e2]; exact h0) (fun f1 f2 hC' => ih (i + 1) f1 f2 σ2 (by omega) (by omega) hL2 (by rw [← e2]; exact hC')) (by rw [e2]; exact hC) hf 62 0 rs0 0 0 (Nat.zero_le _) (by omega) (AT_0 (okt hB2 (by rw [e2]; exact hi'))) GS_0 rfl (fun z => by cases z) ⟨by omega, fun c _ => ?_⟩ ⟨by omega, fun c _ => ?_⟩
        · exact Nat.zero_testBit c
        · exact Nat.zero_testBit c
  exact hloop 5 0 _ _ σ (Nat.zero_le _) (by omega) LNS.rf (fun c hc => ⟨rfl, rfl⟩)
end TKL
