/-! COUNTS of spells that take from, or store into, a cauldron -/
def hsB (j : Nat) (k w : Nat → Nat) (c p : Nat) : Bool := (LAk j k w c p).isSome
theorem hsB_s (j : Nat) (k w : Nat → Nat) (c p : Nat) : hsB j k w c (p + 1) = (decide (k p = j ∧ w p = c) || hsB j k w c p) := by
  show (if k p = j ∧ w p = c then some p else LAk j k w c p).isSome = _
  by_cases h : k p = j ∧ w p = c
  · rw [if_pos h, decide_eq_true h]; rfl
  · rw [if_neg h, decide_eq_false h]; rfl
def HB (j c : Nat) (x : TX) : Bool := hsB j (rT x).2.1 (rT x).2.2.1 c (rT x).1
def CH (j c : Nat) (X : Nat → TX) : Nat → Nat
  | 0 => 0
  | i + 1 => CH j c X i + if HB j c (X i) = true then 1 else 0
theorem CH_le (j c : Nat) (X : Nat → TX) : ∀ i, CH j c X i ≤ i
  | 0 => Nat.le_refl 0
  | i + 1 => by
    have := CH_le j c X i
    show CH j c X i + (if HB j c (X i) = true then 1 else 0) ≤ i + 1
    split <;> omega
section CNT2
variable {LS : List Nat} {SE : Nat → SV} {nc ns : Nat} {X : Nat → TX} {tx : Nat → Option Nat} {cc s : Nat → Int32} {j c : Nat}
theorem LAk_lt {k w : Nat → Nat} : ∀ p q, LAk j k w c p = some q → q < p
  | 0, q, h => by cases h
  | p + 1, q, h => by
    by_cases e : k p = j ∧ w p = c
    · have h' : LAk j k w c (p + 1) = some p := if_pos e
      rw [h'] at h
      cases h
      exact Nat.lt_succ_self _
    · have h' : LAk j k w c (p + 1) = LAk j k w c p := if_neg e
      rw [h'] at h
      exact Nat.lt_succ_of_lt (LAk_lt p q h)
theorem l_spellsThat (hn : nc ≤ 6) (hn4 : ns ≤ 4) (hj : j = 0 ∨ j = 7) (hc : c < 6) (hX : SX LS SE nc ns X tx cc s) :
    ∀ (n i : Nat), i ≤ ns → ns - i < n → g_X0_spellsThat_b5 LS SE (nI ns) tx (nI j) (nI c) n (nI (CH j c X i)) (nI i) = some (nI (CH j c X ns))
  | 0, i, _, h => absurd h (Nat.not_lt_zero _)
  | n + 1, i, hi, hm => by
    unfold g_X0_spellsThat_b5 g_X0_spellsThat_b46
    by_cases e : i = ns
    · subst e
      exact if_pos (nI_le (Nat.le_refl _) (by omega))
    · have hi' : i < ns := by omega
      obtain ⟨⟨a, a1, a2⟩, a3, a4, a5⟩ := hX.1 i hi'
      have hsh := OKT_SH a3
      obtain ⟨b1, b2, b3, b4, b5, b6, b7, b8⟩ := id a2
      have hla := k8_la (T := (rT (X i)).1) (k := (rT (X i)).2.1) (w := (rT (X i)).2.2.1) (j := j) (c := c) hsh.1 (fun p hp => ⟨(b8 p hp).1, (b8 p hp).2.1⟩) (fun p hp => (hsh.2.2 p hp).1) (fun p hp e => OKT_w a3 hn p hp (by omega)) (by omega) hc (p := (rT (X i)).1) (Nat.le_refl _)
      have ih := l_spellsThat hn hn4 hj hc hX n (i + 1) (by omega) (by omega)
      have ec : CH j c X (i + 1) = CH j c X i + if HB j c (X i) = true then 1 else 0 := rfl
      have eh : HB j c (X i) = (LAk j (rT (X i)).2.1 (rT (X i)).2.2.1 c (rT (X i)).1).isSome := rfl
      rw [if_neg (nI_ge hi' (by omega)), k_spellAt hi' hn4 a1, e_gbS]
      show gc (inl9 LS a) _ = _
      rw [e_gc b1, b4, hla, e_gbS]
      cases hq : LAk j (rT (X i)).2.1 (rT (X i)).2.2.1 c (rT (X i)).1 with
      | none =>
        rw [hq] at eh
        rw [show HB j c (X i) = false from eh, if_neg Bool.false_ne_true] at ec
        have ec' : CH j c X (i + 1) = CH j c X i := ec
        rw [if_pos (show fcode none = -1 from rfl), e_gl, nI_1, ← ec']
        exact ih
      | some q =>
        have hq9 := LAk_lt _ q hq
        rw [hq] at eh
        rw [show HB j c (X i) = true from eh, if_pos rfl] at ec
        have hT := hsh.1
        have hnm : ¬ nI q = -1 := fun z => by have := x_m1n (a := q) (by omega); rw [this] at z; exact z
        rw [if_neg (show ¬ fcode (some q) = -1 from hnm), e_gl, e_gl, nI_1, nI_1, ← ec]
        exact ih
theorem k_spellsThat (hn : nc ≤ 6) (hn4 : ns ≤ 4) (hj : j = 0 ∨ j = 7) (hc : c < 6) (hX : SX LS SE nc ns X tx cc s) : g_X0_spellsThat LS SE (nI ns) tx (nI j) (nI c) = some (nI (CH j c X ns)) := by
  unfold g_X0_spellsThat
  exact l_spellsThat hn hn4 hj hc hX 100 0 (Nat.zero_le _) (by omega)
abbrev KW : Type := (Nat → Int32) → (Nat → Int32) → Int32 → Int32 → Int32 → Int32 → Int32 → Option MO
/-- which sort the reference is asked for -/
def p2j (j : Nat) : Int32 := if j = 0 then nI 0 else nI 1
theorem l_sw28 {T : Nat} {k w f : Nat → Nat} {nu sg : Nat → Int32} {K : KW} {P : MO → Prop} {x3 x4 sp ms : Int32} (hj : j = 0 ∨ j = 7) (hc : c < 6) (hsh : SH T k) (hT : TK T k w f sg nu) (hw : ∀ p, p < T → (k p = 0 ∨ k p = 7) → w p < 6)
    (hK : Ok (K nu sg (nI T) sp ms (x3 + bI (hsB j k w c T)) (x4 + 1)) P) :
    ∀ (n p : Nat), p ≤ T → T - p < n → Ok (g_X12_spellsWith_b28 s (nI c) (p2j j) K n nu sg (nI T) sp ms x3 x4 (bI (hsB j k w c p)) (nI p)) P
  | 0, p, _, h => absurd h (Nat.not_lt_zero _)
  | n + 1, p, hp, hn => by
    have hTT := hsh.1
    unfold g_X12_spellsWith_b28 g_X12_spellsWith_b105
    by_cases e : p = T
    · subst e
      refine ok_t (nI_le (Nat.le_refl _) (by omega)) ?_
      cases hb : hsB j k w c p with
      | false =>
        rw [hb] at hK
        exact ok_t rfl (ok_l (ok_l hK))
      | true =>
        rw [hb] at hK
        exact ok_f (by decide) (ok_l (ok_l hK))
    · have hp' : p < T := by omega
      obtain ⟨hsg, hnu, hF⟩ := hT p hp'
      have h7 := (hsh.2.2 p hp').1
      have ih := l_sw28 hj hc hsh hT hw hK n (p + 1) (by omega) (by omega)
      have hs := hsB_s j k w c p
      refine ok_f (nI_ge hp' (by omega)) ?_
      cases hb : hsB j k w c p with
      | true =>
        rw [hb, Bool.or_true] at hs
        rw [hs] at ih
        refine ok_f (by decide) ?_
        unfold g_X12_spellsWith_b81 g_X12_spellsWith_b86
        refine ok_l ?_
        rw [nI_1]
        exact ih
      | false =>
        rw [hb, Bool.or_false] at hs
        have fin : ∀ b : Bool, b = decide (k p = j ∧ w p = c) → Ok (g_X12_spellsWith_b86 s (nI c) (p2j j) K (g_X12_spellsWith_b28 s (nI c) (p2j j) K n) nu sg (nI T) sp ms x3 x4 (nI p) (bI b)) P := by
          intro b hb'
          unfold g_X12_spellsWith_b86
          refine ok_l ?_
          rw [nI_1, hb', ← hs]
          exact ih
        have yes : k p = j → Ok (g_X12_spellsWith_b70 s (nI c) (p2j j) K (g_X12_spellsWith_b28 s (nI c) (p2j j) K n) nu sg (nI T) sp ms x3 x4 (nI p)) P := by
          intro ej
          have hw' := hw p hp' (by omega)
          have hn' := hnu (by omega)
          unfold g_X12_spellsWith_b70 g_X12_spellsWith_b81 g_X12_spellsWith_b85
          refine ok_c (x_inb (by omega) (by omega)) ?_
          rw [x_cl (by omega), hn']
          by_cases ec : w p = c
          · exact ok_t (by rw [ec]) (fin true (decide_eq_true ⟨ej, ec⟩).symm)
          · exact ok_f (fun z => ec (nI_inj (by omega) (by omega) z)) (fin false (decide_eq_false (fun z => ec z.2)).symm)
        have no : k p ≠ j → Ok (g_X12_spellsWith_b85 s (nI c) (p2j j) K (g_X12_spellsWith_b28 s (nI c) (p2j j) K n) nu sg (nI T) sp ms x3 x4 (nI p)) P := by
          intro ej
          unfold g_X12_spellsWith_b85
          exact fin false (decide_eq_false (fun z => ej z.1)).symm
        refine ok_t rfl ?_
        rcases hj with hj | hj
        · refine ok_t (by rw [hj]; rfl) (ok_be (kM_letter (by omega) hsg hF) ?_)
          by_cases ej : k p = j
          · refine ok_f (by rw [if_pos (ej.trans hj)]; decide) (yes ej)
          · refine ok_t (by rw [if_neg (fun z => ej (z.trans hj.symm))]; rfl) (no ej)
        · refine ok_f (by rw [hj]; decide) (ok_c (x_inb (by omega) (by omega)) ?_)
          rw [x_cl (by omega), hsg]
          by_cases ej : k p = j
          · have : f p = 61 := by unfold FSk at hF; omega
            exact ok_t (by rw [this]; rfl) (yes ej)
          · have hne : f p ≠ 61 ∧ f p < 65536 := by unfold FSk at hF; omega
            exact ok_f (fun z => hne.1 (nI_inj (by omega) (by omega) (show nI (f p) = nI 61 from z))) (no ej)
theorem l_sw5 (hn : nc ≤ 6) (hn4 : ns ≤ 4) (hj : j = 0 ∨ j = 7) (hc : c < 6) (h1 : s 1 = nI ns) (hX : ∀ i, i < ns → OKT nc (X i) ∧ SPM s i (X i)) :
    ∀ (n i : Nat) (nu sg : Nat → Int32) (tk sp ms : Int32), i ≤ ns → ns - i < n → Ok (g_X12_spellsWith_b5 s (nI c) (p2j j) n nu sg tk sp ms (nI (CH j c X i)) (nI i)) (fun o => o.1 = nI (CH j c X ns))
  | 0, i, _, _, _, _, _, _, h => absurd h (Nat.not_lt_zero _)
  | n + 1, i, nu, sg, tk, sp, ms, hi, hm => by
    unfold g_X12_spellsWith_b5
    refine ok_c rfl ?_
    show Ok (if s 1 ≤ nI i then _ else _) _
    rw [h1]
    by_cases e : i = ns
    · subst e
      exact ok_t (nI_le (Nat.le_refl _) (by omega)) (ok_s rfl)
    · have hi' : i < ns := by omega
      obtain ⟨a3, a4⟩ := hX i hi'
      have hsh := OKT_SH a3
      have hTT := hsh.1
      refine ok_f (nI_ge hi' (by omega)) (ok_b (k_X12_tells (by omega) a3 a4 tk sp ms nu sg) (fun o ho => ?_))
      obtain ⟨o1, o2, o3⟩ := ho
      rw [o1]
      refine l_sw28 hj hc hsh o3 (OKT_w a3 hn) ?_ 100 0 (Nat.zero_le _) (by omega)
      have ec : CH j c X (i + 1) = CH j c X i + if HB j c (X i) = true then 1 else 0 := rfl
      have eb : nI (CH j c X i) + bI (hsB j (rT (X i)).2.1 (rT (X i)).2.2.1 c (rT (X i)).1) = nI (CH j c X (i + 1)) := by
        rw [ec]
        show nI (CH j c X i) + (if HB j c (X i) = true then nI 1 else nI 0) = _
        split <;> rw [nI_add]
      rw [eb, nI_1]
      exact l_sw5 hn hn4 hj hc h1 hX n (i + 1) _ _ _ _ _ (by omega) (by omega)
theorem k_spellsWith (hn : nc ≤ 6) (hn4 : ns ≤ 4) (hj : j = 0 ∨ j = 7) (hc : c < 6) (h1 : s 1 = nI ns) (hX : ∀ i, i < ns → OKT nc (X i) ∧ SPM s i (X i)) (tk sp ms : Int32) (nu sg : Nat → Int32) :
    Ok (g_X12_spellsWith tk sp ms s nu sg (nI c) (p2j j)) (fun o => o.1 = nI (CH j c X ns)) := by
  unfold g_X12_spellsWith
  exact l_sw5 hn hn4 hj hc h1 hX 100 0 nu sg tk sp ms (Nat.zero_le _) (by omega)
end CNT2
