/-! THE LAW's undone holds -/
section SUMS
variable {B C : BB}
theorem SA_cg : ∀ n, (∀ w, w < n → f_account B 0 (nI w) = f_account C 0 (nI w)) → SA9 B n = SA9 C n
  | 0, _ => rfl
  | n + 1, h => by
    show 31 * SA9 B n + (f_account B 0 (nI n)).toInt64 = 31 * SA9 C n + (f_account C 0 (nI n)).toInt64
    rw [SA_cg n (fun w hw => h w (by omega)), h n (by omega)]
theorem SB_cg (h0 : SA9 B 6 = SA9 C 6) : ∀ n, (∀ k, k < n → f_of B (nI (k / 7)) (nI (k % 7)) = f_of C (nI (k / 7)) (nI (k % 7)) ∧ f_bits B (nI (k / 7)) = f_bits C (nI (k / 7))) → SB9 B n = SB9 C n
  | 0, _ => h0
  | n + 1, h => by
    show 37 * SB9 B n + (f_of B (nI (n / 7)) (nI (n % 7))).toInt64 + (f_bits B (nI (n / 7))).toInt64 = 37 * SB9 C n + (f_of C (nI (n / 7)) (nI (n % 7))).toInt64 + (f_bits C (nI (n / 7))).toInt64
    rw [SB_cg h0 n (fun w hw => h w (by omega)), (h n (by omega)).1, (h n (by omega)).2]
theorem SD_cg (h0 : SD9 B 0 = SD9 C 0) (hX : B.2.2.2 = C.2.2.2) : ∀ n, (∀ i, i < n → f_spellOf B (nI i) 4 = f_spellOf C (nI i) 4) → SD9 B n = SD9 C n
  | 0, _ => h0
  | n + 1, h => by
    show 43 * SC9 (B.2.2.2 n) (SD9 B n) (B.2.2.2 n).1 + (f_spellOf B (nI n) 4).toInt64 = 43 * SC9 (C.2.2.2 n) (SD9 C n) (C.2.2.2 n).1 + (f_spellOf C (nI n) 4).toInt64
    rw [SD_cg h0 hX n (fun w hw => h w (by omega)), h n (by omega), hX]
theorem CT_cg9 {kd lo hi kd' lo' hi' : Nat → Int32} {X : Nat → TX} {nc : Nat} (h6 : nc ≤ 6) (h1 : AG 6 kd' kd) (h2 : AG 6 lo' lo) (h3 : AG 6 hi' hi) : ∀ n, (∀ i, i < n → OKT nc (X i)) → CT kd' lo' hi' X n = CT kd lo hi X n
  | 0, _ => rfl
  | n + 1, h => by
    have e : TB kd' lo' hi' (X n) = TB kd lo hi (X n) := by
      rw [Bool.eq_iff_iff, TB_fl, TB_fl, flT_cg (h n (by omega)) h6 h1 h2 h3]
    show CT kd' lo' hi' X n + (if TB kd' lo' hi' (X n) = true then 1 else 0) = CT kd lo hi X n + (if TB kd lo hi (X n) = true then 1 else 0)
    rw [CT_cg9 h6 h1 h2 h3 n (fun i hi => h i (by omega)), e]
theorem SBo_cg {f g : Nat → Int32} : ∀ n, (∀ c, c < n → f c = g c) → SBo f n = SBo g n
  | 0, _ => rfl
  | n + 1, h => by
    show SBo f n + f n = SBo g n + g n
    rw [SBo_cg n (fun c hc => h c (by omega)), h n (by omega)]
theorem SUM9_be {LS : List Nat} {SE : Nat → SV} (hB : BOK LS SE B) (h : BEB B C) : SUM9 B = SUM9 C := by
  have h6 := hB.1
  have h4 := hB.2.1
  have ho : ∀ i, i < B.2.2.1 → OKT B.2.1 (B.2.2.2 i) := fun i hi => okt hB hi
  obtain ⟨g1, g2, g3, g4, g5, g6, g7, g8, g9, g10, g11, g12⟩ := h.1
  have e2 : B.2 = C.2 := h.2
  have en : B.2.1 = C.2.1 := by rw [e2]
  have es : B.2.2.1 = C.2.2.1 := by rw [e2]
  have eX : B.2.2.2 = C.2.2.2 := by rw [e2]
  have h6' : C.2.1 ≤ 6 := by omega
  have h4' : C.2.2.1 ≤ 4 := by omega
  have hA : SA9 B 6 = SA9 C 6 := SA_cg 6 (fun w hw => by
    rcases (show w = 0 ∨ w = 1 ∨ w = 2 ∨ w = 3 ∨ w = 4 ∨ w = 5 by omega) with rfl | rfl | rfl | rfl | rfl | rfl
    · show f_account B 0 0 = f_account C 0 0
      rw [acc0, acc0, en]
    · show f_account B 0 1 = f_account C 0 1
      rw [acc1, acc1, es]
    · show f_account B 0 2 = f_account C 0 2
      rw [acc2, acc2, ← es, ← eX, CT_cg9 h6 g7 g8 g9 B.2.2.1 ho]
    · show SBo B.1.2.2.2.2.2.2.1 B.2.1 = SBo C.1.2.2.2.2.2.2.1 C.2.1
      rw [← en, SBo_cg B.2.1 (fun c hc => g7 c (by omega))]
    · show B.1.2.2.1 = C.1.2.2.1
      exact g3
    · show B.1.2.2.2.1 = C.1.2.2.2.1
      exact g4)
  have hS : SD9 B 0 = SD9 C 0 := by
    show SB9 B (7 * B.2.1) = SB9 C (7 * C.2.1)
    rw [← en]
    refine SB_cg hA _ (fun k hk => ?_)
    have hc : k / 7 < B.2.1 := by omega
    have hc' : k / 7 < C.2.1 := by omega
    have hc6 : k / 7 < 6 := by omega
    refine ⟨?_, bt9_beb h6 h hc⟩
    generalize k / 7 = c at hc hc' hc6 ⊢
    rcases (show k % 7 = 0 ∨ k % 7 = 1 ∨ k % 7 = 2 ∨ k % 7 = 3 ∨ k % 7 = 4 ∨ k % 7 = 5 ∨ k % 7 = 6 by omega) with e | e | e | e | e | e | e <;> rw [e]
    · show f_of B (nI c) 0 = f_of C (nI c) 0
      rw [of0 hc h6, of0 hc' h6', g7 c hc6]
    · show f_of B (nI c) 1 = f_of C (nI c) 1
      rw [of1 hc h6, of1 hc' h6', g8 c hc6]
    · show f_of B (nI c) 2 = f_of C (nI c) 2
      rw [of2 hc h6, of2 hc' h6', g9 c hc6]
    · show f_of B (nI c) 3 = f_of C (nI c) 3
      rw [of3 hc h6, of3 hc' h6', g5 c hc6, g6 c hc6, g7 c hc6]
    · show f_of B (nI c) 4 = f_of C (nI c) 4
      rw [of4 hc h6, of4 hc' h6', g10 c hc6]
    · show f_of B (nI c) 5 = f_of C (nI c) 5
      rw [of5 hc h6, of5 hc' h6', es, eX]
    · show f_of B (nI c) 6 = f_of C (nI c) 6
      rw [of6 hc h6, of6 hc' h6', es, eX]
  show SD9 B B.2.2.1 = SD9 C C.2.2.1
  rw [← es]
  refine SD_cg hS eX _ (fun i hi => ?_)
  rw [sp4 hi h4, sp4 (by omega) h4', g12 i (by omega)]
end SUMS
def Z9 (d : Nat) : Int32 := if d = 0 then -1 else nI (d - 1)
theorem Z9_sub (d : Nat) : nI d - 1 = Z9 d := by
  cases d with
  | zero => decide
  | succ e => rw [nI_pred]; rfl
theorem Z9_m1 (e : Nat) : nI e + (-1) = Z9 e := by
  cases e with
  | zero => decide
  | succ e => rw [pk_m1]; rfl
section PU
variable {K : Int32 → AB → Prop} {sn : Nat} {sg : Nat → Int32}
theorem pu_back (hK : ∀ σ, K 1 σ) : ∀ n d (f : Nat → Int64) σ, d < n → d ≤ 6 → GB σ → d ≤ σ.2.1 → (∀ r, r < d → SUM9 (σ.2.2.1 r) = f (d - 1 - r)) → wp_L_undone_b353 K sn sg n (Z9 d) 7 f σ := by
  intro n
  induction n with
  | zero => intro d f σ h; omega
  | succ n ih =>
    intro d f σ hd h6 hG hle hs
    unfold wp_L_undone_b353
    refine ⟨fun _ => hK σ, fun c => ?_⟩
    cases d with
    | zero => exact absurd (show Z9 0 < 0 by decide) c
    | succ e =>
      intro r1 σ2 hr hG2
      rcases hr with ⟨h0, -⟩ | ⟨h0, hr, hbe, h1, h2, -, -⟩
      · omega
      · refine ⟨fun z => absurd z (by rw [hr]; exact nI_pos (by have := hG.2; omega)), fun _ => ?_⟩
        obtain ⟨⟨LS2, SE2, hB2, -⟩, -⟩ := hG2.gb
        refine pt_sum hB2 (fun σ3 hL => ?_)
        have ez : Z9 (e + 1) = nI e := rfl
        rw [ez]
        have ef : SUM9 σ2.1 = f e := (SUM9_be hB2 hbe).trans ((hs 0 (by omega)).trans (congrArg f (by omega)))
        rw [nI_clamp (by omega), ef, lg_cmp_self]
        refine ⟨x_inb (by omega) (by omega), fun _ v5 e5 => ?_, fun z => absurd rfl z⟩
        rw [e5, Z9_m1]
        have hG3 : GB σ3 := hG2.gb.same hL.same
        refine ih e f σ3 (by omega) (by omega) hG3 ?_ (fun r hr' => ?_)
        · rw [hL.2.1, h1]; omega
        · rw [hL.2.2.1, h2 r]
          exact (hs (r + 1) (by omega)).trans (congrArg f (by omega))
def MD9 (x5 : Int32) : Prop := ¬ (x5 - x5 / (9 : Int32) * (9 : Int32)) ≤ 1 ∧ ¬ 5 ≤ (x5 - x5 / (9 : Int32) * (9 : Int32))
/-- what a call of undone brings -/
def OUT9 (σ σ' : AB) (m : Prop) (r : Int32) : Prop := ((m → r ≤ -1000) ∧ r < 0 ∧ SAME9 σ σ') ∨ ((m → ¬ r ≤ -1000) ∧ (¬ m → ¬ r < 0) ∧ PUSHED σ σ')
theorem OUT_n {σ σ' : AB} {m : Prop} {r : Int32} (hm : ¬ m) (h : (r < 0 ∧ SAME9 σ σ') ∨ (¬ r < 0 ∧ PUSHED σ σ')) : OUT9 σ σ' m r := by
  rcases h with ⟨h1, h2⟩ | ⟨h1, h2⟩
  · exact Or.inl ⟨fun z => absurd z hm, h1, h2⟩
  · exact Or.inr ⟨fun z => absurd z hm, fun _ => h1, h2⟩
theorem OUT_m {σ σ' : AB} {m : Prop} {r : Int32} (hm : m) (h : (r ≤ -1001 ∧ SAME9 σ σ') ∨ (¬ r ≤ -1000 ∧ PUSHED σ σ')) : OUT9 σ σ' m r := by
  rcases h with ⟨h1, h2⟩ | ⟨h1, h2⟩
  · rw [Int32.le_iff_toInt_le] at h1
    have e : (-1001 : Int32).toInt = -1001 := rfl
    have e2 : (-1000 : Int32).toInt = -1000 := rfl
    have e0 : (0 : Int32).toInt = 0 := rfl
    refine Or.inl ⟨fun _ => ?_, ?_, h2⟩
    · rw [Int32.le_iff_toInt_le]; omega
    · rw [Int32.lt_iff_toInt_lt]; omega
  · exact Or.inr ⟨fun _ => h1, fun z => absurd hm z, h2⟩
theorem m1000 {r : Int32} (h : -1000 < r.toInt) : ¬ r ≤ -1000 := by
  rw [Int32.le_iff_toInt_le]
  have e2 : (-1000 : Int32).toInt = -1000 := rfl
  omega
section P265
variable {σ σ' : AB} {d i : Nat} {f : Nat → Int64} {x5 r : Int32} {k10 : Int32 → Int32 → Nat → (Nat → Int64) → AB → Prop}
theorem pu_309s (hd : d < 7) (hG : GB σ') (hs : SAME9 σ σ') (hf : f d = SUM9 σ.1) (hsame : ∀ σ'', SAME9 σ σ'' → k10 (nI d) (nI (i + 1)) 7 f σ'') : wp_L_undone_b309 K sn sg k10 (nI d) (nI i) 0 7 f σ' := by
  obtain ⟨⟨LS, SE, hB, -⟩, -⟩ := hG
  refine ⟨fun _ => pt_sum hB (fun σ8 hL => ?_), fun z => absurd rfl z⟩
  have ef : f (nI d).toNatClampNeg = SUM9 σ'.1 := by rw [nI_clamp (by omega), hf, hs.1]
  rw [ef, lg_cmp_self]
  refine ⟨x_inb (by omega) (by omega), fun _ => ⟨fun _ => ?_, fun z => absurd rfl z⟩, fun z => absurd rfl z⟩
  intro v6 e6 v7 e7
  rw [e6, e7, nI_1, Int32.add_zero]
  exact hsame σ8 (hs.tr hL.same)
theorem pu_309p (hp : PUSHED σ σ') (hG : GB σ') (hpush : ∀ σ'', PUSHED σ σ'' → GB σ'' → k10 (nI (d + 1)) (nI (i + 1)) 7 f σ'') : wp_L_undone_b309 K sn sg k10 (nI d) (nI i) 1 7 f σ' := by
  refine ⟨fun z => absurd z (by decide), fun _ => ⟨fun z => absurd z (by decide), fun _ => ?_⟩⟩
  intro v6 e6 v7 e7
  rw [e6, e7, nI_1, nI_1]
  exact hpush σ' hp hG
theorem pu_265 (hd : d < 7) (hG : GB σ') (hf : f d = SUM9 σ.1) (h : OUT9 σ σ' (MD9 x5) r) (hsame : ∀ σ'', SAME9 σ σ'' → k10 (nI d) (nI (i + 1)) 7 f σ'') (hpush : ∀ σ'', PUSHED σ σ'' → GB σ'' → k10 (nI (d + 1)) (nI (i + 1)) 7 f σ'') : wp_L_undone_b265 K sn sg k10 (nI d) (nI i) x5 r 7 f σ' := by
  rcases h with ⟨hm, hr, hs⟩ | ⟨hm, hr, hp⟩
  · have h0 : wp_L_undone_b309 K sn sg k10 (nI d) (nI i) 0 7 f σ' := pu_309s hd hG hs hf hsame
    refine ⟨by decide, fun v10 e10 => ⟨fun _ => ⟨fun _ => h0, fun z => absurd hr z⟩, fun c1 => ⟨by decide, fun v11 e11 => ⟨fun _ => ⟨fun _ => h0, fun z => absurd hr z⟩, fun c2 => ⟨fun _ => h0, fun z => absurd (hm ⟨by rw [← e10]; exact c1, by rw [← e11]; exact c2⟩) z⟩⟩⟩⟩⟩
  · have h1 : wp_L_undone_b309 K sn sg k10 (nI d) (nI i) 1 7 f σ' := pu_309p hp hG hpush
    refine ⟨by decide, fun v10 e10 => ⟨fun c1 => ⟨fun z => absurd z (hr (fun m => m.1 (by rw [← e10]; exact c1))), fun _ => h1⟩, fun c1 => ⟨by decide, fun v11 e11 => ⟨fun c2 => ⟨fun z => absurd z (hr (fun m => m.2 (by rw [← e11]; exact c2))), fun _ => h1⟩, fun c2 => ⟨fun z => absurd z (hm ⟨by rw [← e10]; exact c1, by rw [← e11]; exact c2⟩), fun _ => h1⟩⟩⟩⟩⟩
end P265
theorem i9 {m j : Nat} (hm : m < 9) (hj : j < 9) (h : nI m = nI j) : m = j := nI_inj (by omega) (by omega) h
theorem pu_loop (hK : ∀ σ, K 1 σ) (hn : sn < 2147483648) : ∀ n i d (f : Nat → Int64) σ, i ≤ 6 → 6 - i < n → d ≤ i → GB σ → d ≤ σ.2.1 → (∀ r, r < d → SUM9 (σ.2.2.1 r) = f (d - 1 - r)) → wp_L_undone_b10 K sn sg n (nI d) (nI i) 7 f σ := by
  intro n
  induction n with
  | zero => intro i d f σ _ h; omega
  | succ n ih =>
    intro i d f σ hi hm hdi hG hle hs
    unfold wp_L_undone_b10
    refine ⟨fun _ => ?_, fun q => ?_⟩
    · intro v12 e12
      rw [e12, Z9_sub]
      exact pu_back hK 7 d f σ (by omega) (by omega) hG hle hs
    · have q : ¬ nI 6 ≤ nI i := q
      rw [nI_le9 (by omega) (by omega)] at q
      rw [show (21 : Int32) + nI i = nI (21 + i) from nI_add 21 i]
      refine pt_cell hn (by omega) (fun r14 v15 e15 v16 e16 => ⟨n8 (n := 0) (by decide), fun r17 e17 => ?_⟩)
      rw [acc0] at e17
      obtain ⟨⟨LS, SE, hB, hpast⟩, hG6⟩ := id hG
      obtain ⟨y, hy, ey⟩ := us9 r14 1 1 (by decide) (by decide)
      have ey : v15 = nI y := e15.trans ey
      refine pt_sum hB (fun σ18 hL => ⟨x_inb (by omega) (by omega), fun f20 e20 => ⟨by decide, fun v21 e21 => ?_⟩⟩)
      have hL9 : SAME9 σ σ18 := hL.same
      have hG18 : GB σ18 := hG.same hL9
      obtain ⟨⟨LS8, SE8, hB8, -⟩, -⟩ := id hG18
      have ev : v21 = nI (y % 9) := e21.trans (rem9 (d := 9) ey hy (by omega) (by omega))
      have hy9 : y % 9 < 9 := Nat.mod_lt _ (by omega)
      rw [nI_clamp (by omega)] at e20
      have hf : f20 d = SUM9 σ18.1 := by rw [e20, pk_uLs, hL9.1]
      have hold : ∀ j, j < d → f20 j = f j := fun j hj => by rw [e20, pk_uLn (by omega)]
      have hsame : ∀ σ'', SAME9 σ18 σ'' → wp_L_undone_b10 K sn sg n (nI d) (nI (i + 1)) 7 f20 σ'' := fun σ'' h => by
        have h9 := hL9.tr h
        refine ih (i + 1) d f20 σ'' (by omega) (by omega) (by omega) (hG.same h9) (by rw [h9.2.1]; exact hle) (fun r hr => ?_)
        rw [h9.2.2, hold _ (by omega)]
        exact hs r hr
      have hpush : ∀ σ'', PUSHED σ18 σ'' → GB σ'' → wp_L_undone_b10 K sn sg n (nI (d + 1)) (nI (i + 1)) 7 f20 σ'' := fun σ'' h hG'' => by
        obtain ⟨p1, p2, p3⟩ := h.of hL9
        obtain ⟨⟨LS2, SE2, -, hp2⟩, -⟩ := id hG''
        have hle2 : d + 1 ≤ σ''.2.1 := by rw [p1]; split <;> omega
        refine ih (i + 1) (d + 1) f20 σ'' (by omega) (by omega) (by omega) hG'' hle2 (fun r hr => ?_)
        cases r with
        | zero =>
          rw [SUM9_be (hp2 0 (by omega)) p2, show d + 1 - 1 - 0 = d by omega, hf, hL9.1]
        | succ r =>
          rw [p3 r (by omega), hs r (by omega), show d + 1 - 1 - (r + 1) = d - 1 - r by omega, hold _ (by omega)]
      have hmid : MD9 v15 ↔ (¬ v21 ≤ 1 ∧ ¬ 5 ≤ v21) := by rw [e21]; exact Iff.rfl
      have nmid1 : v21 ≤ 1 → ¬ MD9 v15 := fun z m => (hmid.mp m).1 z
      have nmid5 : 5 ≤ v21 → ¬ MD9 v15 := fun z m => (hmid.mp m).2 z
      have go : ∀ r σ', GB σ' → OUT9 σ18 σ' (MD9 v15) r → wp_L_undone_b265 K sn sg (wp_L_undone_b10 K sn sg n) (nI d) (nI i) v15 r 7 f20 σ' := fun r σ' hG' ho => pu_265 (by omega) hG' hf ho hsame hpush
      have h6 := hB8.1
      have h4 := hB8.2.1
      have hX := hB8.2.2.2.2.1
      refine ⟨fun c => ?_, fun c0 => ⟨fun c => ?_, fun c1 => ⟨fun c => ?_, fun c2 => ⟨fun c => ?_, fun c3 => ⟨fun c => ?_, fun c4 => ⟨fun c => ?_, fun c5 => ⟨fun c => ?_, fun c6 => ⟨fun c => ?_, fun c7 => ?_⟩⟩⟩⟩⟩⟩⟩⟩
      · refine ⟨by decide, fun v22 _ => ⟨by decide, fun v23 _ r24 σ25 hr hG25 => go _ _ hG25.gb (OUT_n (nmid1 (by rw [c]; decide)) ?_)⟩⟩
        rcases hr with ⟨-, hr, hR⟩ | ⟨-, hr, -, hp, -⟩
        · exact Or.inl ⟨hr, hR.same⟩
        · exact Or.inr ⟨by rw [hr]; exact nI_pos (by omega), hp⟩
      · intro r26 σ27 hr hG27
        refine go _ _ hG27.gb (OUT_n (nmid1 (by rw [c]; decide)) ?_)
        rcases hr with ⟨-, hr, hR⟩ | ⟨-, hr, -, hp, -⟩
        · exact Or.inl ⟨hr, hR.same⟩
        · exact Or.inr ⟨by rw [hr]; exact nI_pos (by omega), hp⟩
      · refine ⟨by decide, fun v28 _ => ⟨by decide, fun v29 _ r30 σ31 hr hG31 => go _ _ hG31.gb (OUT_m (hmid.mpr (by rw [c]; decide)) ?_)⟩⟩
        rcases hr with ⟨-, hr, hR⟩ | ⟨c9, hok, hr, -, hp, -⟩
        · exact Or.inl ⟨hr, hR.same⟩
        · refine Or.inr ⟨m1000 ?_, hp⟩
          obtain ⟨-, b2, -, -, b5⟩ := hX c9 (by have := hok.1; omega)
          have := b5 hok.2.2.1
          rw [hr]
          omega
      · refine ⟨by decide, fun v32 _ => ⟨by decide, fun v33 _ r34 σ35 hr hG35 => go _ _ hG35.gb (OUT_m (hmid.mpr (by rw [c]; decide)) ?_)⟩⟩
        rcases hr with ⟨-, hr, hR⟩ | ⟨c9, hok, hr, -, hp, -⟩
        · exact Or.inl ⟨hr, hR.same⟩
        · refine Or.inr ⟨m1000 ?_, hp⟩
          rcases hr with hr | hr <;> rw [hr] <;> decide
      · refine ⟨by decide, fun v36 _ => ⟨by decide, fun v37 _ => ⟨by decide, fun v38 _ r39 σ40 hr hG40 => go _ _ hG40.gb (OUT_m (hmid.mpr (by rw [c]; decide)) ?_)⟩⟩⟩
        rcases hr with ⟨-, hr, hR⟩ | ⟨c9, hok, ⟨u, v, hu, hv, hr⟩, -, hp, -⟩
        · exact Or.inl ⟨hr, hR.same⟩
        · refine Or.inr ⟨m1000 ?_, hp⟩
          rw [hr, pk_sub_toInt (by omega) (by omega)]
          omega
      · have e5 : (if (1 : Int32) < r17 then r17 else (1 : Int32)) = nI (if 1 < σ.1.2.1 then σ.1.2.1 else 1) := by
          rw [e17]
          have hc6 := hB.1
          by_cases z : 1 < σ.1.2.1
          · rw [if_pos z, if_pos (show (1 : Int32) < nI σ.1.2.1 from nI_lt (a := 1) z (by omega))]
          · rw [if_neg z, if_neg (show ¬ (1 : Int32) < nI σ.1.2.1 from nI_nlt (a := 1) (b := σ.1.2.1) (by omega) (by omega))]
            rfl
        rw [e5]
        have hc6 := hB.1
        refine pt_store (by split <;> omega) (by split <;> omega) (fun t ht => ?_)
        refine pt_writeU hG18 (by have := ht.1; omega) (fun r44 σ43 hG43 ho => go _ _ hG43 (OUT_n (nmid5 (by rw [c]; decide)) ho))
      · refine ⟨by decide, fun v45 _ r46 σ47 hr hG47 => go _ _ hG47.gb (OUT_n (nmid5 (by rw [c]; decide)) ?_)⟩
        rcases hr with ⟨-, hr, hR⟩ | ⟨j, hj, -, hr, hp, -⟩
        · exact Or.inl ⟨by rw [hr]; decide, hR.same⟩
        · exact Or.inr ⟨by rw [hr]; exact nI_pos (by omega), hp⟩
      · refine ⟨by decide, fun v48 _ r49 σ50 hr hG50 => go _ _ hG50.gb (OUT_n (nmid5 (by rw [c]; decide)) ?_)⟩
        rcases hr with ⟨-, hr, hR⟩ | ⟨j, z, hj, -, -, hr, ⟨a1, a2, a3, -, -⟩, -, -⟩ | ⟨j, hj, -, -, hck, -, hp, -⟩
        · exact Or.inl ⟨by rw [hr]; decide, hR.same⟩
        · exact Or.inl ⟨by rw [hr]; decide, a1, a2, a3⟩
        · obtain ⟨nm, nu, -, hr, -⟩ := hck
          have := DF_le nm σ18.1.1.2.2.2.2.1 nu σ18.1.1.2.2.2.2.2.1 6
          exact Or.inr ⟨by rw [hr]; exact nI_pos (by omega), hp⟩
      · have h8 : y % 9 = 8 := by
          have g : ∀ j, j < 9 → ¬ v21 = nI j → y % 9 ≠ j := fun j hj h z => h (by rw [ev, z])
          have g0 := g 0 (by omega) c0
          have g1 := g 1 (by omega) c1
          have g2 := g 2 (by omega) c2
          have g3 := g 3 (by omega) c3
          have g4 := g 4 (by omega) c4
          have g5 := g 5 (by omega) c5
          have g6 := g 6 (by omega) c6
          have g7 := g 7 (by omega) c7
          omega
        intro r51 σ52 hr hG52
        refine go _ _ hG52.gb (OUT_n (nmid5 (by rw [ev, h8]; decide)) ?_)
        rcases hr with ⟨hr, hR⟩ | ⟨⟨k, hk, hr⟩, hp, -⟩
        · exact Or.inl ⟨by rw [hr]; decide, hR.same⟩
        · exact Or.inr ⟨by rw [hr]; exact nI_pos (by omega), hp⟩
theorem pt_undone (hK : ∀ σ, K 1 σ) (hn : sn < 2147483648) {σ : AB} (hG : GB σ) : wp_L_undone K sn sg σ := pu_loop hK hn 7 0 0 _ σ (by omega) (by omega) (by omega) hG (Nat.zero_le _) (fun r hr => absurd hr (Nat.not_lt_zero r))
end PU
