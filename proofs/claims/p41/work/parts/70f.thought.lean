/-! THE LAW's thought holds: the walk -/
section TH9
variable {B0 : BB} {K : Int32 → AB → Prop}
/-- what thought keeps -/
def TH (B0 : BB) (σ : AB) : Prop := GOK σ ∧ BEB σ.1 B0
theorem TH_nc {σ : AB} (h : TH B0 σ) : σ.1.2.1 = B0.2.1 := by rw [h.2.2]
theorem TH_ns {σ : AB} (h : TH B0 σ) : σ.1.2.2.1 = B0.2.2.1 := by rw [h.2.2]
theorem TH_ck {σ : AB} (h : TH B0 σ) (h0 : ∀ j, j < 4 → B0.1.2.2.2.2.2.2.2.2.2.2.2 j = 0) : ∀ j, j < 4 → σ.1.1.2.2.2.2.2.2.2.2.2.2.2 j = 0 := fun j hj => (h.2.1.2.2.2.2.2.2.2.2.2.2.2 j hj).trans (h0 j hj)
/-- what would be in cauldrons, as a row -/
def WR9 (B : BB) (i m : Nat) (f : Nat → Int32) : Prop := ∀ c, c < m → f c = f_would B (nI i) (nI c)
section UN9
variable {σ σ1 : AB} {k8 : Int32 → Int32 → AB → Prop} {x1 : Int32} {i : Nat} {f3 : Nat → Int32}
/-- behind a cooking that held: undone -/
theorem pt_undo (hT : TH B0 σ) (hp : PUSHED σ σ1) (hk : KEPTR σ σ1) (h3 : ∀ c, c < σ.1.2.1 → f3 c = bt9 σ.1 c) (hgo : ∀ σ', TH B0 σ' → k8 x1 (nI (i + 1)) σ') : wp_L_thought_b340 K k8 x1 (nI i) σ.2.2.2.2.2.2 1 σ.1.2.1 f3 σ1 := by
  obtain ⟨⟨LS, SE, hB, -⟩, hch, -, -⟩ := hT.1
  have h6 := hB.1
  unfold wp_L_thought_b340
  refine ⟨fun z => absurd z (by decide), fun _ => ?_⟩
  intro r2 σ3 hr hG
  obtain ⟨p1, p2, p3⟩ := hp
  have hpos : 0 < σ1.2.1 := by rw [p1]; split <;> omega
  have hle : σ1.2.1 ≤ 6 := by rw [p1]; split <;> omega
  rcases hr with ⟨hr, -, -⟩ | ⟨-, hr, hbe, -, -, hk3, -⟩
  · omega
  refine ⟨fun z => absurd (nI_pos (show σ1.2.1 - 1 < 2147483648 by omega)) (fun y => y (by rw [← hr]; exact z)), fun _ => ?_⟩
  have hbe : BEB σ3.1 σ.1 := BEB_tr hbe p2
  have hT3 : TH B0 σ3 := ⟨hG, BEB_tr hbe hT.2⟩
  have e3 : σ3.1.2.1 = σ.1.2.1 := by rw [hbe.2]
  refine pt_bits (by omega) (fun f hf => ?_)
  rw [e3] at hf ⊢
  have hu : UNL f3 f σ.1.2.1 = 0 := UNL_same _ (fun c hc => by rw [h3 c hc, hf c hc]; exact (bt9_beb (by omega) (B := σ3.1) hbe (by omega)).symm)
  refine pt_unlike h6 ?_
  rw [hu]
  refine ⟨fun z => absurd z (by decide), fun _ => ?_⟩
  refine ⟨n8 (n := 6) (by decide), fun r8 e8 => ?_⟩
  rw [acc6] at e8
  have e9 : r8 = σ.2.2.2.2.2.2 := by rw [e8, hk3.2.2, hk.2.2]
  refine ⟨fun _ => ?_, fun z => absurd e9 z⟩
  intro v1 e1
  rw [e1, nI_1]
  exact hgo σ3 hT3
end UN9
/-- one spell -/
theorem pt_one (hz : B0.2.1 ≠ 0) (h0 : ∀ j, j < 4 → B0.1.2.2.2.2.2.2.2.2.2.2.2 j = 0) {k8 : Int32 → Int32 → AB → Prop} {i : Nat} (hi : i < B0.2.2.1) {σ : AB} (hT : TH B0 σ) (hgo : ∀ σ', TH B0 σ' → k8 (nI B0.2.1) (nI (i + 1)) σ') {f3 : Nat → Int32} (h3 : ∀ c, c < B0.2.1 → f3 c = bt9 σ.1 c) : ∀ n c f4, c ≤ B0.2.1 → B0.2.1 - c < n → WR9 σ.1 i c f4 → wp_L_thought_b30 K k8 n (nI B0.2.1) (nI i) (nI c) B0.2.1 f3 B0.2.1 f4 σ := by
  obtain ⟨⟨LS, SE, hB, hpast⟩, hch, hln, hin9⟩ := id hT.1
  have h6 := hB.1
  have h4 := hB.2.1
  have enc := TH_nc hT
  have ens := TH_ns hT
  have hi' : i < σ.1.2.2.1 := by omega
  intro n
  induction n with
  | zero => intro c f4 _ h; omega
  | succ n ih =>
    intro c f4 hc hm hw
    unfold wp_L_thought_b30
    refine ⟨fun q => ?_, fun q => ?_⟩
    · rw [nI_le9 (by omega) (by omega)] at q
      obtain rfl : c = B0.2.1 := by omega
      intro r13 e13 r14 e14
      rw [boils_in hi' h4] at e13
      rw [lasts_in hi' h4] at e14
      refine ⟨n8 (n := 6) (by decide), fun r15 e15 => ?_⟩
      rw [acc6] at e15
      intro r16 σ17 hr hG
      have hLle := LA9_le (B := σ.1) (i := i)
      rcases hr with ⟨hr, -, -⟩ | ⟨i9, z, hi9, ei, hbz, hr, hs, hbo, hre⟩ | ⟨i9, hi9, ei, hbn, hck, hs2, hpu, hkp⟩
      · exact absurd hr (out_no hi' (by omega))
      · obtain rfl : i = i9 := nI_inj (by omega) (by omega) ei
        have hb : BO9 σ.1 i = some z := hbz
        have h24 := rS24 hB hi'
        have hzl : z < (rS σ.1 i).1 := by
          have h1 := FN_FV (ckP σ.1.1.2.2.2.2.2.2.1 σ.1.1.2.2.2.2.2.2.2.1 σ.1.1.2.2.2.2.2.2.2.2.1 (CNo σ.1) (rS σ.1 i).2.1 (rS σ.1 i).2.2.1) (rS σ.1 i).1
          have h2 : FN (ckP σ.1.1.2.2.2.2.2.2.1 σ.1.1.2.2.2.2.2.2.2.1 σ.1.1.2.2.2.2.2.2.2.2.1 (CNo σ.1) (rS σ.1 i).2.1 (rS σ.1 i).2.2.1) (rS σ.1 i).1 = some z := hb
          rw [h2] at h1
          exact h1.1
        rw [hb] at e13
        have e13 : r13 = nI z := e13
        have hT17 : TH B0 σ17 := ⟨hG, by rw [hs.1]; exact hT.2⟩
        have hL0 : LA9 σ.1 i = 0 := LA9_boil hB hi' (by rw [hb]; exact fun y => by cases y)
        rw [hL0] at e14
        refine ⟨fun y => absurd (nI_pos (show z < 2147483648 by omega)) (fun u => u (by rw [← e13]; exact y)), fun _ => ?_⟩
        refine ⟨fun _ => ?_, fun y => absurd hr y⟩
        refine ⟨show inb (nI 0) B0.2.1 = true from x_inb (by omega) (by omega), fun _ => ?_, fun y => absurd ?_ y⟩
        · refine ⟨fun _ => ?_, fun y => absurd e14 y⟩
          refine pt_bits (by rw [hs.1]; exact h6) (fun f hf => ?_)
          rw [hs.1] at hf ⊢
          rw [enc] at hf ⊢
          have hu : UNL f3 f B0.2.1 = 0 := UNL_same _ (fun c hc => by rw [h3 c hc, hf c hc])
          refine pt_unlike (by omega) ?_
          rw [hu]
          refine ⟨fun _ => ?_, fun y => absurd rfl y⟩
          refine ⟨n8 (n := 6) (by decide), fun r26 e26 => ?_⟩
          rw [acc6] at e26
          refine ⟨fun _ => ?_, fun y => absurd (by rw [e26, hbo, e15]) y⟩
          refine ⟨rfl, fun r27 e27 => ?_⟩
          rw [hre] at e27
          refine ⟨fun _ => ?_, fun y => absurd e27 y⟩
          refine ⟨rfl, fun r28 e28 => ?_⟩
          rw [hre] at e28
          refine ⟨fun _ => ?_, fun y => absurd (by rw [e28, e13]; rfl) y⟩
          refine ⟨fun y => absurd y (by decide), fun _ v e => ?_⟩
          rw [e, nI_1]
          exact hgo σ17 hT17
        · rw [show (0 : Int32).toNatClampNeg = 0 from rfl, hw 0 (by omega)]
          exact would_boil hi' h4 (by omega) h6 (by rw [hb]; exact fun y => by cases y)
      · obtain rfl : i = i9 := nI_inj (by omega) (by omega) ei
        have hb : BO9 σ.1 i = none := hbn
        rw [hb] at e13
        have e13 : r13 = -14 := e13
        obtain ⟨LS', SE', hB17, -⟩ := hG.1
        have hB' : BOK LS SE (σ17.1.1, σ.1.2) := BOK_cooked hB hi' hck
        have es : σ17.1 = (σ17.1.1, σ.1.2) := Prod.ext rfl hs2
        obtain ⟨k1, k2, k3, k4, k5, k6⟩ := cooked_is hB hi' hb hB' hck
        rw [← es] at k1 k2 k4 k5 k6
        have hc1 : σ17.1.1.2.2.2.2.2.2.2.2.2.2.2 i = 1 := by
          obtain ⟨_, _, _, _, _, _, _, _, _, _, _, _, c11⟩ := hck
          rw [c11, x_us, TH_ck hT h0 i (by omega)]
          rfl
        have en17 : σ17.1.2.1 = σ.1.2.1 := by rw [hs2]
        have es17 : σ17.1.2.2.1 = σ.1.2.2.1 := by rw [hs2]
        rw [e15]
        refine ⟨fun _ => ?_, fun y => absurd (by rw [e13]; decide) y⟩
        refine pt_bits (by omega) (fun f hf => ?_)
        rw [en17] at hf ⊢
        rw [enc] at hf ⊢
        have hu : UNL f3 f B0.2.1 = UNL (bt9 σ.1) (bt9 σ17.1) B0.2.1 := UNL_cg _ (fun c hc => ⟨h3 c hc, hf c hc⟩)
        refine pt_unlike (by omega) ?_
        rw [hu]
        -- the flag
        have hflag : wp_L_thought_b240 K k8 (nI B0.2.1) (nI i) r14 σ.2.2.2.2.2.2 1 B0.2.1 f3 B0.2.1 f4 σ17 := by
          have hl2 : ∀ n c, c ≤ B0.2.1 → B0.2.1 - c < n → wp_L_thought_b245 K k8 n (nI B0.2.1) (nI i) r14 σ.2.2.2.2.2.2 1 (nI c) B0.2.1 f3 B0.2.1 f4 σ17 := by
            intro n
            induction n with
            | zero => intro c _ h; omega
            | succ n ih2 =>
              intro c hc hm
              unfold wp_L_thought_b245
              refine ⟨fun q => ?_, fun q => ?_⟩
              · intro r10 e10
                rw [lasts_in (by omega) (by omega)] at e10
                have hL17 := LA9_le (B := σ17.1) (i := i)
                have hfin : wp_L_thought_b335 K k8 (nI B0.2.1) (nI i) σ.2.2.2.2.2.2 B0.2.1 f3 σ17 := by
                  have h9 := pt_undo (K := K) (k8 := k8) (x1 := nI B0.2.1) (i := i) (f3 := f3) hT hpu hkp (by rw [enc]; exact h3) hgo
                  rw [enc] at h9
                  exact h9
                refine ⟨fun y => absurd y (by decide), fun _ => ?_⟩
                refine ⟨fun y => ?_, fun y => ?_⟩
                · have y0 : LA9 σ.1 i = 0 := nI_inj (b := 0) (by omega) (by omega) (e14.symm.trans y)
                  refine ⟨fun _ => hfin, fun u => absurd ?_ u⟩
                  rw [e10, k4 y0]
                  rfl
                · have y0 : LA9 σ.1 i ≠ 0 := fun u => y (by rw [e14, u]; rfl)
                  refine ⟨fun y5 => ?_, fun y5 => ?_⟩
                  · have y6 : LA9 σ.1 i = 50 := nI_inj (b := 50) (by omega) (by omega) (e14.symm.trans y5)
                    have := k5 y6
                    refine ⟨fun u => ?_, fun _ => hfin⟩
                    rw [e10] at u
                    have u : nI (LA9 σ17.1 i) < nI 49 := u
                    rw [nI_lt9 (by omega) (by omega)] at u
                    omega
                  · have y6 : LA9 σ.1 i ≠ 50 := fun u => y5 (by rw [e14, u]; rfl)
                    have := k6 y0 y6
                    refine ⟨fun _ => hfin, fun u => absurd ?_ u⟩
                    rw [e10, this, e14]
                    exact (pk_sub (a := LA9 σ.1 i) (b := 1) (by omega)).symm
              · rw [nI_le9 (by omega) (by omega)] at q
                refine ⟨fun y => absurd y (by decide), fun _ => ?_⟩
                intro r11 e11
                refine ⟨x_inb (by omega) (by omega), ?_⟩
                rw [nI_clamp (by omega)]
                have e12 : r11 = f4 c := by rw [e11, k2 c (by omega), hw c (by omega)]
                refine ⟨fun _ => ?_, fun u => absurd e12 u⟩
                intro v9 e9
                rw [e9, nI_1]
                exact ih2 (c + 1) (by omega) (by omega)
          exact hl2 7 0 (Nat.zero_le _) (by omega)
        have h222 : ∀ s, wp_L_thought_b222 K k8 (nI B0.2.1) (nI i) r14 σ.2.2.2.2.2.2 s s B0.2.1 f3 B0.2.1 f4 σ17 := by
          intro s
          refine ⟨fun _ r12 e12 => ?_, fun u => absurd rfl u⟩
          rw [sp4 (by omega) (by omega), hc1] at e12
          exact ⟨fun _ => hflag, fun u => absurd e12 u⟩
        have ek1 : r16 = nI (UNL (bt9 σ.1) (bt9 σ17.1) B0.2.1) := by rw [k1, enc]
        refine ⟨fun _ => ?_, fun u => absurd ek1 u⟩
        refine ⟨fun y => ?_, fun y => ?_⟩
        · have y0 : r14 = 0 := by rw [e14, k3.mp y]; rfl
          exact ⟨fun _ => h222 1, fun u => absurd y0 u⟩
        · have y0 : r14 ≠ 0 := fun u => y (k3.mpr (nI_inj (b := 0) (by omega) (by omega) (e14.symm.trans u)))
          exact ⟨fun u => absurd u y0, fun _ => h222 0⟩
    · rw [nI_le9 (by omega) (by omega)] at q
      have hc' : c < B0.2.1 := by omega
      intro r29 e29
      refine ⟨x_inb hc' (by omega), fun f30 e30 r31 e31 => ?_⟩
      refine ⟨x_inb hc' (by omega), ?_⟩
      rw [nI_clamp (by omega)] at e30 ⊢
      have e32 : r31 = f30 c := by rw [e30, x_us, e31, e29]
      refine ⟨fun _ v32 ev => ?_, fun u => absurd e32 u⟩
      rw [ev, nI_1]
      refine ih (c + 1) f30 (by omega) (by omega) (fun d hd => ?_)
      by_cases y : d = c
      · rw [y, e30, x_us, e29]
      · rw [e30, x_un y]
        exact hw d (by omega)
theorem pt_thought {σ : AB} (hG : GOK σ) (hz : σ.1.2.1 ≠ 0) (h0 : ∀ j, j < 4 → σ.1.1.2.2.2.2.2.2.2.2.2.2.2 j = 0) (hK : ∀ σ', GOK σ' → BEB σ'.1 σ.1 → K 1 σ') : wp_L_thought K σ := by
  have hloop : ∀ n i σ1, TH σ.1 σ1 → i ≤ σ.1.2.2.1 → σ.1.2.2.1 - i < n → wp_L_thought_b8 K n (nI σ.1.2.1) (nI i) σ1 := by
    intro n
    induction n with
    | zero => intro i σ1 _ _ h; omega
    | succ n ih =>
      intro i σ1 hT hi hm
      obtain ⟨⟨LS, SE, hB, -⟩, -⟩ := id hT.1
      have h6 := hB.1
      have h4 := hB.2.1
      have enc := TH_nc hT
      have ens := TH_ns hT
      unfold wp_L_thought_b8
      refine ⟨n8 (n := 1) (by decide), fun r33 e33 => ?_⟩
      rw [acc1, ens] at e33
      rw [e33]
      refine ⟨fun q => ?_, fun q => ?_⟩
      · refine ⟨n8 (n := 1) (by decide), fun r34 e34 => ?_⟩
        rw [acc1] at e34
        rw [e34]
        intro r35 e35
        refine ⟨fun _ => ?_, fun y => absurd (e35.trans (would_out h4 out_n)) y⟩
        intro r36 e36
        rw [← enc] at e36
        refine ⟨fun _ => ?_, fun y => absurd (e36.trans (would_out2 h6 out_n)) y⟩
        intro r37 e37
        refine ⟨fun _ => ?_, fun y => absurd (e37.trans (boils_out h4 out_m1)) y⟩
        refine ⟨n8 (n := 1) (by decide), fun r38 e38 => ?_⟩
        rw [acc1] at e38
        rw [e38]
        intro r39 e39
        refine ⟨fun _ => ?_, fun y => absurd (e39.trans (lasts_out h4 out_n)) y⟩
        intro r40 e40
        refine ⟨fun y => absurd y (by rw [e40]; decide), fun _ => ⟨rfl, hK σ1 hT.1 hT.2⟩⟩
      · rw [nI_le9 (by omega) (by omega)] at q
        refine pt_bits h6 (fun f hf => ?_)
        rw [enc] at hf ⊢
        refine ⟨σ.1.2.1, by omega, rfl, ?_⟩
        exact pt_one hz h0 (by omega) hT (fun σ' hT' => ih (i + 1) σ' hT' (by omega) (by omega)) hf 7 0 _ (Nat.zero_le _) (by omega) (fun c hc => absurd hc (Nat.not_lt_zero c))
  obtain ⟨⟨LS, SE, hB, -⟩, -⟩ := id hG
  have h4 := hB.2.1
  refine ⟨n8 (n := 0) (by decide), fun r45 e45 => ?_⟩
  rw [acc0] at e45
  rw [e45]
  exact hloop 5 0 σ ⟨hG, BEB_r⟩ (Nat.zero_le _) (by omega)
end TH9
