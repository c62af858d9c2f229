/-! the reference's typing of a whole text -/
section TM2
variable {T : Nat} {k w f : Nat → Nat} {kd lo hi s nu sg : Nat → Int32}
/-- the tokens as the reference reads them -/
def TK (T : Nat) (k w f : Nat → Nat) (sg nu : Nat → Int32) : Prop := ∀ p, p < T → sg p = nI (f p) ∧ (k p = 0 ∨ k p = 1 ∨ k p = 7 → nu p = nI (w p)) ∧ FSk (k p) (w p) (f p)
def TMQ (k : Nat → Nat) (op : Nat → (Nat → Option TV) → Option TV) (p : Nat) (o : Int32 × (Nat → Int64) × (Nat → Int64) × (Nat → Int32)) : Prop :=
  (vG op p = none → o.1 = nI 1) ∧ ∀ a, vG op p = some a → o.1 = nI 0 ∧ RT o.2.2.2 o.2.1 o.2.2.1 (DD k (p + 1)) (fun i => VG op (p + 1) (SS k (p + 1) i)) ∧ (k p = 7 → bo a.1 = true ∧ o.2.2.2 (DD k (p + 1)) = a.1 ∧ (a.1 = 0 → o.2.1 (DD k (p + 1)) = a.2.1 ∧ o.2.2.1 (DD k (p + 1)) = a.2.2))
theorem tM_rk {p : Nat} (hk : k p = 2 ∨ k p = 3 ∨ k p = 4) (hsh : SH T k) (hp : p < T) (hsg : sg p = nI (f p)) (hF : FSk (k p) (w p) (f p)) {l h : Nat → Int64} {iB : Nat → Int32} (hR : RT iB l h (DD k p) (fun i => VG (tyP kd lo hi k w) p (SS k p i))) :
    Ok (g_X12_isFault nu sg l h iB s (nI p) (nI (DD k p))) (TMQ k (tyP kd lo hi k w) p) := by
  obtain ⟨h7, hf, h5⟩ := hsh.2.2 p hp
  have hTT := hsh.1
  have hs := DD_s k p
  have hv := vT_at kd lo hi k w p
  have hd5 := DD_le hsh p (by omega)
  have hf2 : fnd (k p) = 2 := by rcases hk with e | e | e <;> rw [e] <;> rfl
  have hly : ly (k p) = 1 := by rcases hk with e | e | e <;> rw [e] <;> rfl
  obtain ⟨n, hn⟩ : ∃ n, DD k p = n + 2 := ⟨DD k p - 2, by rw [hf2] at hf; omega⟩
  have hs' : DD k (p + 1) = n + 1 := by rw [hs, hf2, hly, hn]; omega
  have ht : tyOp kd lo hi (k p) (w p) = fun x y => x.bind fun a => y.bind fun b => rkT (k p) a b := by
    unfold tyOp
    rcases hk with e | e | e <;> rw [e] <;> rfl
  rw [ht, hf2, hn] at hv
  obtain ⟨x, q1, q2, q3, q4⟩ := hR n (by omega)
  obtain ⟨y, r1, r2, r3, r4⟩ := hR (n + 1) (by omega)
  dsimp only at q1 r1
  simp only [Nat.add_sub_cancel, show n + 2 - 1 = n + 1 from rfl] at hv
  rw [q1, r1] at hv
  have hv' : vG (tyP kd lo hi k w) p = rkT (k p) x y := hv
  unfold rkT at hv'
  have h7' : k p ≠ 7 := by omega
  rw [hn]
  refine ok_e (mF_rk hk (by omega) (by omega) hsg hF) ?_
  unfold rkOk
  rw [q3, r3, x_Ls, x_Ls]
  by_cases h1 : x.1 = y.1
  · rw [if_pos h1] at hv'
    rw [if_pos h1.symm]
    by_cases h2 : x.1 = 0
    · obtain ⟨a1, a2⟩ := q4 h2
      obtain ⟨b1, b2⟩ := r4 (h1.symm.trans h2)
      rw [if_pos h2] at hv'
      rw [if_pos (h1.symm.trans h2), a1, a2, b1, b2]
      by_cases h3 : exc3 (lo4 (nI (k p)) x.2.1 x.2.2 y.2.1 y.2.2) = 0 ∧ exc3 (hi4 (nI (k p)) x.2.1 x.2.2 y.2.1 y.2.2) = 0
      · rw [if_pos h3] at hv'
        rw [if_pos ⟨rng_exc.mpr h3.1, rng_exc.mpr h3.2⟩]
        refine ⟨fun z => (by rw [hv'] at z; cases z), fun a ha => ?_⟩
        rw [hv'] at ha
        cases ha
        refine ⟨rfl, ?_, fun z => absurd z h7'⟩
        rw [hs']
        exact RT_put hR (by omega) (fun i hi' => FG_old (Or.inr (by omega)) (by omega)) ((FG_top h7' hs'.symm).trans hv') rfl (q3.trans h2) (fun _ => ⟨x_Ls, x_Ls⟩) (fun i hi' => ⟨rfl, x_Ln (by omega), x_Ln (by omega)⟩)
      · rw [if_neg h3] at hv'
        rw [if_neg (fun z => h3 ⟨rng_exc.mp z.1, rng_exc.mp z.2⟩)]
        exact ⟨fun _ => rfl, fun a ha => by rw [hv'] at ha; cases ha⟩
    · rw [if_neg h2] at hv'
      rw [if_neg (fun z => h2 (h1.trans z))]
      refine ⟨fun z => (by rw [hv'] at z; cases z), fun a ha => ?_⟩
      rw [hv'] at ha
      cases ha
      refine ⟨rfl, ?_, fun z => absurd z h7'⟩
      rw [hs']
      exact RT_put hR (by omega) (fun i hi' => FG_old (Or.inr (by omega)) (by omega)) ((FG_top h7' hs'.symm).trans hv') q2 q3 (fun z => absurd z h2) (fun i hi' => ⟨rfl, x_Ln (by omega), x_Ln (by omega)⟩)
  · rw [if_neg h1] at hv'
    rw [if_neg (fun z => h1 z.symm)]
    exact ⟨fun _ => rfl, fun a ha => by rw [hv'] at ha; cases ha⟩
theorem tM {p : Nat} (hsh : SH T k) (hp : p < T) (hb : ∀ c, c < 6 → bo (kd c) = true) (hS : SBk s kd lo hi) (hT : TK T k w f sg nu) {l h : Nat → Int64} {iB : Nat → Int32} (hR : RT iB l h (DD k p) (fun i => VG (tyP kd lo hi k w) p (SS k p i))) :
    Ok (g_X12_isFault nu sg l h iB s (nI p) (nI (DD k p))) (TMQ k (tyP kd lo hi k w) p) := by
  obtain ⟨h7, hf, h5⟩ := hsh.2.2 p hp
  have hTT := hsh.1
  obtain ⟨hsg, hnu, hF⟩ := hT p hp
  have hs := DD_s k p
  have hv := vT_at kd lo hi k w p
  have hd5 := DD_le hsh p (by omega)
  have hFx := hF
  unfold FSk at hFx
  unfold tyOp at hv
  rcases k8 h7 with e | e | e | e | e | e | e | e
  · rw [e] at hf hs hv hF hnu
    have hw' : w p < 6 := by omega
    have hs' : DD k (p + 1) = DD k p + 1 := by rw [hs, fnd_0]; simp [ly]
    simp only [↓reduceIte] at hv
    refine ok_e (mF_0 (by omega) (by omega) hS hw' (hb _ hw') hsg hF (hnu (Or.inl rfl))) ⟨fun z => (by rw [hv] at z; cases z), fun a ha => ?_⟩
    rw [hv] at ha
    cases ha
    refine ⟨rfl, ?_, fun z => by omega⟩
    rw [hs']
    refine RT_put hR (Nat.le_refl _) (fun i hi' => FG_old (Or.inr (by omega)) hi') ((FG_top (by omega) hs'.symm).trans hv) (hb _ hw') x_us (fun z => ?_) (fun i hi' => ⟨x_un (by omega), ?_, ?_⟩)
    · have z' : kd (w p) = 0 := z
      simp only [z', ↓reduceIte]
      exact ⟨x_Ls, x_Ls⟩
    · split <;> exact x_Ln (by omega)
    · split <;> exact x_Ln (by omega)
  · rw [e] at hf hs hv hF hnu
    have hs' : DD k (p + 1) = DD k p + 1 := by rw [hs, fnd_1]; simp [ly]
    simp only [↓reduceIte, Nat.one_ne_zero] at hv
    refine ok_e (mF_1 (by omega) (by omega) hsg hF (hnu (Or.inr (Or.inl rfl)))) ⟨fun z => (by rw [hv] at z; cases z), fun a ha => ?_⟩
    rw [hv] at ha
    cases ha
    refine ⟨rfl, ?_, fun z => by omega⟩
    rw [hs']
    exact RT_put hR (Nat.le_refl _) (fun i hi' => FG_old (Or.inr (by omega)) hi') ((FG_top (by omega) hs'.symm).trans hv) rfl x_us (fun _ => ⟨x_Ls, x_Ls⟩) (fun i hi' => ⟨x_un (by omega), x_Ln (by omega), x_Ln (by omega)⟩)
  · exact tM_rk (Or.inl e) hsh hp hsg hF hR
  · exact tM_rk (Or.inr (Or.inl e)) hsh hp hsg hF hR
  · exact tM_rk (Or.inr (Or.inr e)) hsh hp hsg hF hR
  · rw [e] at hf hs hv hF
    obtain ⟨n, hn⟩ : ∃ n, DD k p = n + 1 := ⟨DD k p - 1, by rw [fnd_5] at hf; omega⟩
    have hs' : DD k (p + 1) = n + 1 := by rw [hs, fnd_5, hn]; simp [ly]
    simp only [↓reduceIte, fnd_5, hn, Nat.add_sub_cancel] at hv
    obtain ⟨x, q1, q2, q3, q4⟩ := hR n (by omega)
    dsimp only at q1
    rw [q1] at hv
    rw [hn]
    refine ok_e (mF_5 (by omega) (by omega) hsg hF) ?_
    rw [q3]
    have hv' : vG (tyP kd lo hi k w) p = if x.1 = 1 then none else some (1, -99, 99) := hv
    by_cases hx : x.1 = 1
    · rw [if_pos hx] at hv'
      rw [if_pos (show x.1 = nI 1 from hx)]
      exact ⟨fun _ => rfl, fun a ha => by rw [hv'] at ha; cases ha⟩
    · rw [if_neg hx] at hv'
      rw [if_neg (show ¬ x.1 = nI 1 from hx)]
      refine ⟨fun z => (by rw [hv'] at z; cases z), fun a ha => ?_⟩
      rw [hv'] at ha
      cases ha
      refine ⟨rfl, ?_, fun z => by omega⟩
      rw [hs']
      exact RT_put hR (by omega) (fun i hi' => FG_old (Or.inr (by omega)) (by omega)) ((FG_top (by omega) hs'.symm).trans hv') rfl x_us (fun z => absurd z (by decide)) (fun i hi' => ⟨x_un (by omega), x_Ln (by omega), x_Ln (by omega)⟩)
  · rw [e] at hf hs hv hF
    obtain ⟨n, hn⟩ : ∃ n, DD k p = n + 1 := ⟨DD k p - 1, by rw [fnd_6] at hf; omega⟩
    have hs' : DD k (p + 1) = n + 1 := by rw [hs, fnd_6, hn]; simp [ly]
    simp only [↓reduceIte, fnd_6, hn, Nat.add_sub_cancel] at hv
    obtain ⟨x, q1, q2, q3, q4⟩ := hR n (by omega)
    dsimp only at q1
    rw [q1] at hv
    rw [hn]
    refine ok_e (mF_6 (by omega) (by omega) hsg hF) ?_
    rw [q3]
    have hv' : vG (tyP kd lo hi k w) p = if x.1 = 0 then none else some (0, -99, 99) := hv
    by_cases hx : x.1 = 0
    · rw [if_pos hx] at hv'
      rw [if_pos (show x.1 = nI 0 from hx)]
      exact ⟨fun _ => rfl, fun a ha => by rw [hv'] at ha; cases ha⟩
    · rw [if_neg hx] at hv'
      rw [if_neg (show ¬ x.1 = nI 0 from hx)]
      refine ⟨fun z => (by rw [hv'] at z; cases z), fun a ha => ?_⟩
      rw [hv'] at ha
      cases ha
      refine ⟨rfl, ?_, fun z => by omega⟩
      rw [hs']
      exact RT_put hR (by omega) (fun i hi' => FG_old (Or.inr (by omega)) (by omega)) ((FG_top (by omega) hs'.symm).trans hv') rfl x_us (fun z => ⟨x_Ls, x_Ls⟩) (fun i hi' => ⟨x_un (by omega), x_Ln (by omega), x_Ln (by omega)⟩)
  · rw [e] at hf hs hv hF hnu
    obtain ⟨n, hn⟩ : ∃ n, DD k p = n + 1 := ⟨DD k p - 1, by rw [fnd_7] at hf; omega⟩
    have hw' : w p < 6 := by omega
    have hs' : DD k (p + 1) = n := by rw [hs, fnd_7, hn]; simp [ly]
    simp only [↓reduceIte, fnd_7, hn, Nat.add_sub_cancel] at hv
    obtain ⟨x, q1, q2, q3, q4⟩ := hR n (by omega)
    dsimp only at q1
    rw [q1] at hv
    rw [hn]
    have hv' : vG (tyP kd lo hi k w) p = stT kd lo hi (w p) x := hv
    unfold stT at hv'
    have hRT : RT iB l h n (fun i => VG (tyP kd lo hi k w) (p + 1) (SS k (p + 1) i)) := RT_less hR (by omega) (fun i hi' => FG_old (Or.inl e) (by omega))
    refine ok_e (mF_7 (by omega) (by omega) hS hw' (hb _ hw') hsg hF (hnu (Or.inr (Or.inr rfl)))) ?_
    rw [q3]
    have fin : ∀ a : TV, a = x → TMQ k (tyP kd lo hi k w) p (nI 0, l, h, iB) ∨ vG (tyP kd lo hi k w) p ≠ some a := by
      intro a ha
      by_cases hh : vG (tyP kd lo hi k w) p = some a
      · refine Or.inl ⟨fun z => (by rw [hh] at z; cases z), fun b hb' => ?_⟩
        rw [hh] at hb'
        cases hb'
        subst ha
        rw [hs']
        exact ⟨rfl, hRT, fun _ => ⟨q2, q3, q4⟩⟩
      · exact Or.inr hh
    by_cases h1 : x.1 = kd (w p)
    · rw [if_pos h1] at hv' ⊢
      by_cases h2 : x.1 = 0
      · obtain ⟨r1, r2⟩ := q4 h2
        rw [if_pos h2] at hv'
        rw [if_pos (show x.1 = nI 0 from h2), r1, r2]
        by_cases h3 : HL lo hi (w p) x.2.1 = true ∧ HL lo hi (w p) x.2.2 = true
        · rw [if_pos h3] at hv' ⊢
          exact (fin x rfl).resolve_right (fun z => z hv')
        · rw [if_neg h3] at hv' ⊢
          exact ⟨fun _ => rfl, fun a ha => by rw [hv'] at ha; cases ha⟩
      · rw [if_neg h2] at hv'
        rw [if_neg (show ¬ x.1 = nI 0 from h2)]
        exact (fin x rfl).resolve_right (fun z => z hv')
    · rw [if_neg h1] at hv' ⊢
      exact ⟨fun _ => rfl, fun a ha => by rw [hv'] at ha; cases ha⟩
abbrev RF (T : Nat) (k : Nat → Nat) (op : Nat → (Nat → Option TV) → Option TV) (tk sp ms : Int32) (nu sg : Nat → Int32) (o : Int32 × Int32 × Int32 × Int32 × Int32 × (Nat → Int32) × (Nat → Int32) × (Nat → Int64) × (Nat → Int64) × (Nat → Int32) × (Nat → Int64) × (Nat → Int64) × (Nat → Int32)) : Prop :=
  ∃ f, FV op T f ∧ o.1 = fcode f ∧ o.2.1 = tk ∧ o.2.2.1 = sp ∧ o.2.2.2.1 = ms ∧ o.2.2.2.2.2.1 = nu ∧ o.2.2.2.2.2.2.1 = sg ∧ (f = none → o.2.2.2.2.1 = nI (NS k T) ∧ SR k op T o.2.2.2.2.2.2.2.2.2.2.2.2 o.2.2.2.2.2.2.2.2.2.2.1 o.2.2.2.2.2.2.2.2.2.2.2.1)
theorem lM (hsh : SH T k) (hb : ∀ c, c < 6 → bo (kd c) = true) (hS : SBk s kd lo hi) (hT : TK T k w f sg nu) (sp ms : Int32) :
    ∀ (n p : Nat) (iB sB : Nat → Int32) (l h sL sH : Nat → Int64), p ≤ T → T - p < n → (∀ q, q < p → vG (tyP kd lo hi k w) q ≠ none) → RT iB l h (DD k p) (fun i => VG (tyP kd lo hi k w) p (SS k p i)) → SR k (tyP kd lo hi k w) p sB sL sH →
      Ok (g_X12_faultOf_b14 s n h sH iB sB l sL nu sg (nI T) sp ms (nI (NS k p)) (nI (DD k p)) (nI p)) (RF T k (tyP kd lo hi k w) (nI T) sp ms nu sg)
  | 0, p, _, _, _, _, _, _, _, h, _, _, _ => absurd h (Nat.not_lt_zero _)
  | n + 1, p, iB, sB, l, h, sL, sH, hp, hn, hq, hR, hS' => by
    unfold g_X12_faultOf_b14
    have hTT := hsh.1
    by_cases c : p = T
    · subst c
      refine ok_t (nI_le (Nat.le_refl _) (by omega)) (ok_s ⟨none, hq, rfl, rfl, rfl, rfl, rfl, rfl, fun _ => ⟨rfl, hS'⟩⟩)
    · have hp' : p < T := by omega
      have hns := NS_le k p
      obtain ⟨h7, hf, h5⟩ := hsh.2.2 p hp'
      obtain ⟨hsg, hnu, hF⟩ := hT p hp'
      have hd5 := DD_le hsh p hp
      refine ok_f (nI_ge hp' (by omega)) ?_
      refine ok_b (tM hsh hp' hb hS hT hR) (fun o ho => ?_)
      obtain ⟨h0, h1⟩ := ho
      cases hv : vG (tyP kd lo hi k w) p with
      | none =>
        refine ok_f (by rw [h0 hv]; decide) (ok_s ⟨some p, ⟨hp', hv, hq⟩, rfl, rfl, rfl, rfl, rfl, rfl, fun z => by cases z⟩)
      | some a =>
        obtain ⟨e1, e4, e5⟩ := h1 a hv
        refine ok_t e1 ?_
        refine ok_be (kM_more (by omega) hsg hF) (ok_l (ok_c (x_inb (by omega) (by omega)) ?_))
        rw [mr_next h7 hf hd5, x_cl (by omega), hsg]
        have hq' : ∀ q, q < p + 1 → vG (tyP kd lo hi k w) q ≠ none := fun q hq' => by
          by_cases c : q = p
          · rw [c, hv]; exact fun z => by cases z
          · exact hq q (by omega)
        by_cases hk7 : k p = 7
        · have hf61 : f p = 61 := by unfold FSk at hF; omega
          obtain ⟨b0, b1, b2⟩ := e5 hk7
          refine ok_t (by rw [hf61]; rfl) (ok_c (x_inb (by omega) (by omega)) (ok_c (x_inb (by omega) (by omega)) (ok_c (x_inb (by omega) (by omega)) (ok_c (x_inb (by omega) (by omega)) (ok_c (x_inb (by omega) (by omega)) (ok_c (x_inb (by omega) (by omega)) (ok_l ?_)))))))
          unfold g_X12_faultOf_b107
          refine ok_l ?_
          rw [nI_1, nI_1, x_cl (by omega), x_cl (by omega), b1, x_nb b0]
          have hns' : NS k (p + 1) = NS k p + 1 := by rw [NS_s, if_pos hk7]
          have := lM hsh hb hS hT sp ms n (p + 1) o.2.2.2 (upd sB (NS k p) a.1) o.2.1 o.2.2.1 (vp_updL sL (NS k p) (o.2.1 (DD k (p + 1)))) (vp_updL sH (NS k p) (o.2.2.1 (DD k (p + 1)))) (by omega) (by omega) hq' e4 (SR_next hS' (fun _ b hb' => by
            rw [hv] at hb'; cases hb'
            exact ⟨x_us, fun z => ⟨x_Ls.trans (b2 z).1, x_Ls.trans (b2 z).2⟩⟩) (fun j hj => ⟨x_un (by omega), x_Ln (by omega), x_Ln (by omega)⟩))
          rw [hns'] at this
          exact this
        · have hf61 : f p ≠ 61 := by unfold FSk at hF; omega
          have hf127 : f p < 127 := by unfold FSk at hF; omega
          refine ok_f (fun z => hf61 (nI_inj (by omega) (by omega) (show nI (f p) = nI 61 from z))) ?_
          unfold g_X12_faultOf_b107
          refine ok_l ?_
          rw [nI_1]
          have hns' : NS k (p + 1) = NS k p := by rw [NS_s, if_neg hk7]; rfl
          have := lM hsh hb hS hT sp ms n (p + 1) o.2.2.2 sB o.2.1 o.2.2.1 sL sH (by omega) (by omega) hq' e4 (SR_next hS' (fun z => absurd z hk7) (fun j hj => ⟨rfl, rfl, rfl⟩))
          rw [hns'] at this
          exact this
end TM2
