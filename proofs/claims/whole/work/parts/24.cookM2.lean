/-! the reference's cooking: told as the values by places say -/
def RD (iB : Nat → Int32) (dr : Nat → Int64) (br : Nat → UInt32) (n : Nat) (f : Nat → Option CV) : Prop := ∀ i, i < n → ∃ a, f i = some a ∧ CAN a ∧ iB i = a.1 ∧ (a.1 = 0 → dr i = a.2.1.toInt64) ∧ (a.1 ≠ 0 → br i = a.2.2) ∧ FF (br i)
theorem RD_put {iB iB' : Nat → Int32} {dr dr' : Nat → Int64} {br br' : Nat → UInt32} {n m : Nat} {f f' : Nat → Option CV} {a : CV} (hR : RD iB dr br m f) (hm : n ≤ m) (hf : ∀ i, i < n → f' i = f i) (hn : f' n = some a) (hc : CAN a) (h1 : iB' n = a.1) (h2 : a.1 = 0 → dr' n = a.2.1.toInt64) (h3 : a.1 ≠ 0 → br' n = a.2.2) (h4 : FF (br' n)) (ho : ∀ i, i < n → iB' i = iB i ∧ dr' i = dr i ∧ br' i = br i) : RD iB' dr' br' (n + 1) f' := by
  intro i hi
  by_cases e : i = n
  · subst e; exact ⟨a, hn, hc, h1, h2, h3, h4⟩
  · obtain ⟨b, q1, q2, q3, q4, q5, q6⟩ := hR i (by omega)
    obtain ⟨e1, e2, e3⟩ := ho i (by omega)
    exact ⟨b, by rw [hf i (by omega)]; exact q1, q2, by rw [e1]; exact q3, fun z => by rw [e2]; exact q4 z, fun z => by rw [e3]; exact q5 z, by rw [e3]; exact q6⟩
theorem RD_less {iB : Nat → Int32} {dr : Nat → Int64} {br : Nat → UInt32} {n m : Nat} {f f' : Nat → Option CV} (hR : RD iB dr br m f) (hm : n ≤ m) (hf : ∀ i, i < n → f' i = f i) : RD iB dr br n f' := fun i hi => by
  obtain ⟨a, q⟩ := hR i (by omega)
  exact ⟨a, by rw [hf i hi]; exact q.1, q.2⟩
theorem ff_vs {u : Nat → UInt32} {i : Nat} {x : UInt32} (h : FF x) : FF (vf_upd u i x i) := by rw [x_vs]; exact h
theorem i32_64 (v : Int32) : v.toInt64.toInt32 = v := by
  apply Int32.toInt_inj.mp
  rw [Int64.toInt_toInt32, Int32.toInt_toInt64]
  have h1 := v.minValue_le_toInt
  have h2 := v.toInt_le
  have e1 : Int32.minValue.toInt = -2147483648 := rfl
  have e2 : Int32.maxValue.toInt = 2147483647 := rfl
  rw [Int.bmod_eq_of_le] <;> omega
theorem i64_32 {v : Int64} (h : exc3 v = 0) : v.toInt32.toInt64 = v := by
  have h' := rng_exc.mpr h
  unfold rng at h'
  rw [decide_eq_true_eq, Int64.lt_iff_toInt_lt, Int64.lt_iff_toInt_lt] at h'
  have e1 : (1000000 : Int64).toInt = 1000000 := rfl
  have e2 : (-1000000 : Int64).toInt = -1000000 := rfl
  apply Int64.toInt_inj.mp
  rw [Int32.toInt_toInt64, Int64.toInt_toInt32]
  rw [Int.bmod_eq_of_le] <;> omega
/-- the reference's numbers at a place of a text that it cooks -/
def SMR (kd lo hi : Nat → Int32) (CN : Nat → CV) (k w : Nat → Nat) (p : Nat) (s0 s : Nat → Int32) (ff : Nat → UInt32) : Prop :=
  SBk s kd lo hi ∧ NWR kd lo hi CN k w p (fun c => s (4 + 5 * c + 3)) ff ∧ (∀ c, c < 6 → s (4 + 5 * c + 4) = s0 (4 + 5 * c + 4) + nI (NC k w c p)) ∧ s 3 = s0 3 + nI (NS k p) ∧ (∀ j, j < 3 ∨ 34 ≤ j → s j = s0 j)
section CMS
variable {T : Nat} {k w f : Nat → Nat} {kd lo hi : Nat → Int32} {CN : Nat → CV} {p : Nat} {s0 s sg nu iB : Nat → Int32} {ff br : Nat → UInt32} {dr : Nat → Int64} {ca cd : Int32}
theorem SMR_keep (h : SMR kd lo hi CN k w p s0 s ff) (h7 : k p ≠ 7) : SMR kd lo hi CN k w (p + 1) s0 s ff := by
  obtain ⟨h1, h2, h3, h4, h5⟩ := h
  refine ⟨h1, NWR_keep h2 h7, fun c hc => ?_, ?_, h5⟩
  · have : NC k w c (p + 1) = NC k w c p + 0 := by
      show NC k w c p + (if k p = 7 ∧ w p = c then 1 else 0) = _
      rw [if_neg (fun z => h7 z.1)]
    rw [this]
    exact h3 c hc
  · rw [NS_s, if_neg h7]
    exact h4
theorem SMR_store (h : SMR kd lo hi CN k w p s0 s ff) (h7 : k p = 7) (hw : w p < 6) {a : CV} (hv : vG (ckP kd lo hi CN k w) p = some a) (ha : CAN a) (hk : a.1 = kd (w p)) {v : Int32} {x : UInt32} (h1 : v = a.2.1) (h2 : x = a.2.2) : SMR kd lo hi CN k w (p + 1) s0 (sSt s (w p) v) (vf_upd ff (w p) x) := by
  obtain ⟨g1, g2, g3, g4, g5⟩ := h
  have o : ∀ j, j ≠ 4 + 5 * w p + 3 → j ≠ 4 + 5 * w p + 4 → j ≠ 3 → sSt s (w p) v j = s j := fun j a1 a2 a3 => by
    unfold sSt
    rw [x_un a3, x_un a2, x_un a1]
  refine ⟨fun c hc => ?_, ?_, fun c hc => ?_, ?_, fun j hj => ?_⟩
  · rw [o _ (by omega) (by omega) (by omega), o _ (by omega) (by omega) (by omega), o _ (by omega) (by omega) (by omega)]
    exact g1 c hc
  · refine NWR_store g2 h7 hv ha hk ?_ (x_vs.trans h2) (fun c hc => ⟨?_, x_vn hc⟩)
    · show sSt s (w p) v (4 + 5 * w p + 3) = a.2.1
      unfold sSt
      rw [x_un (by omega), x_un (by omega), x_us, h1]
    · show sSt s (w p) v (4 + 5 * c + 3) = s (4 + 5 * c + 3)
      exact o _ (by omega) (by omega) (by omega)
  · by_cases e : w p = c
    · subst e
      have : NC k w (w p) (p + 1) = NC k w (w p) p + 1 := by
        show NC k w (w p) p + (if k p = 7 ∧ w p = w p then 1 else 0) = _
        rw [if_pos ⟨h7, rfl⟩]
      rw [this, ← nI_1, ← Int32.add_assoc, ← g3 _ hc]
      unfold sSt
      rw [x_un (by omega), x_us]
    · have : NC k w c (p + 1) = NC k w c p + 0 := by
        show NC k w c p + (if k p = 7 ∧ w p = c then 1 else 0) = _
        rw [if_neg (fun z => e z.2)]
      rw [this, o _ (by omega) (by omega) (by omega)]
      exact g3 c hc
  · rw [NS_s, if_pos h7, ← nI_1, ← Int32.add_assoc, ← g4]
    exact x_us
  · rw [o _ (by omega) (by omega) (by omega)]
    exact g5 j hj
abbrev CMO : Type := Int32 × Int32 × Int32 × (Nat → Int32) × (Nat → Int32) × (Nat → Int64) × (Nat → UInt32) × (Nat → UInt32)
def CMQ (kd lo hi : Nat → Int32) (CN : Nat → CV) (k w : Nat → Nat) (p : Nat) (s0 : Nat → Int32) (o : CMO) : Prop :=
  (vG (ckP kd lo hi CN k w) p = none → o.1 = nI 1 ∧ (o.2.1, o.2.2.1) = czP kd k w p (VG (ckP kd lo hi CN k w) p)) ∧ ∀ a, vG (ckP kd lo hi CN k w) p = some a → o.1 = nI 0 ∧ SMR kd lo hi CN k w (p + 1) s0 o.2.2.2.2.1 o.2.2.2.2.2.2.1 ∧ RD o.2.2.2.1 o.2.2.2.2.2.1 o.2.2.2.2.2.2.2 (DD k (p + 1)) (fun i => VG (ckP kd lo hi CN k w) (p + 1) (SS k (p + 1) i))
theorem tC_rk (hk : k p = 2 ∨ k p = 3 ∨ k p = 4) (hsh : SH T k) (hp : p < T) (hsg : sg p = nI (f p)) (hF : FSk (k p) (w p) (f p)) (hR : RD iB dr br (DD k p) (fun i => VG (ckP kd lo hi CN k w) p (SS k p i))) (hS : SMR kd lo hi CN k w p s0 s ff) :
    Ok (g_X12_does ca cd sg nu iB s dr ff br (nI p) (nI (DD k p))) (CMQ kd lo hi CN k w p s0) := by
  obtain ⟨h7, hf, h5⟩ := hsh.2.2 p hp
  have hT := hsh.1
  have hs := DD_s k p
  have hv := vC_at (kd := kd) (lo := lo) (hi := hi) (CN := CN) (k := k) (w := w) (p := p)
  have hd5 := DD_le hsh p (by omega)
  have hf2 : fnd (k p) = 2 := by rcases hk with e | e | e <;> rw [e] <;> rfl
  have hly : ly (k p) = 1 := by rcases hk with e | e | e <;> rw [e] <;> rfl
  obtain ⟨n, hn⟩ : ∃ n, DD k p = n + 2 := ⟨DD k p - 2, by rw [hf2] at hf; omega⟩
  have hs' : DD k (p + 1) = n + 1 := by rw [hs, hf2, hly, hn]; omega
  obtain ⟨x, q1, q2, q3, q4, q5, q6⟩ := hR n (by omega)
  obtain ⟨y, r1, r2, r3, r4, r5, r6⟩ := hR (n + 1) (by omega)
  dsimp only at q1 r1
  have hck : ∀ z, ckOp kd lo hi (k p) (w p) (some x) (some y) z = rkC (k p) x y := by
    intro z
    unfold ckOp
    rcases hk with e | e | e <;> rw [e] <;> rfl
  have hcz : czP kd k w p (VG (ckP kd lo hi CN k w) p) = if x.1 = y.1 then (nI 8, exc3 (lrk (nI (k p)) x.2.1.toInt64 y.2.1.toInt64)) else (nI 7, -1) := by
    unfold czP czOp
    rw [hf2, hn]
    simp only [Nat.add_sub_cancel, show n + 2 - 1 = n + 1 from rfl]
    rw [q1, r1]
    rcases hk with e | e | e <;> rw [e] <;> rfl
  rw [hf2, hn] at hv
  simp only [Nat.add_sub_cancel, show n + 2 - 1 = n + 1 from rfl] at hv
  rw [q1, r1, hck] at hv
  unfold rkC at hv
  have h7' : k p ≠ 7 := by omega
  rw [hn]
  refine ok_e (mD_rk hk (by omega) (by omega) hsg hF q6 r6) ?_
  rw [q3, r3]
  by_cases h1 : x.1 = y.1
  · rw [if_pos h1] at hv hcz
    rw [if_pos h1.symm]
    by_cases h2 : x.1 = 0
    · rw [if_pos h2] at hv
      rw [q4 h2, r4 (h1.symm.trans h2)]
      by_cases h3 : exc3 (lrk (nI (k p)) x.2.1.toInt64 y.2.1.toInt64) = 0
      · rw [if_pos h3] at hv
        rw [if_neg (fun z => z.2 (rng_exc.mpr h3))]
        refine ⟨fun z => (by rw [hv] at z; cases z), fun a ha => ?_⟩
        rw [hv] at ha
        cases ha
        refine ⟨rfl, SMR_keep hS h7', ?_⟩
        rw [hs']
        exact RD_put hR (by omega) (fun i hi' => FG_old (Or.inr (by omega)) (by omega)) ((FG_top h7' hs'.symm).trans hv) (CAN_d _) (q3.trans h2) (fun _ => x_Ls.trans (i64_32 h3).symm) (fun z => absurd rfl z) (ff_vs (ff_hld (ff_frk _ q6 r6))) (fun i hi' => ⟨rfl, x_Ln (by omega), x_vn (by omega)⟩)
      · rw [if_neg h3] at hv
        rw [if_pos ⟨show y.1 = nI 0 from h1.symm.trans h2, fun z => h3 (rng_exc.mp z)⟩]
        exact ⟨fun _ => ⟨rfl, hcz.symm⟩, fun a ha => by rw [hv] at ha; cases ha⟩
    · rw [if_neg h2] at hv
      rw [if_neg (fun z => h2 (h1.trans z.1))]
      refine ⟨fun z => (by rw [hv] at z; cases z), fun a ha => ?_⟩
      rw [hv] at ha
      cases ha
      refine ⟨rfl, SMR_keep hS h7', ?_⟩
      rw [hs', q5 h2, r5 (fun z => h2 (h1.trans z))]
      refine RD_put hR (by omega) (fun i hi' => FG_old (Or.inr (by omega)) (by omega)) ((FG_top h7' hs'.symm).trans hv) (CAN_b (ff_hld (ff_frk _ q2.2.2.2 r2.2.2.2))) ?_ (fun z => absurd z (show ¬ (1 : Int32) = 0 by decide)) (fun _ => x_vs) (ff_vs (ff_hld (ff_frk _ q2.2.2.2 r2.2.2.2))) (fun i hi' => ⟨rfl, x_Ln (by omega), x_vn (by omega)⟩)
      show iB n = 1
      rw [q3]
      exact (x_bob q2.1).resolve_left h2
  · rw [if_neg h1] at hv hcz
    rw [if_neg (fun z => h1 z.symm)]
    exact ⟨fun _ => ⟨rfl, hcz.symm⟩, fun a ha => by rw [hv] at ha; cases ha⟩
theorem tC (hsh : SH T k) (hp : p < T) (hb : ∀ c, c < 6 → bo (kd c) = true) (hT : TK T k w f sg nu) (hR : RD iB dr br (DD k p) (fun i => VG (ckP kd lo hi CN k w) p (SS k p i))) (hS : SMR kd lo hi CN k w p s0 s ff) :
    Ok (g_X12_does ca cd sg nu iB s dr ff br (nI p) (nI (DD k p))) (CMQ kd lo hi CN k w p s0) := by
  obtain ⟨h7, hf, h5⟩ := hsh.2.2 p hp
  have hTT := hsh.1
  obtain ⟨hsg, hnu, hF⟩ := hT p hp
  have hs := DD_s k p
  have hv := vC_at (kd := kd) (lo := lo) (hi := hi) (CN := CN) (k := k) (w := w) (p := p)
  have hd5 := DD_le hsh p (by omega)
  have hcz : czP kd k w p (VG (ckP kd lo hi CN k w) p) = czOp kd (k p) (w p) (VG (ckP kd lo hi CN k w) p (SS k p (DD k p - fnd (k p)))) (VG (ckP kd lo hi CN k w) p (SS k p (DD k p - 1))) := rfl
  have hFx := hF
  unfold FSk at hFx
  unfold ckOp at hv
  unfold czOp at hcz
  obtain ⟨g1, g2, g3, g4, g5⟩ := hS
  have hS : SMR kd lo hi CN k w p s0 s ff := ⟨g1, g2, g3, g4, g5⟩
  rcases k8 h7 with e | e | e | e | e | e | e | e
  · rw [e] at hf hs hv hF hnu
    have hw' : w p < 6 := by omega
    have hs' : DD k (p + 1) = DD k p + 1 := by rw [hs, fnd_0]; simp [ly]
    simp only [↓reduceIte] at hv
    obtain ⟨a, n1, n2, n3, n4, n5⟩ := g2 (w p) hw'
    rw [n1] at hv
    refine ok_e (mD_0 (by omega) (by omega) g1 hw' (hb _ hw') hsg hF (hnu (Or.inl rfl))) ⟨fun z => (by rw [hv] at z; cases z), fun b hb' => ?_⟩
    rw [hv] at hb'
    cases hb'
    refine ⟨rfl, SMR_keep hS (by omega), ?_⟩
    rw [hs']
    refine RD_put hR (Nat.le_refl _) (fun i hi' => FG_old (Or.inr (by omega)) hi') ((FG_top (by omega) hs'.symm).trans hv) n2 (x_us.trans n3.symm) (fun _ => x_Ls.trans (congrArg Int32.toInt64 n4)) (fun _ => x_vs.trans n5) ?_ (fun i hi' => ⟨x_un (by omega), x_Ln (by omega), x_vn (by omega)⟩)
    exact ff_vs (by rw [n5]; exact n2.2.2.2)
  · rw [e] at hf hs hv hF hnu
    have hs' : DD k (p + 1) = DD k p + 1 := by rw [hs, fnd_1]; simp [ly]
    simp only [↓reduceIte, Nat.one_ne_zero] at hv
    refine ok_e (mD_1 (by omega) (by omega) hsg hF (hnu (Or.inr (Or.inl rfl)))) ⟨fun z => (by rw [hv] at z; cases z), fun a ha => ?_⟩
    rw [hv] at ha
    cases ha
    refine ⟨rfl, SMR_keep hS (by omega), ?_⟩
    rw [hs']
    exact RD_put hR (Nat.le_refl _) (fun i hi' => FG_old (Or.inr (by omega)) hi') ((FG_top (by omega) hs'.symm).trans hv) (CAN_d _) x_us (fun _ => x_Ls) (fun z => absurd rfl z) (ff_vs ff_0) (fun i hi' => ⟨x_un (by omega), x_Ln (by omega), x_vn (by omega)⟩)
  · exact tC_rk (Or.inl e) hsh hp hsg hF hR hS
  · exact tC_rk (Or.inr (Or.inl e)) hsh hp hsg hF hR hS
  · exact tC_rk (Or.inr (Or.inr e)) hsh hp hsg hF hR hS
  · rw [e] at hf hs hv hcz hF
    obtain ⟨n, hn⟩ : ∃ n, DD k p = n + 1 := ⟨DD k p - 1, by rw [fnd_5] at hf; omega⟩
    have hs' : DD k (p + 1) = n + 1 := by rw [hs, fnd_5, hn]; simp [ly]
    simp only [↓reduceIte, fnd_5, hn, Nat.add_sub_cancel] at hv
    have hcz' : czP kd k w p (VG (ckP kd lo hi CN k w) p) = (nI 7, -1) := hcz
    obtain ⟨x, q1, q2, q3, q4, q5, q6⟩ := hR n (by omega)
    dsimp only at q1
    rw [q1] at hv
    rw [hn]
    refine ok_e (mD_5 (by omega) (by omega) hsg hF) ?_
    rw [q3]
    have hv' : vG (ckP kd lo hi CN k w) p = if x.1 = 1 then none else some (1, 0, hld (FP.i2f x.2.1)) := hv
    by_cases hx : x.1 = 0
    · rw [if_neg (fun z => absurd (hx.symm.trans z) (by decide))] at hv'
      rw [if_pos (show x.1 = nI 0 from hx), q4 hx, i32_64]
      refine ⟨fun z => (by rw [hv'] at z; cases z), fun a ha => ?_⟩
      rw [hv'] at ha
      cases ha
      refine ⟨rfl, SMR_keep hS (by omega), ?_⟩
      rw [hs']
      exact RD_put hR (by omega) (fun i hi' => FG_old (Or.inr (by omega)) (by omega)) ((FG_top (by omega) hs'.symm).trans hv') (CAN_b (ff_toBroth _)) x_us (fun z => absurd z (show ¬ (1 : Int32) = 0 by decide)) (fun _ => x_vs) (ff_vs (ff_toBroth _)) (fun i hi' => ⟨x_un (by omega), rfl, x_vn (by omega)⟩)
    · rw [if_pos ((x_bob q2.1).resolve_left hx)] at hv'
      rw [if_neg (show ¬ x.1 = nI 0 from hx)]
      exact ⟨fun _ => ⟨rfl, hcz'.symm⟩, fun a ha => by rw [hv'] at ha; cases ha⟩
  · rw [e] at hf hs hv hcz hF
    obtain ⟨n, hn⟩ : ∃ n, DD k p = n + 1 := ⟨DD k p - 1, by rw [fnd_6] at hf; omega⟩
    have hs' : DD k (p + 1) = n + 1 := by rw [hs, fnd_6, hn]; simp [ly]
    simp only [↓reduceIte, fnd_6, hn, Nat.add_sub_cancel] at hv
    have hcz' : czP kd k w p (VG (ckP kd lo hi CN k w) p) = (nI 7, -1) := hcz
    obtain ⟨x, q1, q2, q3, q4, q5, q6⟩ := hR n (by omega)
    dsimp only at q1
    rw [q1] at hv
    rw [hn]
    refine ok_e (mD_6 (by omega) (by omega) hsg hF) ?_
    rw [q3]
    have hv' : vG (ckP kd lo hi CN k w) p = if x.1 = 0 then none else some (0, clip (FP.f2i x.2.2), 0) := hv
    by_cases hx : x.1 = 0
    · rw [if_pos hx] at hv'
      rw [if_neg (show ¬ x.1 = nI 1 from fun z => absurd (hx.symm.trans z) (by decide))]
      exact ⟨fun _ => ⟨rfl, hcz'.symm⟩, fun a ha => by rw [hv'] at ha; cases ha⟩
    · rw [if_neg hx] at hv'
      rw [if_pos (show x.1 = nI 1 from (x_bob q2.1).resolve_left hx), q5 hx]
      refine ⟨fun z => (by rw [hv'] at z; cases z), fun a ha => ?_⟩
      rw [hv'] at ha
      cases ha
      refine ⟨rfl, SMR_keep hS (by omega), ?_⟩
      rw [hs']
      exact RD_put hR (by omega) (fun i hi' => FG_old (Or.inr (by omega)) (by omega)) ((FG_top (by omega) hs'.symm).trans hv') (CAN_d _) x_us (fun _ => x_Ls) (fun z => absurd rfl z) q6 (fun i hi' => ⟨x_un (by omega), x_Ln (by omega), rfl⟩)
  · rw [e] at hf hs hv hcz hF hnu
    obtain ⟨n, hn⟩ : ∃ n, DD k p = n + 1 := ⟨DD k p - 1, by rw [fnd_7] at hf; omega⟩
    have hw' : w p < 6 := by omega
    have hs' : DD k (p + 1) = n := by rw [hs, fnd_7, hn]; simp [ly]
    simp only [↓reduceIte, fnd_7, hn, Nat.add_sub_cancel] at hv hcz
    obtain ⟨x, q1, q2, q3, q4, q5, q6⟩ := hR n (by omega)
    dsimp only at q1
    rw [q1] at hv hcz
    have hv' : vG (ckP kd lo hi CN k w) p = stC kd lo hi (w p) x := hv
    have hcz' : czP kd k w p (VG (ckP kd lo hi CN k w) p) = if x.1 = kd (w p) then (nI 3, x.2.1) else (nI 7, nI (w p)) := hcz
    unfold stC at hv'
    have hRD : RD iB dr br n (fun i => VG (ckP kd lo hi CN k w) (p + 1) (SS k (p + 1) i)) := RD_less hR (by omega) (fun i hi' => FG_old (Or.inl e) (by omega))
    rw [hn]
    refine ok_e (mD_7 (by omega) (by omega) g1 hw' (hb _ hw') hsg hF (hnu (Or.inr (Or.inr rfl)))) ?_
    rw [q3]
    by_cases h1 : x.1 = kd (w p)
    · rw [if_pos h1] at hv' hcz' ⊢
      by_cases h2 : x.1 = 0
      · rw [if_pos h2] at hv'
        rw [if_pos (show x.1 = nI 0 from h2), q4 h2, i32_64]
        by_cases h3 : HL lo hi (w p) x.2.1.toInt64 = true
        · rw [if_pos h3] at hv' ⊢
          refine ⟨fun z => (by rw [hv'] at z; cases z), fun a ha => ?_⟩
          rw [hv'] at ha
          cases ha
          exact ⟨rfl, SMR_store hS e hw' hv' q2 h1 rfl (q2.2.1 h2).symm, by rw [hs']; exact hRD⟩
        · rw [if_neg h3] at hv' ⊢
          exact ⟨fun _ => ⟨rfl, hcz'.symm⟩, fun a ha => by rw [hv'] at ha; cases ha⟩
      · rw [if_neg h2] at hv'
        rw [if_neg (show ¬ x.1 = nI 0 from h2), q5 h2]
        refine ⟨fun z => (by rw [hv'] at z; cases z), fun a ha => ?_⟩
        rw [hv'] at ha
        cases ha
        exact ⟨rfl, SMR_store hS e hw' hv' q2 h1 (q2.2.2.1 h2).symm rfl, by rw [hs']; exact hRD⟩
    · rw [if_neg h1] at hv' hcz' ⊢
      exact ⟨fun _ => ⟨rfl, hcz'.symm⟩, fun a ha => by rw [hv'] at ha; cases ha⟩
end CMS
