/-! the class's cooking: the spoons and the contents are told as the values by places say -/
def RC (iB mn : Nat → Int32) (mu : Nat → UInt32) (n : Nat) (f : Nat → Option CV) : Prop := ∀ i, i < n → ∃ a, f i = some a ∧ CAN a ∧ iB i = a.1 ∧ (a.1 = 0 → mn i = a.2.1) ∧ (a.1 ≠ 0 → mu i = a.2.2)
theorem RC_put {iB iB' mn mn' : Nat → Int32} {mu mu' : Nat → UInt32} {n m : Nat} {f f' : Nat → Option CV} {a : CV} (hR : RC iB mn mu m f) (hm : n ≤ m) (hf : ∀ i, i < n → f' i = f i) (hn : f' n = some a) (hc : CAN a) (h1 : iB' n = a.1) (h2 : a.1 = 0 → mn' n = a.2.1) (h3 : a.1 ≠ 0 → mu' n = a.2.2) (ho : ∀ i, i < n → iB' i = iB i ∧ mn' i = mn i ∧ mu' i = mu i) : RC iB' mn' mu' (n + 1) f' := by
  intro i hi
  by_cases e : i = n
  · subst e; exact ⟨a, hn, hc, h1, h2, h3⟩
  · obtain ⟨b, q1, q2, q3, q4, q5⟩ := hR i (by omega)
    obtain ⟨e1, e2, e3⟩ := ho i (by omega)
    exact ⟨b, by rw [hf i (by omega)]; exact q1, q2, by rw [e1]; exact q3, fun z => by rw [e2]; exact q4 z, fun z => by rw [e3]; exact q5 z⟩
theorem RC_less {iB mn : Nat → Int32} {mu : Nat → UInt32} {n m : Nat} {f f' : Nat → Option CV} (hR : RC iB mn mu m f) (hm : n ≤ m) (hf : ∀ i, i < n → f' i = f i) : RC iB mn mu n f' := fun i hi => by
  obtain ⟨a, q⟩ := hR i (by omega)
  exact ⟨a, by rw [hf i hi]; exact q.1, q.2⟩
theorem LA_lt {k w : Nat → Nat} {c : Nat} : ∀ p q, LA k w c p = some q → q < p
  | 0, q, h => by cases h
  | p + 1, q, h => by
    by_cases e : k p = 7 ∧ w p = c
    · have h' : LA k w c (p + 1) = some p := if_pos e
      rw [h'] at h
      cases h
      exact Nat.lt_succ_self _
    · have h' : LA k w c (p + 1) = LA k w c p := if_neg e
      rw [h'] at h
      exact Nat.lt_succ_of_lt (LA_lt p q h)
theorem LA_is {k w : Nat → Nat} {c : Nat} : ∀ p q, LA k w c p = some q → k q = 7 ∧ w q = c
  | 0, q, h => by cases h
  | p + 1, q, h => by
    by_cases e : k p = 7 ∧ w p = c
    · have h' : LA k w c (p + 1) = some p := if_pos e
      rw [h'] at h
      cases h
      exact e
    · have h' : LA k w c (p + 1) = LA k w c p := if_neg e
      rw [h'] at h
      exact LA_is p q h
def NC (k w : Nat → Nat) (c : Nat) : Nat → Nat
  | 0 => 0
  | p + 1 => NC k w c p + (if k p = 7 ∧ w p = c then 1 else 0)
theorem NC_le (k w : Nat → Nat) (c : Nat) : ∀ p, NC k w c p ≤ p
  | 0 => Nat.le_refl 0
  | p + 1 => by
    have h := NC_le k w c p
    show NC k w c p + (if k p = 7 ∧ w p = c then 1 else 0) ≤ p + 1
    split <;> omega
/-- the content of a cauldron at a place -/
def nwO (kd lo hi : Nat → Int32) (CN : Nat → CV) (k w : Nat → Nat) (p c : Nat) : Option CV := NWv CN k w (fun q => vG (ckP kd lo hi CN k w) q) p c
def NWR (kd lo hi : Nat → Int32) (CN : Nat → CV) (k w : Nat → Nat) (p : Nat) (nm : Nat → Int32) (nu : Nat → UInt32) : Prop := ∀ c, c < 6 → ∃ a, nwO kd lo hi CN k w p c = some a ∧ CAN a ∧ a.1 = kd c ∧ nm c = a.2.1 ∧ nu c = a.2.2
section NWS
variable {kd lo hi : Nat → Int32} {CN : Nat → CV} {k w : Nat → Nat} {p : Nat} {nm nm' : Nat → Int32} {nu nu' : Nat → UInt32}
theorem NWv_VG (c : Nat) : NWv CN k w (VG (ckP kd lo hi CN k w) p) p c = nwO kd lo hi CN k w p c := by
  unfold nwO NWv
  cases h : LA k w c p with
  | none => rfl
  | some q => exact VG_old p (LA_lt p q h)
theorem vC_at : vG (ckP kd lo hi CN k w) p = ckOp kd lo hi (k p) (w p) (VG (ckP kd lo hi CN k w) p (SS k p (DD k p - fnd (k p)))) (VG (ckP kd lo hi CN k w) p (SS k p (DD k p - 1))) (nwO kd lo hi CN k w p (w p)) := by
  rw [vG_eq]
  show ckOp kd lo hi (k p) (w p) (VG (ckP kd lo hi CN k w) p (SS k p (DD k p - fnd (k p)))) (VG (ckP kd lo hi CN k w) p (SS k p (DD k p - 1))) (NWv CN k w (VG (ckP kd lo hi CN k w) p) p (w p)) = _
  rw [NWv_VG]
theorem NWR_keep (h : NWR kd lo hi CN k w p nm nu) (h7 : k p ≠ 7) : NWR kd lo hi CN k w (p + 1) nm nu := by
  intro c hc
  have e : LA k w c (p + 1) = LA k w c p := if_neg (fun z => h7 z.1)
  have : nwO kd lo hi CN k w (p + 1) c = nwO kd lo hi CN k w p c := by
    unfold nwO NWv
    rw [e]
  rw [this]
  exact h c hc
theorem NWR_store (h : NWR kd lo hi CN k w p nm nu) (h7 : k p = 7) {a : CV} (hv : vG (ckP kd lo hi CN k w) p = some a) (ha : CAN a) (hk : a.1 = kd (w p)) (h1 : nm' (w p) = a.2.1) (h2 : nu' (w p) = a.2.2) (ho : ∀ c, c ≠ w p → nm' c = nm c ∧ nu' c = nu c) : NWR kd lo hi CN k w (p + 1) nm' nu' := by
  intro c hc
  by_cases e : w p = c
  · subst e
    have e : LA k w (w p) (p + 1) = some p := if_pos ⟨h7, rfl⟩
    have : nwO kd lo hi CN k w (p + 1) (w p) = vG (ckP kd lo hi CN k w) p := by
      unfold nwO NWv
      rw [e]
    rw [this]
    exact ⟨a, hv, ha, hk, h1, h2⟩
  · have e' : LA k w c (p + 1) = LA k w c p := if_neg (fun z => e z.2)
    have : nwO kd lo hi CN k w (p + 1) c = nwO kd lo hi CN k w p c := by
      unfold nwO NWv
      rw [e']
    rw [this]
    obtain ⟨o1, o2⟩ := ho c (fun z => e z.symm)
    rw [o1, o2]
    exact h c hc
end NWS
abbrev C2O : Type := Int32 × Int32 × Int32 × Int32 × (Nat → Int32) × (Nat → UInt32) × (Nat → Int32) × (Nat → Int32) × (Nat → UInt32) × (Nat → Int32)
def ST (k w : Nat → Nat) (p : Nat) (st : Nat → Int32) : Prop := ∀ c, c < 6 → st c = nI (NC k w c p)
theorem ST_keep {k w : Nat → Nat} {p : Nat} {st : Nat → Int32} (h : ST k w p st) (h7 : k p ≠ 7) : ST k w (p + 1) st := fun c hc => by
  have : NC k w c (p + 1) = NC k w c p + 0 := by
    show NC k w c p + (if k p = 7 ∧ w p = c then 1 else 0) = _
    rw [if_neg (fun z => h7 z.1)]
  rw [this]
  exact h c hc
theorem ST_store {k w : Nat → Nat} {p : Nat} {st : Nat → Int32} (h : ST k w p st) (h7 : k p = 7) (hw : w p < 6) : ST k w (p + 1) (upd st (w p) (st (w p) + 1)) := fun c hc => by
  by_cases e : c = w p
  · subst e
    have : NC k w (w p) (p + 1) = NC k w (w p) p + 1 := by
      show NC k w (w p) p + (if k p = 7 ∧ w p = w p then 1 else 0) = _
      rw [if_pos ⟨h7, rfl⟩]
    rw [this, x_us, h _ hc, nI_1]
  · have : NC k w c (p + 1) = NC k w c p + 0 := by
      show NC k w c p + (if k p = 7 ∧ w p = c then 1 else 0) = _
      rw [if_neg (fun z => e z.2.symm)]
    rw [this, x_un e]
    exact h c hc
/-- what cooking a token gives, by its value -/
def C2Q (kd lo hi : Nat → Int32) (CN : Nat → CV) (k w : Nat → Nat) (p : Nat) (o : C2O) : Prop :=
  (vG (ckP kd lo hi CN k w) p = none → o.1 = nI 0 ∧ (o.2.1, o.2.2.1) = czP kd k w p (VG (ckP kd lo hi CN k w) p)) ∧ ∀ a, vG (ckP kd lo hi CN k w) p = some a → o.1 = nI 1 ∧ o.2.2.2.1 = nI (DD k (p + 1)) ∧ NWR kd lo hi CN k w (p + 1) o.2.2.2.2.1 o.2.2.2.2.2.1 ∧ RC o.2.2.2.2.2.2.1 o.2.2.2.2.2.2.2.1 o.2.2.2.2.2.2.2.2.1 (DD k (p + 1)) (fun i => VG (ckP kd lo hi CN k w) (p + 1) (SS k (p + 1) i)) ∧ ST k w (p + 1) o.2.2.2.2.2.2.2.2.2
section T2B
variable {T : Nat} {k w : Nat → Nat} {kd lo hi : Nat → Int32} {CN : Nat → CV} {p : Nat} {iB mn nm st : Nat → Int32} {mu nu : Nat → UInt32} {ca cd : Int32}
theorem CAN_d (v : Int32) : CAN (0, v, 0) := ⟨rfl, fun _ => rfl, fun z => absurd rfl z, ff_0⟩
theorem CAN_b {x : UInt32} (h : FF x) : CAN (1, 0, x) := ⟨rfl, fun z => absurd z (show ¬ (1 : Int32) = 0 by decide), fun _ => rfl, h⟩
theorem t2_rk (hk : k p = 2 ∨ k p = 3 ∨ k p = 4) (hsh : SH T k) (hp : p < T) (hR : RC iB mn mu (DD k p) (fun i => VG (ckP kd lo hi CN k w) p (SS k p i))) (hN : NWR kd lo hi CN k w p nm nu) (hST : ST k w p st) :
    Ok (g_X2_goesToken ca cd (nI (DD k p)) kd nm nu iB mn mu lo hi st (nI (k p)) (nI (w p))) (C2Q kd lo hi CN k w p) := by
  obtain ⟨h7, hf, h5⟩ := hsh.2.2 p hp
  have hs := DD_s k p
  have hv := vC_at (kd := kd) (lo := lo) (hi := hi) (CN := CN) (k := k) (w := w) (p := p)
  have hd5 := DD_le hsh p (by omega)
  have hf2 : fnd (k p) = 2 := by rcases hk with e | e | e <;> rw [e] <;> rfl
  have hly : ly (k p) = 1 := by rcases hk with e | e | e <;> rw [e] <;> rfl
  obtain ⟨n, hn⟩ : ∃ n, DD k p = n + 2 := ⟨DD k p - 2, by rw [hf2] at hf; omega⟩
  have hs' : DD k (p + 1) = n + 1 := by rw [hs, hf2, hly, hn]; omega
  obtain ⟨x, q1, q2, q3, q4, q5⟩ := hR n (by omega)
  obtain ⟨y, r1, r2, r3, r4, r5⟩ := hR (n + 1) (by omega)
  dsimp only at q1 r1
  have hck : ∀ z, ckOp kd lo hi (k p) (w p) (some x) (some y) z = rkC (k p) x y := by
    intro z
    unfold ckOp
    rcases hk with e | e | e <;> rw [e] <;> rfl
  have hcz : czP kd k w p (VG (ckP kd lo hi CN k w) p) = if x.1 = y.1 then (nI 8, exc3 (lrk (nI (k p)) x.2.1.toInt64 y.2.1.toInt64)) else (nI 7, -1) := by
    unfold czP czOp
    rw [hf2, hn]
    simp only [Nat.add_sub_cancel, show n + 2 - 1 = n + 1 from rfl]
    rw [q1, r1]
    rcases hk with e | e | e <;> rw [e] <;> rfl
  rw [hf2, hn] at hv
  simp only [Nat.add_sub_cancel, show n + 2 - 1 = n + 1 from rfl] at hv
  rw [q1, r1, hck] at hv
  unfold rkC at hv
  rw [hn, k2_rk hk (by omega)]
  unfold g_X2_goesToken_b140
  have h7' : k p ≠ 7 := by omega
  refine ok_be (k_X2_reckon (by omega) (fun z1 z => ?_)) ?_
  · have hx : x.1 ≠ 0 := fun e => z (q3.trans e)
    have hy : y.1 ≠ 0 := fun e => z (z1.trans (r3.trans e))
    rw [q5 hx, r5 hy]
    exact ⟨q2.2.2.2, r2.2.2.2⟩
  · rw [q3, r3]
    by_cases h1 : x.1 = y.1
    · rw [if_pos h1] at hv hcz ⊢
      by_cases h2 : x.1 = 0
      · rw [if_pos h2] at hv
        rw [if_pos (show x.1 = nI 0 from h2), q4 h2, r4 (h1.symm.trans h2)]
        by_cases h3 : exc3 (lrk (nI (k p)) x.2.1.toInt64 y.2.1.toInt64) = 0
        · rw [if_pos h3] at hv
          rw [if_pos (show _ = nI 0 from h3)]
          refine ok_c rfl (ok_s ⟨fun z => (by rw [hv] at z; cases z), fun a ha => ?_⟩)
          rw [hv] at ha
          cases ha
          refine ⟨rfl, by rw [hs'], NWR_keep hN h7', ?_, ST_keep hST h7'⟩
          rw [hs']
          exact RC_put hR (by omega) (fun i hi' => FG_old (Or.inr (by omega)) (by omega)) ((FG_top h7' hs'.symm).trans hv) (CAN_d _) (q3.trans h2) (fun _ => x_us) (fun z => absurd rfl z) (fun i hi' => ⟨rfl, x_un (by omega), rfl⟩)
        · rw [if_neg h3] at hv
          rw [if_neg (show ¬ _ = nI 0 from h3)]
          exact ok_c rfl (ok_s ⟨fun _ => ⟨rfl, hcz.symm⟩, fun a ha => by rw [hv] at ha; cases ha⟩)
      · rw [if_neg h2] at hv
        rw [if_neg (show ¬ x.1 = nI 0 from h2), q5 h2, r5 (fun z => h2 (h1.trans z))]
        refine ok_c rfl (ok_s ⟨fun z => (by rw [hv] at z; cases z), fun a ha => ?_⟩)
        rw [hv] at ha
        cases ha
        refine ⟨rfl, by rw [hs'], NWR_keep hN h7', ?_, ST_keep hST h7'⟩
        rw [hs']
        refine RC_put hR (by omega) (fun i hi' => FG_old (Or.inr (by omega)) (by omega)) ((FG_top h7' hs'.symm).trans hv) (CAN_b (ff_hld (ff_frk _ q2.2.2.2 r2.2.2.2))) ?_ (fun z => absurd z (show ¬ (1 : Int32) = 0 by decide)) (fun _ => x_vs) (fun i hi' => ⟨rfl, rfl, x_vn (by omega)⟩)
        show iB n = 1
        rw [q3]
        rcases x_bob q2.1 with z | z
        · exact absurd z h2
        · exact z
    · rw [if_neg h1] at hv hcz ⊢
      exact ok_c rfl (ok_s ⟨fun _ => ⟨rfl, hcz.symm⟩, fun a ha => by rw [hv] at ha; cases ha⟩)
theorem t2 (hsh : SH T k) (hp : p < T) (hw : k p = 0 ∨ k p = 7 → w p < 6) (hb : ∀ c, c < 6 → bo (kd c) = true) (hR : RC iB mn mu (DD k p) (fun i => VG (ckP kd lo hi CN k w) p (SS k p i))) (hN : NWR kd lo hi CN k w p nm nu) (hST : ST k w p st) :
    Ok (g_X2_goesToken ca cd (nI (DD k p)) kd nm nu iB mn mu lo hi st (nI (k p)) (nI (w p))) (C2Q kd lo hi CN k w p) := by
  obtain ⟨h7, hf, h5⟩ := hsh.2.2 p hp
  have hs := DD_s k p
  have hv := vC_at (kd := kd) (lo := lo) (hi := hi) (CN := CN) (k := k) (w := w) (p := p)
  have hd5 := DD_le hsh p (by omega)
  have hcz : czP kd k w p (VG (ckP kd lo hi CN k w) p) = czOp kd (k p) (w p) (VG (ckP kd lo hi CN k w) p (SS k p (DD k p - fnd (k p)))) (VG (ckP kd lo hi CN k w) p (SS k p (DD k p - 1))) := rfl
  unfold ckOp at hv
  unfold czOp at hcz
  rcases k8 h7 with e | e | e | e | e | e | e | e
  · have hw' := hw (Or.inl e)
    rw [e] at hf hs hv
    have hn : DD k p < 5 := by rw [fnd_0] at hs; simp [ly] at hs; omega
    have hs' : DD k (p + 1) = DD k p + 1 := by rw [hs, fnd_0]; simp [ly]
    simp only [↓reduceIte] at hv
    obtain ⟨a, n1, n2, n3, n4, n5⟩ := hN (w p) hw'
    rw [n1] at hv
    rw [e]
    refine ok_e (k2_0 hn hw' (hb _ hw')) ⟨fun z => (by rw [hv] at z; cases z), fun b hb' => ?_⟩
    rw [hv] at hb'
    cases hb'
    refine ⟨rfl, by rw [hs'], NWR_keep hN (by omega), ?_, ST_keep hST (by omega)⟩
    rw [hs']
    exact RC_put hR (Nat.le_refl _) (fun i hi' => FG_old (Or.inr (by omega)) hi') ((FG_top (by omega) hs'.symm).trans hv) n2 (x_us.trans n3.symm) (fun _ => x_us.trans n4) (fun _ => x_vs.trans n5) (fun i hi' => ⟨x_un (by omega), x_un (by omega), x_vn (by omega)⟩)
  · rw [e] at hf hs hv
    have hn : DD k p < 5 := by rw [fnd_1] at hs; simp [ly] at hs; omega
    have hs' : DD k (p + 1) = DD k p + 1 := by rw [hs, fnd_1]; simp [ly]
    simp only [↓reduceIte, Nat.one_ne_zero] at hv
    rw [e]
    refine ok_e (k2_1 hn) ⟨fun z => (by rw [hv] at z; cases z), fun a ha => ?_⟩
    rw [hv] at ha
    cases ha
    refine ⟨rfl, by rw [hs'], NWR_keep hN (by omega), ?_, ST_keep hST (by omega)⟩
    rw [hs']
    exact RC_put hR (Nat.le_refl _) (fun i hi' => FG_old (Or.inr (by omega)) hi') ((FG_top (by omega) hs'.symm).trans hv) (CAN_d _) x_us (fun _ => x_us) (fun z => absurd rfl z) (fun i hi' => ⟨x_un (by omega), x_un (by omega), x_vn (by omega)⟩)
  · exact t2_rk (Or.inl e) hsh hp hR hN hST
  · exact t2_rk (Or.inr (Or.inl e)) hsh hp hR hN hST
  · exact t2_rk (Or.inr (Or.inr e)) hsh hp hR hN hST
  · rw [e] at hf hs hv hcz
    obtain ⟨n, hn⟩ : ∃ n, DD k p = n + 1 := ⟨DD k p - 1, by rw [fnd_5] at hf; omega⟩
    have hs' : DD k (p + 1) = n + 1 := by rw [hs, fnd_5, hn]; simp [ly]
    simp only [↓reduceIte, fnd_5, hn, Nat.add_sub_cancel] at hv
    have hcz' : czP kd k w p (VG (ckP kd lo hi CN k w) p) = (nI 7, -1) := hcz
    obtain ⟨x, q1, q2, q3, q4, q5⟩ := hR n (by omega)
    dsimp only at q1
    rw [q1] at hv
    rw [hn, e]
    refine ok_e (k2_5 (by omega)) ?_
    rw [q3]
    have hv' : vG (ckP kd lo hi CN k w) p = if x.1 = 1 then none else some (1, 0, hld (FP.i2f x.2.1)) := hv
    by_cases hx : x.1 = 1
    · rw [if_pos hx] at hv'
      rw [if_pos (show x.1 = nI 1 from hx)]
      exact ⟨fun _ => ⟨rfl, hcz'.symm⟩, fun a ha => by rw [hv'] at ha; cases ha⟩
    · have hx0 : x.1 = 0 := (x_bob q2.1).resolve_right hx
      rw [if_neg hx] at hv'
      rw [if_neg (show ¬ x.1 = nI 1 from hx), q4 hx0]
      refine ⟨fun z => (by rw [hv'] at z; cases z), fun a ha => ?_⟩
      rw [hv'] at ha
      cases ha
      refine ⟨rfl, by rw [hs'], NWR_keep hN (by omega), ?_, ST_keep hST (by omega)⟩
      rw [hs']
      exact RC_put hR (by omega) (fun i hi' => FG_old (Or.inr (by omega)) (by omega)) ((FG_top (by omega) hs'.symm).trans hv') (CAN_b (ff_toBroth _)) x_us (fun z => absurd z (show ¬ (1 : Int32) = 0 by decide)) (fun _ => x_vs) (fun i hi' => ⟨x_un (by omega), rfl, x_vn (by omega)⟩)
  · rw [e] at hf hs hv hcz
    obtain ⟨n, hn⟩ : ∃ n, DD k p = n + 1 := ⟨DD k p - 1, by rw [fnd_6] at hf; omega⟩
    have hs' : DD k (p + 1) = n + 1 := by rw [hs, fnd_6, hn]; simp [ly]
    simp only [↓reduceIte, fnd_6, hn, Nat.add_sub_cancel] at hv
    have hcz' : czP kd k w p (VG (ckP kd lo hi CN k w) p) = (nI 7, -1) := hcz
    obtain ⟨x, q1, q2, q3, q4, q5⟩ := hR n (by omega)
    dsimp only at q1
    rw [q1] at hv
    rw [hn, e]
    refine ok_e (k2_6 (by omega)) ?_
    rw [q3]
    have hv' : vG (ckP kd lo hi CN k w) p = if x.1 = 0 then none else some (0, clip (FP.f2i x.2.2), 0) := hv
    by_cases hx : x.1 = 0
    · rw [if_pos hx] at hv'
      rw [if_pos (show x.1 = nI 0 from hx)]
      exact ⟨fun _ => ⟨rfl, hcz'.symm⟩, fun a ha => by rw [hv'] at ha; cases ha⟩
    · rw [if_neg hx] at hv'
      rw [if_neg (show ¬ x.1 = nI 0 from hx), q5 hx]
      refine ⟨fun z => (by rw [hv'] at z; cases z), fun a ha => ?_⟩
      rw [hv'] at ha
      cases ha
      refine ⟨rfl, by rw [hs'], NWR_keep hN (by omega), ?_, ST_keep hST (by omega)⟩
      rw [hs']
      exact RC_put hR (by omega) (fun i hi' => FG_old (Or.inr (by omega)) (by omega)) ((FG_top (by omega) hs'.symm).trans hv') (CAN_d _) x_us (fun _ => x_us) (fun z => absurd rfl z) (fun i hi' => ⟨x_un (by omega), x_un (by omega), rfl⟩)
  · have hw' := hw (Or.inr e)
    rw [e] at hf hs hv hcz
    obtain ⟨n, hn⟩ : ∃ n, DD k p = n + 1 := ⟨DD k p - 1, by rw [fnd_7] at hf; omega⟩
    have hs' : DD k (p + 1) = n := by rw [hs, fnd_7, hn]; simp [ly]
    simp only [↓reduceIte, fnd_7, hn, Nat.add_sub_cancel] at hv hcz
    obtain ⟨x, q1, q2, q3, q4, q5⟩ := hR n (by omega)
    dsimp only at q1
    rw [q1] at hv hcz
    have hv' : vG (ckP kd lo hi CN k w) p = stC kd lo hi (w p) x := hv
    have hcz' : czP kd k w p (VG (ckP kd lo hi CN k w) p) = if x.1 = kd (w p) then (nI 3, x.2.1) else (nI 7, nI (w p)) := hcz
    unfold stC at hv'
    have hRC : RC iB mn mu n (fun i => VG (ckP kd lo hi CN k w) (p + 1) (SS k (p + 1) i)) := RC_less hR (by omega) (fun i hi' => FG_old (Or.inl e) (by omega))
    obtain ⟨old, n1, n2, n3, n4, n5⟩ := hN (w p) hw'
    rw [hn, e]
    refine ok_e (k2_7 (by omega) hw') ?_
    rw [q3]
    by_cases h1 : x.1 = kd (w p)
    · rw [if_pos h1] at hv' hcz' ⊢
      by_cases h2 : x.1 = 0
      · rw [if_pos h2] at hv'
        rw [if_pos (show x.1 = nI 0 from h2), q4 h2]
        by_cases h3 : HL lo hi (w p) x.2.1.toInt64 = true
        · rw [if_pos h3] at hv' ⊢
          refine ⟨fun z => (by rw [hv'] at z; cases z), fun a ha => ?_⟩
          rw [hv'] at ha
          cases ha
          refine ⟨rfl, by rw [hs'], NWR_store hN e hv' q2 h1 x_us ?_ (fun c hc => ⟨x_un hc, rfl⟩), by rw [hs']; exact hRC, ST_store hST e hw'⟩
          show nu (w p) = x.2.2
          rw [n5, n2.2.1 (n3.trans (h1.symm.trans h2)), q2.2.1 h2]
        · rw [if_neg h3] at hv' ⊢
          exact ⟨fun _ => ⟨rfl, hcz'.symm⟩, fun a ha => by rw [hv'] at ha; cases ha⟩
      · rw [if_neg h2] at hv'
        rw [if_neg (show ¬ x.1 = nI 0 from h2), q5 h2]
        refine ⟨fun z => (by rw [hv'] at z; cases z), fun a ha => ?_⟩
        rw [hv'] at ha
        cases ha
        refine ⟨rfl, by rw [hs'], NWR_store hN e hv' q2 h1 ?_ x_vs (fun c hc => ⟨rfl, x_vn hc⟩), by rw [hs']; exact hRC, ST_store hST e hw'⟩
        show nm (w p) = x.2.1
        rw [n4, n2.2.2.1 (fun z => h2 (h1.trans (n3.symm.trans z))), q2.2.2.1 h2]
    · rw [if_neg h1] at hv' hcz' ⊢
      exact ⟨fun _ => ⟨rfl, hcz'.symm⟩, fun a ha => by rw [hv'] at ha; cases ha⟩
end T2B
