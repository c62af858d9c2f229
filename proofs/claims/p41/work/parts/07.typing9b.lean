/-! the class's typing: the spoons are told as the values by places say -/
def RT (iB : Nat → Int32) (l h : Nat → Int64) (n : Nat) (f : Nat → Option TV) : Prop := ∀ i, i < n → ∃ a, f i = some a ∧ bo a.1 = true ∧ iB i = a.1 ∧ (a.1 = 0 → l i = a.2.1 ∧ h i = a.2.2)
theorem RT_put {iB iB' : Nat → Int32} {l h l' h' : Nat → Int64} {n m : Nat} {f f' : Nat → Option TV} {a : TV} (hR : RT iB l h m f) (hm : n ≤ m) (hf : ∀ i, i < n → f' i = f i) (hn : f' n = some a) (hb : bo a.1 = true) (h1 : iB' n = a.1) (h2 : a.1 = 0 → l' n = a.2.1 ∧ h' n = a.2.2) (ho : ∀ i, i < n → iB' i = iB i ∧ l' i = l i ∧ h' i = h i) : RT iB' l' h' (n + 1) f' := by
  intro i hi
  by_cases e : i = n
  · subst e; exact ⟨a, hn, hb, h1, h2⟩
  · obtain ⟨b, q1, q2, q3, q4⟩ := hR i (by omega)
    obtain ⟨e1, e2, e3⟩ := ho i (by omega)
    exact ⟨b, by rw [hf i (by omega)]; exact q1, q2, by rw [e1]; exact q3, fun z => by rw [e2, e3]; exact q4 z⟩
theorem RT_less {iB : Nat → Int32} {l h : Nat → Int64} {n m : Nat} {f f' : Nat → Option TV} (hR : RT iB l h m f) (hm : n ≤ m) (hf : ∀ i, i < n → f' i = f i) : RT iB l h n f' := fun i hi => by
  obtain ⟨a, q⟩ := hR i (by omega)
  exact ⟨a, by rw [hf i hi]; exact q.1, q.2⟩
theorem vT_at (kd lo hi : Nat → Int32) (k w : Nat → Nat) (p : Nat) : vG (tyP kd lo hi k w) p = tyOp kd lo hi (k p) (w p) (VG (tyP kd lo hi k w) p (SS k p (DD k p - fnd (k p)))) (VG (tyP kd lo hi k w) p (SS k p (DD k p - 1))) := vG_eq p
section T9B
variable {T : Nat} {k w : Nat → Nat} {kd lo hi : Nat → Int32}
/-- what typing a token gives, by its value -/
def T9Q (k : Nat → Nat) (op : Nat → (Nat → Option TV) → Option TV) (p sn : Nat) (sB : Nat → Int32) (sL sH : Nat → Int64) (o : Int32 × Int32 × Int32 × (Nat → Int32) × (Nat → Int64) × (Nat → Int64) × (Nat → Int32) × (Nat → Int64) × (Nat → Int64)) : Prop :=
  (vG op p = none → o.1 = 0) ∧ ∀ a, vG op p = some a → o.1 = nI 1 ∧ o.2.1 = nI (sn + if k p = 7 then 1 else 0) ∧ o.2.2.1 = nI (DD k (p + 1)) ∧ RT o.2.2.2.1 o.2.2.2.2.1 o.2.2.2.2.2.1 (DD k (p + 1)) (fun i => VG op (p + 1) (SS k (p + 1) i)) ∧
    (k p = 7 → o.2.2.2.2.2.2.1 sn = a.1 ∧ (a.1 = 0 → o.2.2.2.2.2.2.2.1 sn = a.2.1 ∧ o.2.2.2.2.2.2.2.2 sn = a.2.2)) ∧ ∀ j, j < sn → o.2.2.2.2.2.2.1 j = sB j ∧ o.2.2.2.2.2.2.2.1 j = sL j ∧ o.2.2.2.2.2.2.2.2 j = sH j
theorem t9_rk {p q : Nat} (hk : k p = 2 ∨ k p = 3 ∨ k p = 4) (e : k p = q) (hsh : SH T k) (hp : p < T) {sn : Nat} (hsn : sn < 24) {iB sB : Nat → Int32} {l h sL sH : Nat → Int64} (hR : RT iB l h (DD k p) (fun i => VG (tyP kd lo hi k w) p (SS k p i))) :
    Ok (g_X9_passesToken (nI sn) (nI (DD k p)) kd lo hi iB l h sB sL sH (nI q) (nI (w p))) (T9Q k (tyP kd lo hi k w) p sn sB sL sH) := by
  subst e
  obtain ⟨h7, hf, h5⟩ := hsh.2.2 p hp
  have hs := DD_s k p
  have hv := vT_at kd lo hi k w p
  have hd5 := DD_le hsh p (by omega)
  have hf2 : fnd (k p) = 2 := by rcases hk with e | e | e <;> rw [e] <;> rfl
  have hly : ly (k p) = 1 := by rcases hk with e | e | e <;> rw [e] <;> rfl
  obtain ⟨n, hn⟩ : ∃ n, DD k p = n + 2 := ⟨DD k p - 2, by rw [hf2] at hf; omega⟩
  have hs' : DD k (p + 1) = n + 1 := by rw [hs, hf2, hly, hn]; omega
  have ht : tyOp kd lo hi (k p) (w p) = fun x y => x.bind fun a => y.bind fun b => rkT (k p) a b := by
    unfold tyOp
    rcases hk with e | e | e <;> rw [e] <;> rfl
  rw [ht, hf2, hn] at hv
  obtain ⟨x, q1, q2, q3, q4⟩ := hR n (by omega)
  obtain ⟨y, r1, r2, r3, r4⟩ := hR (n + 1) (by omega)
  dsimp only at q1 r1
  simp only [Nat.add_sub_cancel, show n + 2 - 1 = n + 1 from rfl] at hv
  rw [q1, r1] at hv
  have hv' : vG (tyP kd lo hi k w) p = rkT (k p) x y := hv
  unfold rkT at hv'
  rw [hn, k9_rk hk (by omega)]
  unfold g_X9_passesToken_b138
  refine ok_be (k_X9_reckon (by omega)) ?_
  rw [q3, r3]
  have h7' : k p ≠ 7 := by omega
  by_cases h1 : x.1 = y.1
  · rw [if_pos h1] at hv' ⊢
    by_cases h2 : x.1 = 0
    · obtain ⟨a1, a2⟩ := q4 h2
      obtain ⟨b1, b2⟩ := r4 (h1.symm.trans h2)
      rw [if_pos h2] at hv'
      rw [if_pos (show x.1 = nI 0 from h2), a1, a2, b1, b2]
      by_cases h3 : exc3 (lo4 (nI (k p)) x.2.1 x.2.2 y.2.1 y.2.2) = 0
      · rw [if_pos (show _ = nI 0 from h3)]
        by_cases h4 : exc3 (hi4 (nI (k p)) x.2.1 x.2.2 y.2.1 y.2.2) = 0
        · rw [if_pos ⟨h3, h4⟩] at hv'
          rw [if_pos (show _ = nI 0 from h4)]
          refine ok_c rfl (ok_s ⟨fun z => (by rw [hv'] at z; cases z), fun a ha => ?_⟩)
          rw [hv'] at ha
          cases ha
          refine ⟨rfl, by rw [if_neg h7']; rfl, by rw [hs'], ?_, fun z => absurd z h7', fun j hj => ⟨rfl, rfl, rfl⟩⟩
          rw [hs']
          exact RT_put hR (by omega) (fun i hi' => FG_old (Or.inr (by omega)) (by omega)) ((FG_top h7' hs'.symm).trans hv') rfl (q3.trans h2) (fun _ => ⟨x_Ls, x_Ls⟩) (fun i hi' => ⟨rfl, x_Ln (by omega), x_Ln (by omega)⟩)
        · rw [if_neg (fun z => h4 z.2)] at hv'
          rw [if_neg (show ¬ _ = nI 0 from h4)]
          exact ok_c rfl (ok_s ⟨fun _ => rfl, fun a ha => by rw [hv'] at ha; cases ha⟩)
      · rw [if_neg (fun z => h3 z.1)] at hv'
        rw [if_neg (show ¬ _ = nI 0 from h3)]
        exact ok_c rfl (ok_s ⟨fun _ => rfl, fun a ha => by rw [hv'] at ha; cases ha⟩)
    · rw [if_neg h2] at hv'
      rw [if_neg (show ¬ x.1 = nI 0 from h2)]
      refine ok_c rfl (ok_s ⟨fun z => (by rw [hv'] at z; cases z), fun a ha => ?_⟩)
      rw [hv'] at ha
      cases ha
      refine ⟨rfl, by rw [if_neg h7']; rfl, by rw [hs'], ?_, fun z => absurd z h7', fun j hj => ⟨rfl, rfl, rfl⟩⟩
      rw [hs']
      exact RT_put hR (by omega) (fun i hi' => FG_old (Or.inr (by omega)) (by omega)) ((FG_top h7' hs'.symm).trans hv') q2 q3 (fun z => absurd z h2) (fun i hi' => ⟨rfl, rfl, rfl⟩)
  · rw [if_neg h1] at hv' ⊢
    exact ok_c rfl (ok_s ⟨fun _ => rfl, fun a ha => by rw [hv'] at ha; cases ha⟩)
theorem t9 {p : Nat} (hsh : SH T k) (hp : p < T) (hw : k p = 0 ∨ k p = 7 → w p < 6) (hb : ∀ c, c < 6 → bo (kd c) = true) {sn : Nat} (hsn : sn < 24) {iB sB : Nat → Int32} {l h sL sH : Nat → Int64} (hR : RT iB l h (DD k p) (fun i => VG (tyP kd lo hi k w) p (SS k p i))) :
    Ok (g_X9_passesToken (nI sn) (nI (DD k p)) kd lo hi iB l h sB sL sH (nI (k p)) (nI (w p))) (T9Q k (tyP kd lo hi k w) p sn sB sL sH) := by
  obtain ⟨h7, hf, h5⟩ := hsh.2.2 p hp
  have hs := DD_s k p
  have hv := vT_at kd lo hi k w p
  have hd5 := DD_le hsh p (by omega)
  unfold tyOp at hv
  rcases k8 h7 with e | e | e | e | e | e | e | e <;> rw [e] at hf hs hv ⊢
  · -- take
    have hw' := hw (Or.inl e)
    have hn : DD k p < 5 := by rw [fnd_0] at hs; simp [ly] at hs; omega
    have hs' : DD k (p + 1) = DD k p + 1 := by rw [hs, fnd_0]; simp [ly]
    simp only [↓reduceIte] at hv
    refine ok_e (k9_0 hn hw' (hb _ hw')) ⟨fun z => (by rw [hv] at z; cases z), fun a ha => ?_⟩
    rw [hv] at ha
    cases ha
    refine ⟨rfl, by rw [e]; rfl, by rw [hs'], ?_, fun z => by omega, fun j hj => ⟨rfl, rfl, rfl⟩⟩
    rw [hs']
    exact RT_put hR (Nat.le_refl _) (fun i hi' => FG_old (Or.inr (by omega)) hi') ((FG_top (by omega) hs'.symm).trans hv) (hb _ hw') x_us (fun _ => ⟨x_Ls, x_Ls⟩) (fun i hi' => ⟨x_un (by omega), x_Ln (by omega), x_Ln (by omega)⟩)
  · have hn : DD k p < 5 := by rw [fnd_1] at hs; simp [ly] at hs; omega
    have hs' : DD k (p + 1) = DD k p + 1 := by rw [hs, fnd_1]; simp [ly]
    simp only [↓reduceIte, Nat.one_ne_zero] at hv
    refine ok_e (k9_1 hn) ⟨fun z => (by rw [hv] at z; cases z), fun a ha => ?_⟩
    rw [hv] at ha
    cases ha
    refine ⟨rfl, by rw [e]; rfl, by rw [hs'], ?_, fun z => by omega, fun j hj => ⟨rfl, rfl, rfl⟩⟩
    rw [hs']
    exact RT_put hR (Nat.le_refl _) (fun i hi' => FG_old (Or.inr (by omega)) hi') ((FG_top (by omega) hs'.symm).trans hv) rfl x_us (fun _ => ⟨x_Ls, x_Ls⟩) (fun i hi' => ⟨x_un (by omega), x_Ln (by omega), x_Ln (by omega)⟩)
  · exact t9_rk (Or.inl e) e hsh hp hsn hR
  · exact t9_rk (Or.inr (Or.inl e)) e hsh hp hsn hR
  · exact t9_rk (Or.inr (Or.inr e)) e hsh hp hsn hR
  · obtain ⟨n, hn⟩ : ∃ n, DD k p = n + 1 := ⟨DD k p - 1, by rw [fnd_5] at hf; omega⟩
    have hs' : DD k (p + 1) = n + 1 := by rw [hs, fnd_5, hn]; simp [ly]
    simp only [↓reduceIte, fnd_5, hn, Nat.add_sub_cancel] at hv
    obtain ⟨x, q1, q2, q3, q4⟩ := hR n (by omega)
    dsimp only at q1
    rw [q1] at hv
    rw [hn]
    refine ok_e (k9_5 (by omega)) ?_
    rw [q3]
    have hv' : vG (tyP kd lo hi k w) p = if x.1 = 1 then none else some (1, -99, 99) := hv
    by_cases hx : x.1 = 1
    · rw [if_pos hx] at hv'
      rw [if_pos (by rw [hx]; rfl)]
      exact ⟨fun _ => rfl, fun a ha => by rw [hv'] at ha; cases ha⟩
    · rw [if_neg hx] at hv'
      rw [if_neg (fun z => hx (by rw [z]; rfl))]
      refine ⟨fun z => (by rw [hv'] at z; cases z), fun a ha => ?_⟩
      rw [hv'] at ha
      cases ha
      refine ⟨rfl, by rw [e]; rfl, by rw [hs'], ?_, fun z => by omega, fun j hj => ⟨rfl, rfl, rfl⟩⟩
      rw [hs']
      exact RT_put hR (by omega) (fun i hi' => FG_old (Or.inr (by omega)) (by omega)) ((FG_top (by omega) hs'.symm).trans hv') rfl x_us (fun z => absurd z (by decide)) (fun i hi' => ⟨x_un (by omega), x_Ln (by omega), x_Ln (by omega)⟩)
  · obtain ⟨n, hn⟩ : ∃ n, DD k p = n + 1 := ⟨DD k p - 1, by rw [fnd_6] at hf; omega⟩
    have hs' : DD k (p + 1) = n + 1 := by rw [hs, fnd_6, hn]; simp [ly]
    simp only [↓reduceIte, fnd_6, hn, Nat.add_sub_cancel] at hv
    obtain ⟨x, q1, q2, q3, q4⟩ := hR n (by omega)
    dsimp only at q1
    rw [q1] at hv
    rw [hn]
    refine ok_e (k9_6 (by omega)) ?_
    rw [q3]
    have hv' : vG (tyP kd lo hi k w) p = if x.1 = 0 then none else some (0, -99, 99) := hv
    by_cases hx : x.1 = 0
    · rw [if_pos hx] at hv'
      rw [if_pos (by rw [hx]; rfl)]
      exact ⟨fun _ => rfl, fun a ha => by rw [hv'] at ha; cases ha⟩
    · rw [if_neg hx] at hv'
      rw [if_neg (fun z => hx (by rw [z]; rfl))]
      refine ⟨fun z => (by rw [hv'] at z; cases z), fun a ha => ?_⟩
      rw [hv'] at ha
      cases ha
      refine ⟨rfl, by rw [e]; rfl, by rw [hs'], ?_, fun z => by omega, fun j hj => ⟨rfl, rfl, rfl⟩⟩
      rw [hs']
      exact RT_put hR (by omega) (fun i hi' => FG_old (Or.inr (by omega)) (by omega)) ((FG_top (by omega) hs'.symm).trans hv') rfl x_us (fun z => ⟨x_Ls, x_Ls⟩) (fun i hi' => ⟨x_un (by omega), x_Ln (by omega), x_Ln (by omega)⟩)
  · obtain ⟨n, hn⟩ : ∃ n, DD k p = n + 1 := ⟨DD k p - 1, by rw [fnd_7] at hf; omega⟩
    have hw' := hw (Or.inr e)
    have hs' : DD k (p + 1) = n := by rw [hs, fnd_7, hn]; simp [ly]
    simp only [↓reduceIte, fnd_7, hn, Nat.add_sub_cancel] at hv
    obtain ⟨x, q1, q2, q3, q4⟩ := hR n (by omega)
    dsimp only at q1
    rw [q1] at hv
    rw [hn]
    have hv' : vG (tyP kd lo hi k w) p = stT kd lo hi (w p) x := hv
    unfold stT at hv'
    refine ok_m (k9_7 (by omega) hsn hw' (by rw [q3]; exact q2)) (fun o ho => ?_)
    obtain ⟨o1, o2⟩ := ho
    rw [q3] at o1 o2
    have hRT : RT iB l h n (fun i => VG (tyP kd lo hi k w) (p + 1) (SS k (p + 1) i)) := RT_less hR (by omega) (fun i hi' => FG_old (Or.inl e) (by omega))
    have fin : ∀ a : TV, a = x → o.1 = nI 1 → o.1 = nI 1 ∧ o.2.1 = nI (sn + if k p = 7 then 1 else 0) ∧ o.2.2.1 = nI (DD k (p + 1)) ∧ RT o.2.2.2.1 o.2.2.2.2.1 o.2.2.2.2.2.1 (DD k (p + 1)) (fun i => VG (tyP kd lo hi k w) (p + 1) (SS k (p + 1) i)) ∧ (k p = 7 → o.2.2.2.2.2.2.1 sn = a.1 ∧ (a.1 = 0 → o.2.2.2.2.2.2.2.1 sn = a.2.1 ∧ o.2.2.2.2.2.2.2.2 sn = a.2.2)) ∧ ∀ j, j < sn → o.2.2.2.2.2.2.1 j = sB j ∧ o.2.2.2.2.2.2.2.1 j = sL j ∧ o.2.2.2.2.2.2.2.2 j = sH j := by
      intro a ha h1
      subst ha
      rw [o2, hs', e]
      exact ⟨h1, rfl, rfl, hRT, fun _ => ⟨x_us, fun z => ⟨x_Ls.trans (q4 z).1, x_Ls.trans (q4 z).2⟩⟩, fun j hj => ⟨x_un (by omega), x_Ln (by omega), x_Ln (by omega)⟩⟩
    by_cases h1 : x.1 = kd (w p)
    · rw [if_pos h1] at hv' o1
      by_cases h2 : x.1 = 0
      · obtain ⟨r1, r2⟩ := q4 h2
        rw [if_pos h2] at hv'
        rw [if_pos (by rw [h2]; rfl), r1, r2] at o1
        by_cases h3 : HL lo hi (w p) x.2.1 = true
        · by_cases h4 : HL lo hi (w p) x.2.2 = true
          · rw [if_pos ⟨h3, h4⟩] at hv'
            rw [if_pos h3, if_pos h4] at o1
            exact ⟨fun z => (by rw [hv'] at z; cases z), fun a ha => fin a (by rw [hv'] at ha; exact (Option.some.inj ha).symm) o1⟩
          · rw [if_neg (fun z => h4 z.2)] at hv'
            rw [if_pos h3, if_neg h4] at o1
            exact ⟨fun _ => o1, fun a ha => by rw [hv'] at ha; cases ha⟩
        · rw [if_neg (fun z => h3 z.1)] at hv'
          rw [if_neg h3] at o1
          exact ⟨fun _ => o1, fun a ha => by rw [hv'] at ha; cases ha⟩
      · rw [if_neg h2] at hv'
        rw [if_neg (fun z => h2 (by rw [z]; rfl))] at o1
        exact ⟨fun z => (by rw [hv'] at z; cases z), fun a ha => fin a (by rw [hv'] at ha; exact (Option.some.inj ha).symm) o1⟩
    · rw [if_neg h1] at hv' o1
      exact ⟨fun _ => o1, fun a ha => by rw [hv'] at ha; cases ha⟩
end T9B
