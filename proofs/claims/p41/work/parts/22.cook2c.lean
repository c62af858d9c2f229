/-! the class's cooking of a whole text -/
def AG {α : Type} (n : Nat) (f g : Nat → α) : Prop := ∀ c, c < n → f c = g c
theorem l_X1_copy (pm : Nat → Int32) (pu : Nat → UInt32) : ∀ (n i : Nat) (m : Nat → Int32) (u : Nat → UInt32), i ≤ 6 → 6 - i < n → AG i m pm → AG i u pu → Ok (g_X1_copy_b2 pm pu n m u (nI i)) (fun o => AG 6 o.1 pm ∧ AG 6 o.2 pu)
  | 0, i, _, _, _, h, _, _ => absurd h (Nat.not_lt_zero _)
  | n + 1, i, m, u, hi, hn, hm, hu => by
    unfold g_X1_copy_b2
    by_cases c : i = 6
    · subst c
      exact ok_t (nI_le (Nat.le_refl _) (by omega)) (ok_s ⟨hm, hu⟩)
    · refine ok_f (nI_ge (show i < 6 by omega) (show (6 : Nat) < 2147483648 by omega)) (ok_c (x_inb (by omega) (by omega)) (ok_c (x_inb (by omega) (by omega)) (ok_c (x_inb (by omega) (by omega)) (ok_c (x_inb (by omega) (by omega)) (ok_l ?_)))))
      rw [x_cl (by omega), nI_1]
      exact l_X1_copy pm pu n (i + 1) _ _ (by omega) (by omega) (fun c hc => by
        by_cases e : c = i
        · rw [e]; exact x_us
        · rw [x_un e]; exact hm c (by omega)) (fun c hc => by
        by_cases e : c = i
        · rw [e]; exact x_vs
        · rw [x_vn e]; exact hu c (by omega))
theorem k_X1_copy (m pm : Nat → Int32) (u pu : Nat → UInt32) : Ok (g_X1_copy m pm u pu) (fun o => AG 6 o.1 pm ∧ AG 6 o.2 pu) := by
  unfold g_X1_copy
  exact l_X1_copy pm pu 100 0 m u (by omega) (by omega) (fun c h => absurd h (Nat.not_lt_zero c)) (fun c h => absurd h (Nat.not_lt_zero c))
abbrev G2O : Type := Int32 × Int32 × Int32 × Int32 × Int32 × (Nat → Int32) × (Nat → Int32) × (Nat → UInt32) × (Nat → UInt32) × (Nat → Int32) × (Nat → Int32) × (Nat → Int32) × (Nat → UInt32)
/-- what cooking a text gives: boilsAt, cause and detail; else the contents, and how often each is stored -/
abbrev R2 (kd lo hi : Nat → Int32) (CN : Nat → CV) (T : Nat) (k w : Nat → Nat) (bm : Nat → Int32) (bu : Nat → UInt32) (o : G2O) : Prop :=
  ∃ f, FV (ckP kd lo hi CN k w) T f ∧ o.1 = (if f = none then nI 1 else nI 0) ∧ o.2.1 = fcode f ∧ (∀ p, f = some p → (o.2.2.1, o.2.2.2.1) = czP kd k w p (VG (ckP kd lo hi CN k w) p)) ∧ AG 6 o.2.2.2.2.2.1 bm ∧ AG 6 o.2.2.2.2.2.2.2.1 bu ∧ (f = none → NWR kd lo hi CN k w T o.2.2.2.2.2.2.1 o.2.2.2.2.2.2.2.2.1 ∧ ST k w T o.2.2.2.2.2.2.2.2.2.1)
section T2C
variable {T : Nat} {k w : Nat → Nat} {kd lo hi : Nat → Int32} {CN : Nat → CV} {ks vs bm : Nat → Int32} {bu : Nat → UInt32}
theorem l2 (hsh : SH T k) (hw : ∀ p, p < T → (k p = 0 ∨ k p = 7) → w p < 6) (hb : ∀ c, c < 6 → bo (kd c) = true) (hk : ∀ p, p < T → ks p = nI (k p) ∧ vs p = nI (w p)) :
    ∀ (n p : Nat) (xm : Nat → Int32) (xu : Nat → UInt32) (iB mn nm st : Nat → Int32) (mu nu : Nat → UInt32) (ca cd : Int32), p ≤ T → T - p < n → (∀ q, q < p → vG (ckP kd lo hi CN k w) q ≠ none) → AG 6 xm bm → AG 6 xu bu → RC iB mn mu (DD k p) (fun i => VG (ckP kd lo hi CN k w) p (SS k p i)) → NWR kd lo hi CN k w p nm nu → ST k w p st →
      Ok (g_X2_goesOn_b44 (nI T) ks vs kd lo hi n xm xu iB mn mu nm nu st ca cd (nI (DD k p)) (nI p)) (R2 kd lo hi CN T k w bm bu)
  | 0, p, _, _, _, _, _, _, _, _, _, _, _, h, _, _, _, _, _, _ => absurd h (Nat.not_lt_zero _)
  | n + 1, p, xm, xu, iB, mn, nm, st, mu, nu, ca, cd, hp, hn, hq, hxm, hxu, hR, hN, hS => by
    unfold g_X2_goesOn_b44
    have hT := hsh.1
    by_cases c : p = T
    · subst c
      exact ok_t (nI_le (Nat.le_refl _) (by omega)) (ok_s ⟨none, hq, rfl, rfl, fun p z => (by cases z), hxm, hxu, fun _ => ⟨hN, hS⟩⟩)
    · have hp' : p < T := by omega
      refine ok_f (nI_ge hp' (by omega)) (ok_c (x_inb (by omega) (by omega)) (ok_c (x_inb (by omega) (by omega)) ?_))
      rw [x_cl (by omega), (hk p hp').1, (hk p hp').2]
      refine ok_b (t2 hsh hp' (hw p hp') hb hR hN hS) (fun o ho => ?_)
      obtain ⟨h0, h1⟩ := ho
      cases hv : vG (ckP kd lo hi CN k w) p with
      | none =>
        obtain ⟨h2, h3⟩ := h0 hv
        exact ok_t h2 (ok_s ⟨some p, ⟨hp', hv, hq⟩, rfl, rfl, fun p' z => (by cases z; exact h3), hxm, hxu, fun z => (by cases z)⟩)
      | some a =>
        obtain ⟨e1, e2, e3, e4, e5⟩ := h1 a hv
        refine ok_f (by rw [e1]; decide) (ok_l ?_)
        rw [e2, nI_1]
        exact l2 hsh hw hb hk n (p + 1) xm xu o.2.2.2.2.2.2.1 o.2.2.2.2.2.2.2.1 o.2.2.2.2.1 o.2.2.2.2.2.2.2.2.2 o.2.2.2.2.2.2.2.2.1 o.2.2.2.2.2.1 o.2.1 o.2.2.1 (by omega) (by omega) (fun q hq' => by
          by_cases c : q = p
          · rw [c, hv]; exact fun z => by cases z
          · exact hq q (by omega)) hxm hxu e4 e3 e5
theorem l2z (hsh : SH T k) (hw : ∀ p, p < T → (k p = 0 ∨ k p = 7) → w p < 6) (hb : ∀ c, c < 6 → bo (kd c) = true) (hk : ∀ p, p < T → ks p = nI (k p) ∧ vs p = nI (w p)) {iB mn nm : Nat → Int32} {mu nu : Nat → UInt32} {ca cd : Int32} (hN : NWR kd lo hi CN k w 0 nm nu) :
    ∀ (n i : Nat) (xm : Nat → Int32) (xu : Nat → UInt32) (st : Nat → Int32), i ≤ 6 → 6 - i < n → AG 6 xm bm → AG 6 xu bu → AG i st (fun _ => nI 0) → Ok (g_X2_goesOn_b13 ca cd (nI T) nm nu ks vs kd iB mn mu lo hi n xm xu st (nI i)) (R2 kd lo hi CN T k w bm bu)
  | 0, i, _, _, _, _, h, _, _, _ => absurd h (Nat.not_lt_zero _)
  | n + 1, i, xm, xu, st, hi, hn, hxm, hxu, hs => by
    unfold g_X2_goesOn_b13
    by_cases c : i = 6
    · subst c
      refine ok_t (nI_le (Nat.le_refl _) (by omega)) ?_
      have hT := hsh.1
      exact l2 hsh hw hb hk 100 0 xm xu iB mn nm st mu nu ca cd (Nat.zero_le _) (by omega) (fun q z => absurd z (Nat.not_lt_zero q)) hxm hxu (fun i z => absurd z (Nat.not_lt_zero i)) hN (fun c hc => hs c hc)
    · refine ok_f (nI_ge (show i < 6 by omega) (show (6 : Nat) < 2147483648 by omega)) (ok_c (x_inb (by omega) (by omega)) (ok_l ?_))
      rw [x_cl (by omega), nI_1]
      exact l2z hsh hw hb hk hN n (i + 1) xm xu _ (by omega) (by omega) hxm hxu (fun c hc => by
        by_cases e : c = i
        · rw [e]; exact x_us
        · rw [x_un e]; exact hs c (by omega))
/-- contents that are told -/
def CNR (kd : Nat → Int32) (CN : Nat → CV) (nm : Nat → Int32) (nu : Nat → UInt32) : Prop := ∀ c, c < 6 → CAN (CN c) ∧ (CN c).1 = kd c ∧ nm c = (CN c).2.1 ∧ nu c = (CN c).2.2
theorem NWR_0 {nm : Nat → Int32} {nu : Nat → UInt32} (h : CNR kd CN nm nu) : NWR kd lo hi CN k w 0 nm nu := fun c hc => ⟨CN c, rfl, (h c hc).1, (h c hc).2.1, (h c hc).2.2.1, (h c hc).2.2.2⟩
/-- the class's cooking, from the contents that it has -/
theorem k2 (hsh : SH T k) (hw : ∀ p, p < T → (k p = 0 ∨ k p = 7) → w p < 6) (hb : ∀ c, c < 6 → bo (kd c) = true) (hk : ∀ p, p < T → ks p = nI (k p) ∧ vs p = nI (w p)) {nm : Nat → Int32} {nu : Nat → UInt32} (hC : CNR kd CN nm nu) (ba ca cd sp : Int32) (xm iB mn st : Nat → Int32) (xu mu : Nat → UInt32) :
    Ok (g_X2_goesOn ba ca cd sp (nI T) xm nm xu nu st ks vs kd iB mn mu lo hi) (R2 kd lo hi CN T k w nm nu) := by
  unfold g_X2_goesOn
  refine ok_b (k_X1_copy _ _ _ _) (fun o ho => ?_)
  exact l2z hsh hw hb hk (NWR_0 hC) 100 0 o.1 o.2 st (by omega) (by omega) ho.1 ho.2 (fun c z => absurd z (Nat.not_lt_zero c))
end T2C
