/-! the class's cooking by stores: a store, a text -/
def CUT (a : CV) : Int32 := if a.1 = 0 then a.2.1 else FP.f2i a.2.2
theorem k_X1_cut {m : Nat → Int32} {u : Nat → UInt32} {b : Int32} {c : Nat} (hc : c < 6) : g_X1_cut m u b (nI c) = some (if b = 0 then m c else FP.f2i (u c)) := by
  unfold g_X1_cut
  simp (disch := omega) only [x_inb, e_gcT, x_cl, e_gl]
  split <;> rfl
theorem k_X0_cutContent {iB m : Nat → Int32} {u : Nat → UInt32} {c : Nat} (hc : c < 6) : g_X0_cutContent iB m u (nI c) = some (if iB c = 0 then m c else FP.f2i (u c)) := by
  unfold g_X0_cutContent
  simp (disch := omega) only [x_inb, e_gcT, x_cl, e_gl, k_X1_cut hc, e_gbS]
section S3B
variable {T : Nat} {k w : Nat → Nat} {kd lo hi : Nat → Int32} {CN : Nat → CV} {ks vs ps ls bm : Nat → Int32} {bu : Nat → UInt32}
theorem s3 (hsh : SH T k) (hR : SPR T k w ks vs ps ls) (hw : ∀ p, p < T → (k p = 0 ∨ k p = 7) → w p < 6) (hw1 : ∀ p, p < T → k p = 1 → w p ≤ 99) (hB : BND kd lo hi) (hC : CNR kd CN bm bu) (hH : CNH kd lo hi CN) {p : Nat} (hp : p < T) (e : k p = 7) (iB mn : Nat → Int32) (mu : Nat → UInt32) (hst : ∀ q, q < p → k q = 7 → C3 kd lo hi CN k w iB mn mu q) :
    Ok (g_X3_goesStore (nI T) ps vs ks iB mu mn ls kd bm bu lo hi (nI p)) (Q3 kd lo hi CN k w iB mn mu p) := by
  have hT := hsh.1
  obtain ⟨h7, hf, h5⟩ := hsh.2.2 p hp
  obtain ⟨r1, r2, r3, r4⟩ := hR p hp
  have hw' := hw p hp (Or.inr e)
  obtain ⟨b1, b2, b3, b4⟩ := hB _ hw'
  have hv := vC_at (kd := kd) (lo := lo) (hi := hi) (CN := CN) (k := k) (w := w) (p := p)
  unfold ckOp at hv
  have hf0 : 0 < fnd (k p) := by rw [e]; decide
  have hi1 : DD k p - fnd (k p) < DD k p := by omega
  have hx := SS_lt k p _ hi1
  have hx7 := SS_no7 k p _ hi1
  unfold g_X3_goesStore
  refine ok_c (x_inb (by omega) (by omega)) (ok_l (ok_c (x_inb (by omega) (by omega)) (ok_l ?_)))
  rw [x_cl (by omega), r2, r3 hf0]
  refine ok_b (p3 hsh hR hw hw1 hB hC hH 26 (SS k p (DD k p - fnd (k p))) 1 iB mn mu (by omega) (by omega) hx7 (by omega) (fun q hq e => hst q (by omega) e)) (fun o ho => ?_)
  obtain ⟨o1, o2⟩ := ho
  rw [VG_old p hx] at hv
  by_cases hxn : vG (ckP kd lo hi CN k w) (SS k p (DD k p - fnd (k p))) = none
  · have hn' : vG (ckP kd lo hi CN k w) p = none := by
      rw [hv, hxn, e]
      rfl
    exact ok_t (o1 hxn) (ok_s (Q3_n hn' rfl))
  · obtain ⟨o3, o4, o5⟩ := o2 hxn
    obtain ⟨a, a1, a2, a3, a4, a5, a6⟩ := id o4
    rw [a1, e] at hv
    have hv' : vG (ckP kd lo hi CN k w) p = stC kd lo hi (w p) a := hv
    unfold stC at hv'
    have hxp : SS k p (DD k p - fnd (k p)) ≠ p := by omega
    refine ok_f (by rw [o3]; decide) (ok_f (nI_nlt (b := 0) (by omega) (by omega)) (ok_t (nI_lt (b := 6) hw' (by omega)) (ok_c (x_inb (by omega) (by omega)) (ok_c (x_inb hw' (by omega)) ?_))))
    rw [x_cl (show SS k p (DD k p - fnd (k p)) < 2147483648 by omega), a3, x_cl (show w p < 2147483648 by omega)]
    by_cases z1 : a.1 = kd (w p)
    · rw [if_pos z1] at hv'
      refine ok_t z1 (ok_c (x_inb (by omega) (by omega)) ?_)
      by_cases z2 : a.1 = 0
      · rw [if_pos z2] at hv'
        refine ok_t z2 (ok_c (x_inb (by omega) (by omega)) ?_)
        rw [a4 z2]
        refine ok_be (k3_d (by omega) _) ?_
        by_cases z3 : HL lo hi (w p) a.2.1.toInt64 = true
        · rw [if_pos z3] at hv'
          have z4 := HL_i.mp z3
          rw [Int32.toInt_toInt64] at z4
          rw [ex1_1 (by omega) (by omega), i32_64]
          refine ok_f (show ¬ nI 1 = 0 by decide) (ok_c (x_inb (by omega) (by omega)) (ok_be (k_X0_holds hw' _) ?_))
          show Ok (if (if HL lo hi (w p) (upd o.2.2.2 p a.2.1 (SS k p (DD k p - fnd (k p)))).toInt64 = true then (1 : Int32) else 0) = 0 then _ else _) _
          rw [x_un hxp, a4 z2, if_pos z3]
          have := C3_put (iB := o.2.1) (mn := o.2.2.2) (mu := o.2.2.1) hv' a2 (iB' := upd o.2.1 p (nI 0)) (x_us.trans z2.symm) (mn' := upd o.2.2.2 p a.2.1) (mu' := o.2.2.1) (fun _ => x_us) (fun y => absurd z2 y) (fun _ => ⟨z1, fun _ => z4⟩) (fun j hj => ⟨x_un hj, x_un hj, rfl⟩)
          exact ok_f (by decide) (ok_s (Q3_s hv' rfl ⟨this.1, fun x hx => this.2 x (o5 x hx)⟩))
        · rw [if_neg z3] at hv'
          refine ok_i (fun _ => ok_s (Q3_n hv' rfl)) (fun _ => ok_c (x_inb (by omega) (by omega)) (ok_be (k_X0_holds hw' _) ?_))
          show Ok (if (if HL lo hi (w p) (upd o.2.2.2 p a.2.1.toInt64.toInt32 (SS k p (DD k p - fnd (k p)))).toInt64 = true then (1 : Int32) else 0) = 0 then _ else _) _
          rw [x_un hxp, a4 z2, if_neg z3]
          exact ok_t rfl (ok_s (Q3_n hv' rfl))
      · rw [if_neg z2] at hv'
        refine ok_f z2 (ok_c (x_inb (by omega) (by omega)) ?_)
        rw [a5 z2]
        refine ok_be (k3_b (by omega) _) ?_
        have := C3_put (iB := o.2.1) (mn := o.2.2.2) (mu := o.2.2.1) hv' a2 (iB' := upd o.2.1 p (nI 1)) (x_us.trans ((x_bob a2.1).resolve_left z2).symm) (mn' := o.2.2.2) (mu' := vf_upd o.2.2.1 p a.2.2) (fun y => absurd y z2) (fun _ => x_vs) (fun _ => ⟨z1, fun y => absurd y z2⟩) (fun j hj => ⟨x_un hj, rfl, x_vn hj⟩)
        exact ok_c rfl (ok_s (Q3_s hv' rfl ⟨this.1, fun x hx => this.2 x (o5 x hx)⟩))
    · rw [if_neg z1] at hv'
      exact ok_f z1 (ok_s (Q3_n hv' rfl))
def Q3W (kd lo hi : Nat → Int32) (CN : Nat → CV) (k w : Nat → Nat) (T : Nat) (o : O3) : Prop :=
  ((∀ q, q < T → k q = 7 → vG (ckP kd lo hi CN k w) q ≠ none) → o.1 = nI 1 ∧ ∀ q, q < T → k q = 7 → C3 kd lo hi CN k w o.2.1 o.2.2.2 o.2.2.1 q) ∧ (¬ (∀ q, q < T → k q = 7 → vG (ckP kd lo hi CN k w) q ≠ none) → o.1 = nI 0)
theorem l3 (hsh : SH T k) (hR : SPR T k w ks vs ps ls) (hw : ∀ p, p < T → (k p = 0 ∨ k p = 7) → w p < 6) (hw1 : ∀ p, p < T → k p = 1 → w p ≤ 99) (hB : BND kd lo hi) (hC : CNR kd CN bm bu) (hH : CNH kd lo hi CN) :
    ∀ (n p : Nat) (iB mn : Nat → Int32) (mu : Nat → UInt32), p ≤ T → T - p < n → (∀ q, q < p → k q = 7 → C3 kd lo hi CN k w iB mn mu q) → Ok (g_X3_goesWell_b2 (nI T) ks ps vs ls kd bm bu lo hi n iB mn mu (nI p)) (Q3W kd lo hi CN k w T)
  | 0, p, _, _, _, _, h, _ => absurd h (Nat.not_lt_zero _)
  | n + 1, p, iB, mn, mu, hp, hn, hq => by
    unfold g_X3_goesWell_b2
    have hT := hsh.1
    by_cases c : p = T
    · subst c
      exact ok_t (nI_le (Nat.le_refl _) (by omega)) (ok_s ⟨fun _ => ⟨rfl, hq⟩, fun z => absurd (fun q hq' e => by
        obtain ⟨a, a1, _⟩ := hq q hq' e
        rw [a1]
        exact fun z => by cases z) z⟩)
    · have hp' : p < T := by omega
      have h7 := (hsh.2.2 p hp').1
      refine ok_f (nI_ge hp' (by omega)) (ok_c (x_inb (by omega) (by omega)) ?_)
      rw [x_cl (by omega), (hR p hp').1]
      have nx : ∀ (iB' mn' : Nat → Int32) (mu' : Nat → UInt32), (∀ q, q < p + 1 → k q = 7 → C3 kd lo hi CN k w iB' mn' mu' q) → Ok (g_X3_goesWell_b33 (nI T) ks ps vs ls kd bm bu lo hi (g_X3_goesWell_b2 (nI T) ks ps vs ls kd bm bu lo hi n) iB' mn' mu' (nI p)) (Q3W kd lo hi CN k w T) := by
        intro iB' mn' mu' hq'
        unfold g_X3_goesWell_b33
        refine ok_l ?_
        rw [nI_1]
        exact l3 hsh hR hw hw1 hB hC hH n (p + 1) iB' mn' mu' (by omega) (by omega) hq'
      by_cases e : k p = 7
      · refine ok_t (by rw [e]; rfl) (ok_b (s3 hsh hR hw hw1 hB hC hH hp' e iB mn mu hq) (fun o ho => ?_))
        obtain ⟨o1, o2⟩ := ho
        by_cases hv : vG (ckP kd lo hi CN k w) p = none
        · exact ok_t (o1 hv) (ok_s ⟨fun z => absurd hv (z p hp' e), fun _ => rfl⟩)
        · obtain ⟨o3, o4, o5⟩ := o2 hv
          exact ok_f (by rw [o3]; decide) (nx _ _ _ (fun q hq' e' => by
            by_cases c : q = p
            · rw [c]; exact o4
            · exact o5 q (hq q (by omega) e')))
      · exact ok_f (fun z => e (nI_inj (by omega) (by omega) (show nI (k p) = nI 7 from z))) (nx _ _ _ (fun q hq' e' => hq q (by
          by_cases c : q = p
          · rw [c] at e'; exact absurd e' e
          · omega) e'))
/-- the class's cooking by stores tells what its cooking tells -/
theorem k3 (hsh : SH T k) (hR : SPR T k w ks vs ps ls) (hw : ∀ p, p < T → (k p = 0 ∨ k p = 7) → w p < 6) (hw1 : ∀ p, p < T → k p = 1 → w p ≤ 99) (hB : BND kd lo hi) (hC : CNR kd CN bm bu) (hH : CNH kd lo hi CN) (iB mn : Nat → Int32) (mu : Nat → UInt32) {f : Option Nat} (hf : FV (ckP kd lo hi CN k w) T f) :
    Ok (g_X3_goesWell (nI T) ks ps vs iB mu mn ls kd bm bu lo hi) (fun o => (o.1 = if f = none then nI 1 else nI 0) ∧ (f = none → ∀ q, q < T → k q = 7 → C3 kd lo hi CN k w o.2.1 o.2.2.2 o.2.2.1 q)) := by
  unfold g_X3_goesWell
  have hT := hsh.1
  refine ok_m (l3 hsh hR hw hw1 hB hC hH 100 0 iB mn mu (Nat.zero_le _) (by omega) (fun q z => absurd z (Nat.not_lt_zero q))) (fun o ho => ?_)
  cases f with
  | none =>
    obtain ⟨h1, h2⟩ := ho.1 (fun q hq _ => hf q hq)
    exact ⟨h1, fun _ => h2⟩
  | some q =>
    refine ⟨(ho.2 (fun z => ?_)).trans rfl, fun z => (by cases z)⟩
    obtain ⟨r, h1, h2, h3, h4⟩ := failing_store hsh ckP_strict (T - q) q (Nat.le_refl _) hf.1 hf.2.1
    exact z r h2 h3 h4
theorem k3_leaves (hsh : SH T k) (hR : SPR T k w ks vs ps ls) (hw : ∀ p, p < T → (k p = 0 ∨ k p = 7) → w p < 6) (hC : CNR kd CN bm bu) {iB mn : Nat → Int32} {mu : Nat → UInt32} (hst : ∀ q, q < T → k q = 7 → C3 kd lo hi CN k w iB mn mu q) {c : Nat} (hc : c < 6) :
    ∃ a, nwO kd lo hi CN k w T c = some a ∧ g_X3_leaves (nI T) ks vs iB mn mu kd bm bu (nI c) = some (CUT a) := by
  have hT := hsh.1
  have hla := k8_la (T := T) (k := k) (w := w) (ks := ks) (vs := vs) (j := 7) (c := c) hT (fun q hq => ⟨(hR q hq).1, (hR q hq).2.1⟩) (fun q hq => (hsh.2.2 q hq).1) (fun q hq e => hw q hq (Or.inr e)) (by omega) hc (p := T) (Nat.le_refl _)
  rw [LAk_7] at hla
  obtain ⟨c1, c2, c3, c4⟩ := hC c hc
  unfold g_X3_leaves
  rw [c_7, hla]
  cases hl : LA k w c T with
  | none =>
    refine ⟨CN c, by unfold nwO NWv; rw [hl], ?_⟩
    rw [e_gbS, if_pos (show fcode none = -1 from rfl), k_X0_cutContent hc, e_gbS]
    unfold CUT
    rw [c2, c3, c4]
  | some q =>
    have hq := LA_lt T q hl
    obtain ⟨i1, i2⟩ := LA_is T q hl
    obtain ⟨a, a1, a2, a3, a4, a5, a6⟩ := hst q hq i1
    refine ⟨a, by unfold nwO NWv; rw [hl]; exact a1, ?_⟩
    have hnm : ¬ nI q = -1 := fun z => by have := x_m1n (a := q) (by omega); rw [this] at z; exact z
    rw [e_gbS]
    show (if nI q = -1 then _ else _) = _
    rw [if_neg hnm]
    show gc (inb (nI q) 24) _ = _
    rw [x_inb (by omega) (by omega), e_gcT]
    show (if iB (nI q).toNatClampNeg = 0 then gc (inb (nI q) 24) (gl (mn (nI q).toNatClampNeg) fun v => some v) else gc (inb (nI q) 24) (gl (FP.f2i (mu (nI q).toNatClampNeg)) fun v => some v)) = _
    rw [x_cl (by omega), x_inb (by omega) (by omega), a3]
    unfold CUT
    by_cases z : a.1 = 0
    · rw [if_pos z, if_pos z, a4 z]; rfl
    · rw [if_neg z, if_neg z, a5 z]; rfl
end S3B
