/-! the class's cooking by stores -/
/-- the last token of a kind that tells a cauldron, ahead of a place -/
def LAk (j : Nat) (k w : Nat → Nat) (c : Nat) : Nat → Option Nat
  | 0 => none
  | p + 1 => if k p = j ∧ w p = c then some p else LAk j k w c p
theorem LAk_7 (k w : Nat → Nat) (c : Nat) : ∀ p, LAk 7 k w c p = LA k w c p
  | 0 => rfl
  | p + 1 => by
    show (if k p = 7 ∧ w p = c then some p else LAk 7 k w c p) = (if k p = 7 ∧ w p = c then some p else LA k w c p)
    rw [LAk_7 k w c p]
section K8
variable {T : Nat} {k w : Nat → Nat} {ks vs : Nat → Int32} {j c : Nat}
theorem l8 (hT : T ≤ 24) (hR : ∀ p, p < T → ks p = nI (k p) ∧ vs p = nI (w p)) (h7 : ∀ p, p < T → k p ≤ 7) (hw : ∀ p, p < T → k p = j → w p < 6) (hj : j ≤ 7) (hc : c < 6) : ∀ (n p : Nat), p < n → p ≤ T → g_X8_lastAhead_b12 ks vs (nI j) (nI c) n (nI p + -1) = some (fcode (LAk j k w c p))
  | 0, p, h, _ => absurd h (Nat.not_lt_zero p)
  | n + 1, 0, _, _ => by
    unfold g_X8_lastAhead_b12
    have : (nI 0 + -1 : Int32) = -1 := rfl
    rw [this]
    exact if_pos (by decide)
  | n + 1, p + 1, hn, hp => by
    unfold g_X8_lastAhead_b12 g_X8_lastAhead_b42
    rw [x_m1 (by omega), Nat.add_sub_cancel]
    have ih := l8 hT hR h7 hw hj hc n p (by omega) (by omega)
    have e : LAk j k w c (p + 1) = if k p = j ∧ w p = c then some p else LAk j k w c p := rfl
    have h7p := h7 p (by omega)
    simp (disch := omega) only [c_0, x_ltF, ↓reduceIte, x_inb, e_gcT, x_cl, (hR p (by omega)).1, (hR p (by omega)).2, e_gl]
    rw [ih, e]
    by_cases e1 : k p = j
    · have hw' := hw p (by omega) e1
      rw [if_pos (by rw [e1])]
      by_cases e2 : w p = c
      · rw [if_pos (by rw [e2]), if_pos ⟨e1, e2⟩]; rfl
      · rw [if_neg (fun z => e2 (nI_inj (by omega) (by omega) z)), if_neg (fun z => e2 z.2)]
    · rw [if_neg (fun z => e1 (nI_inj (by omega) (by omega) z)), if_neg (fun z => e1 z.1)]
theorem k8_la (hT : T ≤ 24) (hR : ∀ p, p < T → ks p = nI (k p) ∧ vs p = nI (w p)) (h7 : ∀ p, p < T → k p ≤ 7) (hw : ∀ p, p < T → k p = j → w p < 6) (hj : j ≤ 7) (hc : c < 6) {p : Nat} (hp : p ≤ T) : g_X8_lastAhead (nI T) ks vs (nI j) (nI c) (nI p) = some (fcode (LAk j k w c p)) := by
  unfold g_X8_lastAhead
  have e : (if nI T < nI p then nI T else nI p) = nI p := if_neg (nI_nlt hp (by omega))
  rw [e, e_gl, Int32.sub_eq_add_neg]
  exact l8 hT hR h7 hw hj hc 100 p (by omega) hp
end K8
section K3
variable {iB mn : Nat → Int32} {mu : Nat → UInt32} {p q r w : Nat}
theorem k3_b (hp : p < 24) (x : UInt32) : g_X3_givesBroth iB mu (nI p) x = some (nI 1, upd iB p (nI 1), vf_upd mu p x) := by
  unfold g_X3_givesBroth
  simp (disch := omega) only [x_inb, e_gcT, x_cl]
  rfl
def ex1 (a : Int64) : Int32 := if exc3 a = nI 0 then nI 1 else nI 0
theorem ex1_bo {a : Int64} : bo (ex1 a) = true := by unfold ex1; split <;> rfl
theorem k3_d (hp : p < 24) (v : Int64) : g_X3_givesDrams iB mn (nI p) v = some (ex1 v, upd iB p (nI 0), upd mn p v.toInt32) := by
  unfold g_X3_givesDrams ex1
  simp (disch := omega) only [x_inb, e_gcT, x_cl, k_X5_excess, e_gbS]
  by_cases h : exc3 v = nI 0
  · rw [if_pos h, if_pos (show exc3 v = 0 from h)]; rfl
  · rw [if_neg h, if_neg (show ¬ exc3 v = 0 from h)]; rfl
theorem k3_cast0 (hp : p < 24) (hq : q < 24) : g_X3_goesCast iB mu mn (nI p) (nI q) (nI 0) = some (if iB q = nI 0 then (nI 0, iB, mu, mn) else (ex1 (clip (FP.f2i (mu q))).toInt64, upd iB p (nI 0), mu, upd mn p (clip (FP.f2i (mu q))).toInt64.toInt32)) := by
  unfold g_X3_goesCast
  simp (disch := omega) only [x_inb, e_gcT, x_cl, c_0, ↓reduceIte, k3_d, k_X5_toDrams, e_gbS, ex1_bo]
  split <;> rfl
theorem k3_cast1 (hp : p < 24) (hq : q < 24) : g_X3_goesCast iB mu mn (nI p) (nI q) (nI 1) = some (if iB q = nI 1 then (nI 0, iB, mu, mn) else (nI 1, upd iB p (nI 1), vf_upd mu p (hld (FP.i2f (mn q))), mn)) := by
  unfold g_X3_goesCast
  simp (disch := omega) only [x_inb, e_gcT, x_cl, c_0, c_1, x_eqF, ↓reduceIte, k3_b, k_X5_toBroth, e_gbS, x_bon1]
  split <;> rfl
theorem k3_rk {k : Nat} (hp : p < 24) (hq : q < 24) (hr : r < 24) (hF : iB q = iB r → iB q ≠ nI 0 → FF (mu q) ∧ FF (mu r)) : g_X3_goesReckoning iB mn mu (nI k) (nI p) (nI q) (nI r) = some (if iB q = iB r then (if iB q = nI 0 then (ex1 (lrk (nI k) (mn q).toInt64 (mn r).toInt64), upd iB p (nI 0), upd mn p (lrk (nI k) (mn q).toInt64 (mn r).toInt64).toInt32, mu) else (nI 1, upd iB p (nI 1), mn, vf_upd mu p (hld (frk (nI k) (mu q) (mu r))))) else (nI 0, iB, mn, mu)) := by
  unfold g_X3_goesReckoning
  by_cases h1 : iB q = iB r
  · by_cases h2 : iB q = nI 0
    · simp (disch := omega) only [x_inb, e_gcT, x_cl, c_0, h1.symm, h2, ↓reduceIte, k_X5_ofDrams, k3_d, e_gbS, ex1_bo]
    · obtain ⟨f1, f2⟩ := hF h1 h2
      simp (disch := omega) only [x_inb, e_gcT, x_cl, c_0, h1.symm, h2, ↓reduceIte, k_X5_ofBroth _ f1 f2, k3_b, e_gbS, x_bon1]
  · simp (disch := omega) only [x_inb, e_gcT, x_cl, c_0, h1, ↓reduceIte]
end K3
section S3
variable {T : Nat} {k w : Nat → Nat} {kd lo hi : Nat → Int32} {CN : Nat → CV} {ks vs ps ls bm : Nat → Int32} {bu : Nat → UInt32}
/-- a row tells the value of its place -/
def C3 (kd lo hi : Nat → Int32) (CN : Nat → CV) (k w : Nat → Nat) (iB mn : Nat → Int32) (mu : Nat → UInt32) (x : Nat) : Prop := ∃ a, vG (ckP kd lo hi CN k w) x = some a ∧ CAN a ∧ iB x = a.1 ∧ (a.1 = 0 → mn x = a.2.1) ∧ (a.1 ≠ 0 → mu x = a.2.2) ∧ (k x = 7 → a.1 = kd (w x) ∧ (a.1 = 0 → (lo (w x)).toInt ≤ a.2.1.toInt ∧ a.2.1.toInt ≤ (hi (w x)).toInt))
theorem C3_put {iB iB' mn mn' : Nat → Int32} {mu mu' : Nat → UInt32} {p : Nat} {a : CV} (hv : vG (ckP kd lo hi CN k w) p = some a) (hc : CAN a) (h1 : iB' p = a.1) (h2 : a.1 = 0 → mn' p = a.2.1) (h3 : a.1 ≠ 0 → mu' p = a.2.2) (h7 : k p = 7 → a.1 = kd (w p) ∧ (a.1 = 0 → (lo (w p)).toInt ≤ a.2.1.toInt ∧ a.2.1.toInt ≤ (hi (w p)).toInt)) (ho : ∀ j, j ≠ p → iB' j = iB j ∧ mn' j = mn j ∧ mu' j = mu j) :
    C3 kd lo hi CN k w iB' mn' mu' p ∧ ∀ x, C3 kd lo hi CN k w iB mn mu x → C3 kd lo hi CN k w iB' mn' mu' x := by
  have hp : C3 kd lo hi CN k w iB' mn' mu' p := ⟨a, hv, hc, h1, h2, h3, h7⟩
  refine ⟨hp, fun x hx => ?_⟩
  by_cases e : x = p
  · rw [e]; exact hp
  · obtain ⟨o1, o2, o3⟩ := ho x e
    obtain ⟨b, c1, c2, c3, c4, c5, c6⟩ := hx
    exact ⟨b, c1, c2, by rw [o1]; exact c3, fun z => by rw [o2]; exact c4 z, fun z => by rw [o3]; exact c5 z, c6⟩
abbrev O3 : Type := Int32 × (Nat → Int32) × (Nat → UInt32) × (Nat → Int32)
def Q3 (kd lo hi : Nat → Int32) (CN : Nat → CV) (k w : Nat → Nat) (iB mn : Nat → Int32) (mu : Nat → UInt32) (p : Nat) (o : O3) : Prop :=
  (vG (ckP kd lo hi CN k w) p = none → o.1 = nI 0) ∧ (vG (ckP kd lo hi CN k w) p ≠ none → o.1 = nI 1 ∧ C3 kd lo hi CN k w o.2.1 o.2.2.2 o.2.2.1 p ∧ ∀ x, C3 kd lo hi CN k w iB mn mu x → C3 kd lo hi CN k w o.2.1 o.2.2.2 o.2.2.1 x)
theorem Q3_n {iB mn : Nat → Int32} {mu : Nat → UInt32} {p : Nat} {o : O3} (hv : vG (ckP kd lo hi CN k w) p = none) (h0 : o.1 = nI 0) : Q3 kd lo hi CN k w iB mn mu p o := ⟨fun _ => h0, fun z => absurd hv z⟩
theorem Q3_s {iB mn : Nat → Int32} {mu : Nat → UInt32} {p : Nat} {o : O3} {a : CV} (hv : vG (ckP kd lo hi CN k w) p = some a) (h0 : o.1 = nI 1) (h1 : C3 kd lo hi CN k w o.2.1 o.2.2.2 o.2.2.1 p ∧ ∀ x, C3 kd lo hi CN k w iB mn mu x → C3 kd lo hi CN k w o.2.1 o.2.2.2 o.2.2.1 x) : Q3 kd lo hi CN k w iB mn mu p o := ⟨fun z => (by rw [hv] at z; cases z), fun _ => ⟨h0, h1⟩⟩
theorem ex1_1 {v : Int32} (h1 : -1000000 ≤ v.toInt) (h2 : v.toInt ≤ 1000000) : ex1 v.toInt64 = nI 1 := if_pos (rg_exc.mp ⟨by rw [Int32.toInt_toInt64]; exact h1, by rw [Int32.toInt_toInt64]; exact h2⟩)
/-- contents that a cauldron holds, and as rows tell them -/
theorem p3 (hsh : SH T k) (hR : SPR T k w ks vs ps ls) (hw : ∀ p, p < T → (k p = 0 ∨ k p = 7) → w p < 6) (hw1 : ∀ p, p < T → k p = 1 → w p ≤ 99) (hB : BND kd lo hi) (hC : CNR kd CN bm bu) (hH : CNH kd lo hi CN) :
    ∀ (n p d : Nat) (iB mn : Nat → Int32) (mu : Nat → UInt32), p < n → p < T → k p ≠ 7 → p + d ≤ 24 → (∀ q, q < p → k q = 7 → C3 kd lo hi CN k w iB mn mu q) → Ok (g_X3_goesPart n (nI T) ks vs ps iB mu mn ls kd bm bu (nI p) (nI d)) (Q3 kd lo hi CN k w iB mn mu p)
  | 0, p, _, _, _, _, h, _, _, _, _ => absurd h (Nat.not_lt_zero _)
  | n + 1, p, d, iB, mn, mu, hn, hp, h7', hd, hst => by
    have hT := hsh.1
    obtain ⟨h7, hf, h5⟩ := hsh.2.2 p hp
    obtain ⟨r1, r2, r3, r4⟩ := hR p hp
    have hs := DD_s k p
    have hv := vC_at (kd := kd) (lo := lo) (hi := hi) (CN := CN) (k := k) (w := w) (p := p)
    unfold ckOp at hv
    have no7 : ∀ {a : CV}, k p = 7 → a.1 = kd (w p) ∧ (a.1 = 0 → (lo (w p)).toInt ≤ a.2.1.toInt ∧ a.2.1.toInt ≤ (hi (w p)).toInt) := fun z => absurd z h7'
    unfold g_X3_goesPart
    refine ok_f (nI_nlt (b := 0) (by omega) (by omega)) (ok_f (nI_ge hp (by omega)) (ok_t (nI_le (b := 24) (by omega) (by omega)) (ok_c (x_inb (by omega) (by omega)) (ok_l (ok_c (x_inb (by omega) (by omega)) (ok_l ?_))))))
    rw [x_cl (by omega), r1, r2]
    by_cases e0 : k p = 0
    · have hw' := hw p hp (Or.inl e0)
      obtain ⟨b1, b2, b3, b4⟩ := hB _ hw'
      rw [e0] at hv ⊢
      simp only [↓reduceIte] at hv
      have hla := k8_la (T := T) (k := k) (w := w) (ks := ks) (vs := vs) (j := 7) (c := w p) hT (fun q hq => ⟨(hR q hq).1, (hR q hq).2.1⟩) (fun q hq => (hsh.2.2 q hq).1) (fun q hq e => hw q hq (Or.inr e)) (by omega) hw' (p := p) (by omega)
      rw [LAk_7] at hla
      have fin : ∀ (a : CV), nwO kd lo hi CN k w p (w p) = some a → CAN a → a.1 = kd (w p) → (a.1 = 0 → (lo (w p)).toInt ≤ a.2.1.toInt ∧ a.2.1.toInt ≤ (hi (w p)).toInt) → ∀ (v : Int32) (x : UInt32), (a.1 = 0 → v = a.2.1) → (a.1 ≠ 0 → x = a.2.2) → Ok (if kd (w p) = 0 then g_X3_goesTake_b97 mn mu iB (nI p) v.toInt64 else g_X3_goesTake_b63 mn mu iB (nI p) x) (fun r13 => bo r13.1 = true ∧ Q3 kd lo hi CN k w iB mn mu p (r13.1, r13.2.2.2, r13.2.2.1, r13.2.1)) := by
        intro a ha hca hk ho v x h1 h2
        rw [ha] at hv
        by_cases z : kd (w p) = 0
        · rw [if_pos z]
          unfold g_X3_goesTake_b97
          have hz : a.1 = 0 := hk.trans z
          obtain ⟨o1, o2⟩ := ho hz
          rw [h1 hz]
          refine ok_be (k3_d (by omega) _) ?_
          rw [ex1_1 (by omega) (by omega), i32_64]
          exact ok_c rfl (ok_s ⟨rfl, Q3_s hv rfl (C3_put hv hca (x_us.trans hz.symm) (fun _ => x_us) (fun y => absurd hz y) no7 (fun j hj => ⟨x_un hj, x_un hj, rfl⟩))⟩)
        · rw [if_neg z]
          unfold g_X3_goesTake_b63
          have hz : a.1 ≠ 0 := fun y => z (hk.symm.trans y)
          rw [h2 hz]
          refine ok_be (k3_b (by omega) _) ?_
          exact ok_c rfl (ok_s ⟨rfl, Q3_s hv rfl (C3_put hv hca (x_us.trans ((x_bob hca.1).resolve_left hz).symm) (fun y => absurd y hz) (fun _ => x_vs) no7 (fun j hj => ⟨x_un hj, rfl, x_vn hj⟩))⟩)
      refine ok_t rfl (ok_b (R := fun r13 => bo r13.1 = true ∧ Q3 kd lo hi CN k w iB mn mu p (r13.1, r13.2.2.2, r13.2.2.1, r13.2.1)) ?_ (fun r13 h13 => ok_c h13.1 (ok_s h13.2)))
      unfold g_X3_goesTake
      refine ok_f (nI_nlt (b := 0) (by omega) (by omega)) (ok_t (nI_lt (b := 6) hw' (by omega)) (ok_be hla (ok_c (x_inb hw' (by omega)) ?_)))
      rw [x_cl (show w p < 2147483648 by omega)]
      obtain ⟨c1, c2, c3, c4⟩ := hC _ hw'
      obtain ⟨g1, g2⟩ := hH _ hw'
      cases hl : LA k w (w p) p with
      | none =>
        have hno : nwO kd lo hi CN k w p (w p) = some (CN (w p)) := by unfold nwO NWv; rw [hl]
        have := fin (CN (w p)) hno c1 c2 (fun z => g2 (c2.symm.trans z)) (bm (w p)) (bu (w p)) (fun _ => c3) (fun _ => c4)
        by_cases z : kd (w p) = 0
        · rw [if_pos z] at this
          exact ok_t z (ok_t rfl (ok_c (x_inb hw' (by omega)) this))
        · rw [if_neg z] at this
          exact ok_f z (ok_t rfl (ok_c (x_inb hw' (by omega)) this))
      | some q =>
        have hq := LA_lt p q hl
        obtain ⟨i1, i2⟩ := LA_is p q hl
        obtain ⟨a, a1, a2, a3, a4, a5, a6⟩ := hst q hq i1
        have hno : nwO kd lo hi CN k w p (w p) = some a := by unfold nwO NWv; rw [hl]; exact a1
        have a6' := a6 i1
        rw [i2] at a6'
        have := fin a hno a2 a6'.1 a6'.2 (mn q) (mu q) a4 a5
        have hnm : ¬ nI q = -1 := fun z => by have := x_m1n (a := q) (by omega); rw [this] at z; exact z
        by_cases z : kd (w p) = 0
        · rw [if_pos z] at this
          refine ok_t z (ok_f hnm (ok_c (x_inb (by omega) (by omega)) ?_))
          show Ok (g_X3_goesTake_b97 mn mu iB (nI p) (mn (nI q).toNatClampNeg).toInt64) _
          rw [x_cl (by omega)]
          exact this
        · rw [if_neg z] at this
          refine ok_f z (ok_f hnm (ok_c (x_inb (by omega) (by omega)) ?_))
          show Ok (g_X3_goesTake_b63 mn mu iB (nI p) (mu (nI q).toNatClampNeg)) _
          rw [x_cl (by omega)]
          exact this
    · refine ok_f (fun z => e0 (nI_inj (by omega) (by omega) (show nI (k p) = nI 0 from z))) ?_
      by_cases e1 : k p = 1
      · have hw' := hw1 p hp e1
        rw [e1] at hv ⊢
        simp only [↓reduceIte, Nat.one_ne_zero] at hv
        refine ok_t rfl (ok_be (k3_d (by omega) _) ?_)
        rw [ex1_1 (by rw [nI_toInt (by omega)]; omega) (by rw [nI_toInt (by omega)]; omega), i32_64]
        exact ok_c rfl (ok_s (Q3_s hv rfl (C3_put hv (CAN_d _) x_us (fun _ => x_us) (fun z => absurd rfl z) no7 (fun j hj => ⟨x_un hj, x_un hj, rfl⟩))))
      · have hf0 : 0 < fnd (k p) := by unfold fnd; rw [if_neg (by omega)]; split <;> omega
        have hi1 : DD k p - fnd (k p) < DD k p := by omega
        have hx := SS_lt k p _ hi1
        have hx7 := SS_no7 k p _ hi1
        refine ok_f (fun z => e1 (nI_inj (by omega) (by omega) (show nI (k p) = nI 1 from z))) (ok_c (x_inb (by omega) (by omega)) (ok_l (ok_f (fun z => h7' (nI_inj (by omega) (by omega) (show nI (k p) = nI 7 from z))) ?_)))
        rw [r3 hf0, nI_1]
        refine ok_b (p3 hsh hR hw hw1 hB hC hH n (SS k p (DD k p - fnd (k p))) (d + 1) iB mn mu (by omega) (by omega) hx7 (by omega) (fun q hq e => hst q (by omega) e)) (fun o ho => ?_)
        obtain ⟨o1, o2⟩ := ho
        rw [VG_old p hx] at hv
        by_cases hxn : vG (ckP kd lo hi CN k w) (SS k p (DD k p - fnd (k p))) = none
        · have hn' : vG (ckP kd lo hi CN k w) p = none := by
            rw [hv, hxn, if_neg e0, if_neg e1]
            repeat' split
            all_goals rfl
          exact ok_t (o1 hxn) (ok_s (Q3_n hn' rfl))
        · obtain ⟨o3, o4, o5⟩ := o2 hxn
          refine ok_f (by rw [o3]; decide) ?_
          obtain ⟨a, a1, a2, a3, a4, a5, a6⟩ := id o4
          rw [a1] at hv
          by_cases e5 : k p = 5
          · rw [e5] at hv
            have hv' : vG (ckP kd lo hi CN k w) p = if a.1 = 1 then none else some (1, 0, hld (FP.i2f a.2.1)) := hv
            refine ok_t (by rw [e5]; rfl) (ok_t (by rw [e5]; rfl) (ok_be (k3_cast1 (by omega) (by omega)) ?_))
            rw [a3]
            by_cases g : a.1 = 1
            · rw [if_pos g] at hv'
              rw [if_pos (show a.1 = nI 1 from g)]
              exact ok_c rfl (ok_s (Q3_n hv' rfl))
            · rw [if_neg g] at hv'
              rw [if_neg (show ¬ a.1 = nI 1 from g), a4 ((x_bob a2.1).resolve_right g)]
              have := C3_put (iB := o.2.1) (mn := o.2.2.2) (mu := o.2.2.1) hv' (CAN_b (ff_toBroth _)) (iB' := upd o.2.1 p (nI 1)) x_us (mn' := o.2.2.2) (mu' := vf_upd o.2.2.1 p (hld (FP.i2f a.2.1))) (fun y => absurd y (show ¬ (1 : Int32) = 0 by decide)) (fun _ => x_vs) no7 (fun j hj => ⟨x_un hj, rfl, x_vn hj⟩)
              exact ok_c rfl (ok_s (Q3_s hv' rfl ⟨this.1, fun x hx => this.2 x (o5 x hx)⟩))
          · have ne5 : ¬ nI (k p) = 5 := fun z => e5 (nI_inj (by omega) (by omega) (show nI (k p) = nI 5 from z))
            refine ok_f ne5 ?_
            by_cases e6 : k p = 6
            · rw [e6] at hv
              have hv' : vG (ckP kd lo hi CN k w) p = if a.1 = 0 then none else some (0, clip (FP.f2i a.2.2), 0) := hv
              refine ok_t (by rw [e6]; rfl) (ok_f ne5 (ok_be (k3_cast0 (by omega) (by omega)) ?_))
              rw [a3]
              by_cases g : a.1 = 0
              · rw [if_pos g] at hv'
                rw [if_pos (show a.1 = nI 0 from g)]
                exact ok_c rfl (ok_s (Q3_n hv' rfl))
              · rw [if_neg g] at hv'
                have hcb := clip_b (FP.f2i a.2.2)
                rw [if_neg (show ¬ a.1 = nI 0 from g), a5 g, ex1_1 (by omega) (by omega), i32_64]
                have := C3_put (iB := o.2.1) (mn := o.2.2.2) (mu := o.2.2.1) hv' (CAN_d _) (iB' := upd o.2.1 p (nI 0)) x_us (mn' := upd o.2.2.2 p (clip (FP.f2i a.2.2))) (mu' := o.2.2.1) (fun _ => x_us) (fun y => absurd rfl y) no7 (fun j hj => ⟨x_un hj, x_un hj, rfl⟩)
                exact ok_c rfl (ok_s (Q3_s hv' rfl ⟨this.1, fun x hx => this.2 x (o5 x hx)⟩))
            · have hk : k p = 2 ∨ k p = 3 ∨ k p = 4 := by omega
              have hf2 : fnd (k p) = 2 := by rcases hk with e | e | e <;> rw [e] <;> rfl
              have hi2 : DD k p - 1 < DD k p := by omega
              have hy := SS_lt k p _ hi2
              have hy7 := SS_no7 k p _ hi2
              refine ok_f (fun z => e6 (nI_inj (by omega) (by omega) (show nI (k p) = nI 6 from z))) (ok_c (x_inb (by omega) (by omega)) (ok_l ?_))
              rw [r4 hf2]
              refine ok_b (p3 hsh hR hw hw1 hB hC hH n (SS k p (DD k p - 1)) (d + 1) o.2.1 o.2.2.2 o.2.2.1 (by omega) (by omega) hy7 (by omega) (fun q hq e => o5 q (hst q (by omega) e))) (fun u hu => ?_)
              obtain ⟨u1, u2⟩ := hu
              rw [VG_old p hy] at hv
              have hv2 : vG (ckP kd lo hi CN k w) p = (vG (ckP kd lo hi CN k w) (SS k p (DD k p - 1))).bind fun b => rkC (k p) a b := by
                rw [hv]
                rcases hk with e | e | e <;> rw [e] <;> rfl
              by_cases hyn : vG (ckP kd lo hi CN k w) (SS k p (DD k p - 1)) = none
              · rw [hyn] at hv2
                exact ok_t (u1 hyn) (ok_s (Q3_n hv2 rfl))
              · obtain ⟨u3, u4, u5⟩ := u2 hyn
                obtain ⟨b, b1, b2, b3, b4, b5, b6⟩ := id u4
                rw [b1] at hv2
                have hv3 : vG (ckP kd lo hi CN k w) p = rkC (k p) a b := hv2
                unfold rkC at hv3
                obtain ⟨a', c1, c2, c3, c4, c5, c6⟩ := u5 _ o4
                rw [a1] at c1
                cases c1
                refine ok_f (by rw [u3]; decide) (ok_be (k3_rk (by omega) (by omega) (by omega) (fun z1 z2 => ?_)) ?_)
                · rw [c3] at z1 z2
                  rw [b3] at z1
                  rw [c5 z2, b5 (fun y => z2 (z1.trans y))]
                  exact ⟨a2.2.2.2, b2.2.2.2⟩
                · rw [c3, b3]
                  by_cases z1 : a.1 = b.1
                  · rw [if_pos z1] at hv3 ⊢
                    by_cases z2 : a.1 = 0
                    · rw [if_pos z2] at hv3
                      rw [if_pos (show a.1 = nI 0 from z2), c4 z2, b4 (z1.symm.trans z2)]
                      by_cases z3 : exc3 (lrk (nI (k p)) a.2.1.toInt64 b.2.1.toInt64) = 0
                      · rw [if_pos z3] at hv3
                        have ee : ex1 (lrk (nI (k p)) a.2.1.toInt64 b.2.1.toInt64) = nI 1 := if_pos z3
                        rw [ee]
                        have := C3_put (iB := u.2.1) (mn := u.2.2.2) (mu := u.2.2.1) hv3 (CAN_d _) (iB' := upd u.2.1 p (nI 0)) x_us (mn' := upd u.2.2.2 p (lrk (nI (k p)) a.2.1.toInt64 b.2.1.toInt64).toInt32) (mu' := u.2.2.1) (fun _ => x_us) (fun y => absurd rfl y) no7 (fun j hj => ⟨x_un hj, x_un hj, rfl⟩)
                        exact ok_f (show ¬ nI 1 = 0 by decide) (ok_s (Q3_s hv3 rfl ⟨this.1, fun x hx => this.2 x (u5 x (o5 x hx))⟩))
                      · rw [if_neg z3] at hv3
                        have ee : ex1 (lrk (nI (k p)) a.2.1.toInt64 b.2.1.toInt64) = nI 0 := if_neg z3
                        rw [ee]
                        exact ok_t rfl (ok_s (Q3_n hv3 rfl))
                    · rw [if_neg z2] at hv3
                      rw [if_neg (show ¬ a.1 = nI 0 from z2), c5 z2, b5 (fun y => z2 (z1.trans y))]
                      have := C3_put (iB := u.2.1) (mn := u.2.2.2) (mu := u.2.2.1) hv3 (CAN_b (ff_hld (ff_frk _ a2.2.2.2 b2.2.2.2))) (iB' := upd u.2.1 p (nI 1)) x_us (mn' := u.2.2.2) (mu' := vf_upd u.2.2.1 p (hld (frk (nI (k p)) a.2.2 b.2.2))) (fun y => absurd y (show ¬ (1 : Int32) = 0 by decide)) (fun _ => x_vs) no7 (fun j hj => ⟨x_un hj, rfl, x_vn hj⟩)
                      exact ok_f (show ¬ nI 1 = 0 by decide) (ok_s (Q3_s hv3 rfl ⟨this.1, fun x hx => this.2 x (u5 x (o5 x hx))⟩))
                  · rw [if_neg z1] at hv3 ⊢
                    exact ok_t rfl (ok_s (Q3_n hv3 rfl))
end S3
