/-! the class's typing by stores: a part, a store, a text -/
section S10
variable {T : Nat} {k w : Nat → Nat} {kd lo hi : Nat → Int32} {ks vs ps ls : Nat → Int32}
/-- a row tells the type of its place -/
def C10 (kd lo hi : Nat → Int32) (k w : Nat → Nat) (iB : Nat → Int32) (l h : Nat → Int64) (x : Nat) : Prop := ∃ a, vG (tyP kd lo hi k w) x = some a ∧ bo a.1 = true ∧ iB x = a.1 ∧ (a.1 = 0 → l x = a.2.1 ∧ h x = a.2.2 ∧ rg a.2.1 ∧ rg a.2.2 ∧ a.2.1.toInt ≤ a.2.2.toInt)
theorem C10_put {iB iB' : Nat → Int32} {l h l' h' : Nat → Int64} {p : Nat} {a : TV} (hv : vG (tyP kd lo hi k w) p = some a) (hb : bo a.1 = true) (h1 : iB' p = a.1) (h2 : a.1 = 0 → l' p = a.2.1 ∧ h' p = a.2.2 ∧ rg a.2.1 ∧ rg a.2.2 ∧ a.2.1.toInt ≤ a.2.2.toInt) (ho : ∀ j, j ≠ p → iB' j = iB j ∧ l' j = l j ∧ h' j = h j) :
    C10 kd lo hi k w iB' l' h' p ∧ ∀ x, C10 kd lo hi k w iB l h x → C10 kd lo hi k w iB' l' h' x := by
  have hp : C10 kd lo hi k w iB' l' h' p := ⟨a, hv, hb, h1, h2⟩
  refine ⟨hp, fun x hx => ?_⟩
  by_cases e : x = p
  · rw [e]; exact hp
  · obtain ⟨o1, o2, o3⟩ := ho x e
    obtain ⟨b, c1, c2, c3, c4⟩ := hx
    exact ⟨b, c1, c2, by rw [o1]; exact c3, fun z => by rw [o2, o3]; exact c4 z⟩
/-- the class's rows of a text -/
def SPR (T : Nat) (k w : Nat → Nat) (ks vs ps ls : Nat → Int32) : Prop := ∀ p, p < T → ks p = nI (k p) ∧ vs p = nI (w p) ∧ (0 < fnd (k p) → ps p = nI (SS k p (DD k p - fnd (k p)))) ∧ (fnd (k p) = 2 → ls p = nI (SS k p (DD k p - 1)))
abbrev O10 : Type := Int32 × (Nat → Int32) × (Nat → Int64) × (Nat → Int64)
def Q10 (kd lo hi : Nat → Int32) (k w : Nat → Nat) (iB : Nat → Int32) (l h : Nat → Int64) (p : Nat) (o : O10) : Prop :=
  (vG (tyP kd lo hi k w) p = none → o.1 = nI 0) ∧ (vG (tyP kd lo hi k w) p ≠ none → o.1 = nI 1 ∧ C10 kd lo hi k w o.2.1 o.2.2.1 o.2.2.2 p ∧ ∀ x, C10 kd lo hi k w iB l h x → C10 kd lo hi k w o.2.1 o.2.2.1 o.2.2.2 x)
theorem Q10_n {iB : Nat → Int32} {l h : Nat → Int64} {p : Nat} {o : O10} (hv : vG (tyP kd lo hi k w) p = none) (h0 : o.1 = nI 0) : Q10 kd lo hi k w iB l h p o := ⟨fun _ => h0, fun z => absurd hv z⟩
theorem Q10_s {iB : Nat → Int32} {l h : Nat → Int64} {p : Nat} {o : O10} {a : TV} (hv : vG (tyP kd lo hi k w) p = some a) (h0 : o.1 = nI 1) (h1 : C10 kd lo hi k w o.2.1 o.2.2.1 o.2.2.2 p ∧ ∀ x, C10 kd lo hi k w iB l h x → C10 kd lo hi k w o.2.1 o.2.2.1 o.2.2.2 x) : Q10 kd lo hi k w iB l h p o := ⟨fun z => (by rw [hv] at z; cases z), fun _ => ⟨h0, h1⟩⟩
theorem ex2_1 {a b : Int64} (ha : rg a) (hb : rg b) : ex2 a b = nI 1 := if_pos ⟨rg_exc.mp ha, rg_exc.mp hb⟩
theorem p10 (hsh : SH T k) (hR : SPR T k w ks vs ps ls) (hw : ∀ p, p < T → (k p = 0 ∨ k p = 7) → w p < 6) (hw1 : ∀ p, p < T → k p = 1 → w p ≤ 99) (hB : BND kd lo hi) :
    ∀ (n p d : Nat) (iB : Nat → Int32) (l h : Nat → Int64), p < n → p < T → k p ≠ 7 → p + d ≤ 24 → Ok (g_X10_passesPart n (nI T) ks vs ps iB l h ls kd lo hi (nI p) (nI d)) (Q10 kd lo hi k w iB l h p)
  | 0, p, _, _, _, _, h, _, _, _ => absurd h (Nat.not_lt_zero _)
  | n + 1, p, d, iB, l, h, hn, hp, h7', hd => by
    have hT := hsh.1
    obtain ⟨h7, hf, h5⟩ := hsh.2.2 p hp
    obtain ⟨r1, r2, r3, r4⟩ := hR p hp
    have hs := DD_s k p
    have ht := vT_at kd lo hi k w p
    unfold tyOp at ht
    unfold g_X10_passesPart
    refine ok_f (nI_nlt (b := 0) (by omega) (by omega)) (ok_f (nI_ge hp (by omega)) (ok_t (nI_le (b := 24) (by omega) (by omega)) (ok_c (x_inb (by omega) (by omega)) (ok_l (ok_c (x_inb (by omega) (by omega)) (ok_l ?_))))))
    rw [x_cl (by omega), r1, r2]
    by_cases e0 : k p = 0
    · have hw' := hw p hp (Or.inl e0)
      obtain ⟨b1, b2, b3, b4⟩ := hB _ hw'
      rw [e0] at ht ⊢
      simp only [↓reduceIte] at ht
      refine ok_t rfl (ok_be (k10_take (by omega) hw') ?_)
      by_cases z : kd (w p) = 0
      · have g1 : rg (lo (w p)).toInt64 := by unfold rg; rw [Int32.toInt_toInt64]; omega
        have g2 : rg (hi (w p)).toInt64 := by unfold rg; rw [Int32.toInt_toInt64]; omega
        rw [if_pos (show kd (w p) = nI 0 from z), ex2_1 g1 g2]
        refine ok_c rfl (ok_s (Q10_s ht rfl (C10_put ht b1 (x_us.trans z.symm) (fun _ => ⟨x_Ls, x_Ls, g1, g2, ?_⟩) (fun j hj => ⟨x_un hj, x_Ln hj, x_Ln hj⟩))))
        show (lo (w p)).toInt64.toInt ≤ (hi (w p)).toInt64.toInt
        rw [Int32.toInt_toInt64, Int32.toInt_toInt64]
        exact b4
      · rw [if_neg (show ¬ kd (w p) = nI 0 from z)]
        exact ok_c rfl (ok_s (Q10_s ht rfl (C10_put ht b1 (x_us.trans ((x_bob b1).resolve_left z).symm) (fun y => absurd y z) (fun j hj => ⟨x_un hj, rfl, rfl⟩))))
    · refine ok_f (fun z => e0 (nI_inj (by omega) (by omega) (show nI (k p) = nI 0 from z))) ?_
      by_cases e1 : k p = 1
      · have hw' := hw1 p hp e1
        rw [e1] at ht ⊢
        simp only [↓reduceIte, Nat.one_ne_zero] at ht
        have g1 : rg (nI (w p)).toInt64 := by unfold rg; rw [Int32.toInt_toInt64, nI_toInt (by omega)]; omega
        refine ok_t rfl (ok_be (k10_d (by omega) _ _) ?_)
        rw [ex2_1 g1 g1]
        exact ok_c rfl (ok_s (Q10_s ht rfl (C10_put ht rfl x_us (fun _ => ⟨x_Ls, x_Ls, g1, g1, Int.le_refl _⟩) (fun j hj => ⟨x_un hj, x_Ln hj, x_Ln hj⟩))))
      · have hf0 : 0 < fnd (k p) := by unfold fnd; rw [if_neg (by omega)]; split <;> omega
        have hi1 : DD k p - fnd (k p) < DD k p := by omega
        have hx := SS_lt k p _ hi1
        have hx7 := SS_no7 k p _ hi1
        refine ok_f (fun z => e1 (nI_inj (by omega) (by omega) (show nI (k p) = nI 1 from z))) (ok_c (x_inb (by omega) (by omega)) (ok_l (ok_f (fun z => h7' (nI_inj (by omega) (by omega) (show nI (k p) = nI 7 from z))) ?_)))
        rw [r3 hf0, nI_1]
        refine ok_b (p10 hsh hR hw hw1 hB n (SS k p (DD k p - fnd (k p))) (d + 1) iB l h (by omega) (by omega) hx7 (by omega)) (fun o ho => ?_)
        obtain ⟨o1, o2⟩ := ho
        rw [VG_old p hx] at ht
        by_cases hxn : vG (tyP kd lo hi k w) (SS k p (DD k p - fnd (k p))) = none
        · have hn' : vG (tyP kd lo hi k w) p = none := by
            rw [ht, hxn, if_neg e0, if_neg e1]
            repeat' split
            all_goals rfl
          exact ok_t (o1 hxn) (ok_s (Q10_n hn' rfl))
        · obtain ⟨o3, o4, o5⟩ := o2 hxn
          refine ok_f (by rw [o3]; decide) ?_
          obtain ⟨a, a1, a2, a3, a4⟩ := id o4
          rw [a1] at ht
          by_cases e5 : k p = 5
          · rw [e5] at ht
            have ht' : vG (tyP kd lo hi k w) p = if a.1 = 1 then none else some (1, -99, 99) := ht
            refine ok_t (by rw [e5]; rfl) (ok_t (by rw [e5]; rfl) (ok_be (k10_cast1 (by omega) (by omega)) ?_))
            rw [a3]
            by_cases g : a.1 = 1
            · rw [if_pos g] at ht'
              rw [if_pos (show a.1 = nI 1 from g)]
              exact ok_c rfl (ok_s (Q10_n ht' rfl))
            · rw [if_neg g] at ht'
              rw [if_neg (show ¬ a.1 = nI 1 from g)]
              have := C10_put (iB := o.2.1) (l := o.2.2.1) (h := o.2.2.2) ht' rfl (iB' := upd o.2.1 p (nI 1)) x_us (l' := o.2.2.1) (h' := o.2.2.2) (fun y => absurd y (show ¬ (1 : Int32) = 0 by decide)) (fun j hj => ⟨x_un hj, rfl, rfl⟩)
              exact ok_c rfl (ok_s (Q10_s ht' rfl ⟨this.1, fun x hx => this.2 x (o5 x hx)⟩))
          · have ne5 : ¬ nI (k p) = 5 := fun z => e5 (nI_inj (by omega) (by omega) (show nI (k p) = nI 5 from z))
            refine ok_f ne5 ?_
            by_cases e6 : k p = 6
            · rw [e6] at ht
              have ht' : vG (tyP kd lo hi k w) p = if a.1 = 0 then none else some (0, -99, 99) := ht
              refine ok_t (by rw [e6]; rfl) (ok_f ne5 (ok_be (k10_cast0 (by omega) (by omega)) ?_))
              rw [a3]
              by_cases g : a.1 = 0
              · rw [if_pos g] at ht'
                rw [if_pos (show a.1 = nI 0 from g)]
                exact ok_c rfl (ok_s (Q10_n ht' rfl))
              · rw [if_neg g] at ht'
                have g1 : rg (-99) := by unfold rg; decide
                have g2 : rg 99 := by unfold rg; decide
                rw [if_neg (show ¬ a.1 = nI 0 from g), ex2_1 g1 g2]
                have := C10_put (iB := o.2.1) (l := o.2.2.1) (h := o.2.2.2) ht' rfl (iB' := upd o.2.1 p (nI 0)) x_us (l' := vp_updL o.2.2.1 p (-99)) (h' := vp_updL o.2.2.2 p 99) (fun _ => ⟨x_Ls, x_Ls, g1, g2, by decide⟩) (fun j hj => ⟨x_un hj, x_Ln hj, x_Ln hj⟩)
                exact ok_c rfl (ok_s (Q10_s ht' rfl ⟨this.1, fun x hx => this.2 x (o5 x hx)⟩))
            · have hk : k p = 2 ∨ k p = 3 ∨ k p = 4 := by omega
              have hf2 : fnd (k p) = 2 := by rcases hk with e | e | e <;> rw [e] <;> rfl
              have hi2 : DD k p - 1 < DD k p := by omega
              have hy := SS_lt k p _ hi2
              have hy7 := SS_no7 k p _ hi2
              refine ok_f (fun z => e6 (nI_inj (by omega) (by omega) (show nI (k p) = nI 6 from z))) (ok_c (x_inb (by omega) (by omega)) (ok_l ?_))
              rw [r4 hf2]
              refine ok_b (p10 hsh hR hw hw1 hB n (SS k p (DD k p - 1)) (d + 1) o.2.1 o.2.2.1 o.2.2.2 (by omega) (by omega) hy7 (by omega)) (fun u hu => ?_)
              obtain ⟨u1, u2⟩ := hu
              rw [VG_old p hy] at ht
              have ht2 : vG (tyP kd lo hi k w) p = (vG (tyP kd lo hi k w) (SS k p (DD k p - 1))).bind fun b => rkT (k p) a b := by
                rw [ht]
                rcases hk with e | e | e <;> rw [e] <;> rfl
              by_cases hyn : vG (tyP kd lo hi k w) (SS k p (DD k p - 1)) = none
              · rw [hyn] at ht2
                exact ok_t (u1 hyn) (ok_s (Q10_n ht2 rfl))
              · obtain ⟨u3, u4, u5⟩ := u2 hyn
                obtain ⟨b, b1, b2, b3, b4⟩ := id u4
                rw [b1] at ht2
                have ht3 : vG (tyP kd lo hi k w) p = rkT (k p) a b := ht2
                unfold rkT at ht3
                obtain ⟨a', c1, c2, c3, c4⟩ := u5 _ o4
                rw [a1] at c1
                cases c1
                refine ok_f (by rw [u3]; decide) (ok_be (k10_rk (by omega) (by omega) (by omega)) ?_)
                rw [c3, b3]
                by_cases z1 : a.1 = 0
                · rw [if_pos (show a.1 = nI 0 from z1)]
                  by_cases z2 : b.1 = 0
                  · obtain ⟨d1, d2, d3, d4, d5⟩ := c4 z1
                    obtain ⟨f1, f2, f3, f4, f5⟩ := b4 z2
                    rw [if_pos (show b.1 = nI 0 from z2), d1, d2, f1, f2]
                    rw [if_pos (z1.trans z2.symm), if_pos z1] at ht3
                    by_cases z3 : exc3 (lo4 (nI (k p)) a.2.1 a.2.2 b.2.1 b.2.2) = 0 ∧ exc3 (hi4 (nI (k p)) a.2.1 a.2.2 b.2.1 b.2.2) = 0
                    · rw [if_pos z3] at ht3
                      have g1 := rg_exc.mpr z3.1
                      have g2 := rg_exc.mpr z3.2
                      rw [ex2_1 g1 g2]
                      have hiv := iv_rk hk d3 d4 f3 f4 (Int.le_refl _) d5 (Int.le_refl _) f5
                      have := C10_put (iB := u.2.1) (l := u.2.2.1) (h := u.2.2.2) ht3 rfl (iB' := upd u.2.1 p (nI 0)) x_us (l' := vp_updL u.2.2.1 p (lo4 (nI (k p)) a.2.1 a.2.2 b.2.1 b.2.2)) (h' := vp_updL u.2.2.2 p (hi4 (nI (k p)) a.2.1 a.2.2 b.2.1 b.2.2)) (fun _ => ⟨x_Ls, x_Ls, g1, g2, Int.le_trans hiv.1 hiv.2⟩) (fun j hj => ⟨x_un hj, x_Ln hj, x_Ln hj⟩)
                      exact ok_f (show ¬ nI 1 = 0 by decide) (ok_s (Q10_s ht3 rfl ⟨this.1, fun x hx => this.2 x (u5 x (o5 x hx))⟩))
                    · rw [if_neg z3] at ht3
                      have : ex2 (lo4 (nI (k p)) a.2.1 a.2.2 b.2.1 b.2.2) (hi4 (nI (k p)) a.2.1 a.2.2 b.2.1 b.2.2) = nI 0 := if_neg z3
                      rw [this]
                      exact ok_t rfl (ok_s (Q10_n ht3 rfl))
                  · rw [if_neg (show ¬ b.1 = nI 0 from z2)]
                    rw [if_neg (fun z => z2 (z.symm.trans z1))] at ht3
                    exact ok_t rfl (ok_s (Q10_n ht3 rfl))
                · rw [if_neg (show ¬ a.1 = nI 0 from z1)]
                  by_cases z2 : b.1 = 0
                  · rw [if_pos (show b.1 = nI 0 from z2)]
                    rw [if_neg (fun z => z1 (z.trans z2))] at ht3
                    exact ok_t rfl (ok_s (Q10_n ht3 rfl))
                  · rw [if_neg (show ¬ b.1 = nI 0 from z2)]
                    have a11 := (x_bob a2).resolve_left z1
                    rw [if_pos (a11.trans ((x_bob b2).resolve_left z2).symm), if_neg z1] at ht3
                    have := C10_put (iB := u.2.1) (l := u.2.2.1) (h := u.2.2.2) ht3 a2 (iB' := upd u.2.1 p (nI 1)) (x_us.trans a11.symm) (l' := u.2.2.1) (h' := u.2.2.2) (fun y => absurd y z1) (fun j hj => ⟨x_un hj, rfl, rfl⟩)
                    exact ok_f (show ¬ nI 1 = 0 by decide) (ok_s (Q10_s ht3 rfl ⟨this.1, fun x hx => this.2 x (u5 x (o5 x hx))⟩))
end S10
