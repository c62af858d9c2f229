/-! THE CALLS cook, cookAll -/
section COOKS
variable {LS : List Nat} {SE : Nat → SV} {RA : Nat → BK} {nx ch n4 a : Nat} {b sb : BK} {past be s rf sv : Nat → Int32} {pastF beF f svF : Nat → UInt32} {kp rs de hc ca cd th p1 p2 p3 bd le ke isv : Int32} {ans : Nat → Int64} {bks : Nat → Option Nat}
def SV6 (v : Nat → Nat) : Nat → Nat
  | 0 => 0
  | c + 1 => SV6 v c + v c
theorem SV_ind {k w : Nat → Nat} {T : Nat} : ∀ n, SV6 (fun c => NC k w c (T + 1)) n = SV6 (fun c => NC k w c T) n + (if k T = 7 ∧ w T < n then 1 else 0)
  | 0 => by rw [if_neg (fun z => Nat.not_lt_zero _ z.2)]; rfl
  | n + 1 => by
    have ih := SV_ind (k := k) (w := w) (T := T) n
    have e1 : SV6 (fun c => NC k w c (T + 1)) (n + 1) = SV6 (fun c => NC k w c (T + 1)) n + (NC k w n T + (if k T = 7 ∧ w T = n then 1 else 0)) := rfl
    have e2 : SV6 (fun c => NC k w c T) (n + 1) = SV6 (fun c => NC k w c T) n + NC k w n T := rfl
    rw [e1, e2, ih]
    by_cases h7 : k T = 7
    · by_cases c1 : w T < n
      · rw [if_pos ⟨h7, c1⟩, if_neg (fun z => by omega), if_pos ⟨h7, by omega⟩]; omega
      · by_cases c2 : w T = n
        · rw [if_neg (fun z => c1 z.2), if_pos ⟨h7, c2⟩, if_pos ⟨h7, by omega⟩]; omega
        · rw [if_neg (fun z => c1 z.2), if_neg (fun z => c2 z.2), if_neg (fun z => by have := z.2; omega)]; omega
    · rw [if_neg (fun z => h7 z.1), if_neg (fun z => h7 z.1), if_neg (fun z => h7 z.1)]; omega
theorem SV_0 {k w : Nat → Nat} : ∀ n, SV6 (fun c => NC k w c 0) n = 0
  | 0 => rfl
  | n + 1 => by
    show SV6 (fun c => NC k w c 0) n + NC k w n 0 = 0
    rw [SV_0 n]
    rfl
theorem SV_NS {k w : Nat → Nat} : ∀ T, (∀ p, p < T → k p = 7 → w p < 6) → SV6 (fun c => NC k w c T) 6 = NS k T
  | 0, _ => SV_0 6
  | T + 1, h => by
    rw [SV_ind, SV_NS T (fun p hp => h p (by omega)), NS_s]
    by_cases h7 : k T = 7
    · rw [if_pos ⟨h7, h T (Nat.lt_succ_self T) h7⟩, if_pos h7]
    · rw [if_neg (fun z => h7 z.1), if_neg h7]
theorem l_settle {i : Nat} {csf ssf0 : Int32} {cc st si0 mn : Nat → Int32} {mu : Nat → UInt32} {v : Nat → Nat} (hi : i < 4) (hv : ∀ c, c < 6 → st c = nI (v c)) : ∀ (n c : Nat) (si : Nat → Int32), c ≤ 6 → 6 - c < n → (∀ j, j < 6 → si j = if j < c then si0 j + st j else si0 j) → Ok (g_X0_settle_b13 csf cc st (nI i) n mn mu si (ssf0 + nI (SV6 v c)) (nI c)) (fun o => o.1 = csf + 1 ∧ o.2.1 = ssf0 + nI (SV6 v 6) ∧ o.2.2.1 = mn ∧ o.2.2.2.1 = mu ∧ o.2.2.2.2.1 = upd cc i (cc i + 1) ∧ ∀ j, j < 6 → o.2.2.2.2.2 j = si0 j + st j)
  | 0, c, _, _, h, _ => absurd h (Nat.not_lt_zero _)
  | n + 1, c, si, hc, hm, hs => by
    unfold g_X0_settle_b13
    have hi4 : inb (nI i) 4 = true := x_inb hi (by omega)
    by_cases e : c = 6
    · subst e
      refine ok_t (nI_le (a := 6) (b := 6) (Nat.le_refl _) (by omega)) (ok_c hi4 (ok_c hi4 (ok_l (ok_s ⟨rfl, rfl, rfl, rfl, ?_, fun j hj => ?_⟩))))
      · rw [x_cl (by omega)]
      · show si j = si0 j + st j
        rw [hs j hj, if_pos hj]
    · have hc6 : c < 6 := by omega
      have hin : inb (nI c) 6 = true := x_inb hc6 (by omega)
      refine ok_f (show ¬ (6 : Int32) ≤ nI c from nI_ge (show c < 6 by omega) (show (6 : Nat) < 2147483648 by omega)) (ok_c hin (ok_c hin (ok_c hin (ok_c hin (ok_l (ok_l ?_))))))
      rw [x_cl (by omega), nI_1]
      have e1 : ssf0 + nI (SV6 v c) + st c = ssf0 + nI (SV6 v (c + 1)) := by
        rw [hv c hc6, Int32.add_assoc, nI_add]; rfl
      rw [e1]
      refine l_settle hi hv n (c + 1) _ (by omega) (by omega) (fun j hj => ?_)
      by_cases g : j = c
      · rw [g, x_us, hs c hc6, if_neg (by omega), if_pos (by omega)]
      · rw [x_un g, hs j hj]
        by_cases g2 : j < c
        · rw [if_pos g2, if_pos (by omega)]
        · rw [if_neg g2, if_neg (by omega)]
theorem k_settle {i : Nat} {csf ssf : Int32} {cc st si mn nm : Nat → Int32} {mu nu : Nat → UInt32} {v : Nat → Nat} (hi : i < 4) (hv : ∀ c, c < 6 → st c = nI (v c)) : Ok (g_X0_settle csf ssf mn nm mu nu cc si st (nI i)) (fun o => o.1 = csf + 1 ∧ o.2.1 = ssf + nI (SV6 v 6) ∧ AG 6 o.2.2.1 nm ∧ AG 6 o.2.2.2.1 nu ∧ o.2.2.2.2.1 = upd cc i (cc i + 1) ∧ ∀ j, j < 6 → o.2.2.2.2.2 j = si j + st j) := by
  unfold g_X0_settle
  refine ok_b (k_X1_copy mn nm mu nu) (fun r hr => ?_)
  have h := l_settle (csf := csf) (ssf0 := ssf) (cc := cc) (mn := r.1) (mu := r.2) (si0 := si) hi hv 100 0 si (Nat.zero_le _) (by omega) (fun j _ => (if_neg (Nat.not_lt_zero j)).symm)
  rw [show ssf + nI (SV6 v 0) = ssf from Int32.add_zero _] at h
  refine ok_m h (fun o ho => ?_)
  obtain ⟨o1, o2, o3, o4, o5, o6⟩ := ho
  exact ⟨o1, o2, by rw [o3]; exact hr.1, by rw [o4]; exact hr.2, o5, o6⟩
/-- the book behind a spell that is cooked -/
theorem BR_cook {nc ns i : Nat} {X : Nat → TX} {nm mn' si' cc' st s' : Nat → Int32} {nu mu' f' : Nat → UInt32} {c2 c3 : Int32} (h : BRx LS SE nc ns X b s f) (hi : i < ns) (hK : CKI nc i (X i) b.2.2.2.2.2.2.1 b.2.2.2.2.2.2.2.1 b.2.2.2.2.2.2.2.2.1 nm nu s' f') (hD : CKD i (rT (X i)).1 (rT (X i)).2.1 (rT (X i)).2.2.1 st s s') (o1 : c2 = b.2.2.1 + 1) (o2 : c3 = b.2.2.2.1 + nI (SV6 (fun c => NC (rT (X i)).2.1 (rT (X i)).2.2.1 c (rT (X i)).1) 6)) (o3 : AG 6 mn' nm) (o4 : AG 6 mu' nu) (o5 : cc' = upd b.2.2.2.2.2.2.2.2.2.2.2 i (b.2.2.2.2.2.2.2.2.2.2.2 i + 1)) (o6 : ∀ j, j < 6 → si' j = b.2.2.2.2.2.2.2.2.2.1 j + st j) :
    BRx LS SE nc ns X (b.1, b.2.1, c2, c3, mn', mu', b.2.2.2.2.2.2.1, b.2.2.2.2.2.2.2.1, b.2.2.2.2.2.2.2.2.1, si', b.2.2.2.2.2.2.2.2.2.2.1, cc') s' f' := by
  obtain ⟨g1, g2, g3, g4, g5, g6, g7, g8, g9, g10, g11⟩ := id h
  obtain ⟨k1, k2', k3', k4⟩ := hK
  obtain ⟨d1, d2, d3, d4, d5⟩ := hD
  have ho := (g11.1 i hi).2.1
  have hsum := SV_NS (k := (rT (X i)).2.1) (w := (rT (X i)).2.2.1) (rT (X i)).1 (fun p hp h7 => OKT_w ho g1 p hp (Or.inr h7))
  rw [hsum] at o2
  have hi4 : i < 4 := by omega
  refine BR_gen h rfl rfl rfl (d5 0 (by omega)) (d5 1 (by omega)) ?_ ?_ (CX_ag k1 o3 o4) (fun c hc => ?_) (fun j hj => ?_) (fun j hj t h1 h2 => ?_)
  · rw [d3, g7]; exact o1.symm
  · rw [d2, g8]; exact o2.symm
  · obtain ⟨q1, q2, q3, q4, q5⟩ := k2' c hc
    obtain ⟨-, -, -, -, p5, -⟩ := g10 c hc
    refine ⟨q1, q2, q3, q4.trans (o3 c hc).symm, ?_, q5.trans (o4 c hc).symm⟩
    rw [(d1 c hc).2, p5]
    show _ = si' c
    rw [o6 c hc, (d1 c hc).1]
  · show s' (34 + 62 * j) = cc' j
    rw [o5]
    by_cases e : j = i
    · rw [e, x_us, d4, (g11.1 i hi).2.2.2]
    · rw [x_un e, d5 _ (by omega)]
      exact (g11.1 j hj).2.2.2
  · exact d5 _ (by omega)
theorem op_cook {c_cooking_boilsAt : Int32} {c_cooking_cause : Int32} {c_cooking_causeDetail : Int32} {c_cooking_spoons : Int32} {c_cooking_now_many : Nat → Int32} {c_cooking_now_much : Nat → UInt32} {c_cooking_before_many : Nat → Int32} {c_cooking_before_much : Nat → UInt32} {c_cooking_storesIn : Nat → Int32} {c_cooking_isBroth : Nat → Int32} {c_cooking_many : Nat → Int32} {c_cooking_much : Nat → UInt32} {m_tokens : Int32} {m_spoons : Int32} {m_mostSpoons : Int32} {m_cause : Int32} {m_causeDetail : Int32} {m_numbers : Nat → Int32} {m_signs : Nat → Int32} {m_isBrothOn : Nat → Int32} {m_dramsOn : Nat → Int64} {m_brothOn : Nat → UInt32} (hB : BR LS SE b s f) (hH : HA LS SE RA nx ch past pastF) (hq : bks nx = some a) (hR : RFR kp rs de hc ca cd rf) (hn : 0 < n4) (hn9 : n4 < 2147483648) :
    Ok (g_L_cook LS SE n4 bd ans b.1 b.2.1 b.2.2.1 b.2.2.2.1 b.2.2.2.2.2.2.2.2.2.2.1 c_cooking_boilsAt c_cooking_cause c_cooking_causeDetail c_cooking_spoons c_cooking_now_many b.2.2.2.2.1 c_cooking_now_much b.2.2.2.2.2.1 c_cooking_before_many c_cooking_before_much c_cooking_storesIn b.2.2.2.2.2.2.1 c_cooking_isBroth c_cooking_many c_cooking_much b.2.2.2.2.2.2.2.1 b.2.2.2.2.2.2.2.2.1 (nI nx) (nI ch) bks (RA nx).1 (RA nx).2.1 (RA nx).2.2.1 (RA nx).2.2.2.1 (RA nx).2.2.2.2.1 (RA nx).2.2.2.2.2.1 (RA nx).2.2.2.2.2.2.1 (RA nx).2.2.2.2.2.2.2.1 (RA nx).2.2.2.2.2.2.2.2.1 (RA nx).2.2.2.2.2.2.2.2.2.1 b.2.2.2.2.2.2.2.2.2.1 (RA nx).2.2.2.2.2.2.2.2.2.2.1 (RA nx).2.2.2.2.2.2.2.2.2.2.2 b.2.2.2.2.2.2.2.2.2.2.2 kp rs de hc ca cd p1 a) (fun o => Ok (g_X12_cook (nI ch) bd th m_tokens m_spoons m_mostSpoons m_cause m_causeDetail s be f beF m_numbers m_signs m_isBrothOn m_dramsOn m_brothOn rf past pastF p1) (fun o' => AN ans o.1 o.2.2.1 o'.1 o'.2.2.2.1 ∧ BR LS SE (b.1, b.2.1, o.2.2.2.1, o.2.2.2.2.1, o.2.2.2.2.2.2.2.2.2.2.1, o.2.2.2.2.2.2.2.2.2.2.2.2.1, b.2.2.2.2.2.2.1, b.2.2.2.2.2.2.2.1, b.2.2.2.2.2.2.2.2.1, o.2.2.2.2.2.2.2.2.2.2.2.2.2.2.2.2.2.2.2.2.2.2.2.2.2.2.2.2.2.2.2.1, b.2.2.2.2.2.2.2.2.2.2.1, o.2.2.2.2.2.2.2.2.2.2.2.2.2.2.2.2.2.2.2.2.2.2.2.2.2.2.2.2.2.2.2.2.2.2.1) o'.2.2.2.2.2.2.2.2.2.1 o'.2.2.2.2.2.2.2.2.2.2.2.1 ∧ NH LS SE RA nx (o.2.2.2.2.2.2.2.2.2.2.2.2.2.2.2.2.2.2.2.2.2.1, o.2.2.2.2.2.2.2.2.2.2.2.2.2.2.2.2.2.2.2.2.2.2.1, o.2.2.2.2.2.2.2.2.2.2.2.2.2.2.2.2.2.2.2.2.2.2.2.1, o.2.2.2.2.2.2.2.2.2.2.2.2.2.2.2.2.2.2.2.2.2.2.2.2.1, o.2.2.2.2.2.2.2.2.2.2.2.2.2.2.2.2.2.2.2.2.2.2.2.2.2.1, o.2.2.2.2.2.2.2.2.2.2.2.2.2.2.2.2.2.2.2.2.2.2.2.2.2.2.1, o.2.2.2.2.2.2.2.2.2.2.2.2.2.2.2.2.2.2.2.2.2.2.2.2.2.2.2.1, o.2.2.2.2.2.2.2.2.2.2.2.2.2.2.2.2.2.2.2.2.2.2.2.2.2.2.2.2.1, o.2.2.2.2.2.2.2.2.2.2.2.2.2.2.2.2.2.2.2.2.2.2.2.2.2.2.2.2.2.1, o.2.2.2.2.2.2.2.2.2.2.2.2.2.2.2.2.2.2.2.2.2.2.2.2.2.2.2.2.2.2.1, o.2.2.2.2.2.2.2.2.2.2.2.2.2.2.2.2.2.2.2.2.2.2.2.2.2.2.2.2.2.2.2.2.1, o.2.2.2.2.2.2.2.2.2.2.2.2.2.2.2.2.2.2.2.2.2.2.2.2.2.2.2.2.2.2.2.2.2.1) o.2.2.2.2.2.2.2.2.2.2.2.2.2.2.2.2.2.2.2.1 o.2.2.2.2.2.2.2.2.2.2.2.2.2.2.2.2.2.2.2.2.1 o'.2.1 o'.2.2.2.2.2.2.2.2.2.2.2.2.2.2.2.2.2.2.2.1 o'.2.2.2.2.2.2.2.2.2.2.2.2.2.2.2.2.2.2.2.2 ∧ RFR o.2.2.2.2.2.2.2.2.2.2.2.2.2.2.2.2.2.2.2.2.2.2.2.2.2.2.2.2.2.2.2.2.2.2.2.1 o.2.2.2.2.2.2.2.2.2.2.2.2.2.2.2.2.2.2.2.2.2.2.2.2.2.2.2.2.2.2.2.2.2.2.2.2.1 o.2.2.2.2.2.2.2.2.2.2.2.2.2.2.2.2.2.2.2.2.2.2.2.2.2.2.2.2.2.2.2.2.2.2.2.2.2.1 o.2.2.2.2.2.2.2.2.2.2.2.2.2.2.2.2.2.2.2.2.2.2.2.2.2.2.2.2.2.2.2.2.2.2.2.2.2.2.1 o.2.2.2.2.2.2.2.2.2.2.2.2.2.2.2.2.2.2.2.2.2.2.2.2.2.2.2.2.2.2.2.2.2.2.2.2.2.2.2.1 o.2.2.2.2.2.2.2.2.2.2.2.2.2.2.2.2.2.2.2.2.2.2.2.2.2.2.2.2.2.2.2.2.2.2.2.2.2.2.2.2 o'.2.2.2.2.2.2.2.2.2.2.2.2.2.2.2.2.2.2.1 ∧ o.2.1 = o'.2.2.1)) := by
  have hgc : inb 0 n4 = true := decide_eq_true ⟨by decide, by show (0 : Int) < n4; omega⟩
  obtain ⟨nc, ns, X, hBx⟩ := id hB
  obtain ⟨h6, h4, e1, e2, h0, h1, h2, h3, hX, hS, hT⟩ := id hBx
  obtain ⟨htx, hbo⟩ := BR_tx hB
  unfold g_L_cook g_X11_cook g_X12_cook
  rcases idx p1 ns (by omega) with ⟨i, hi, rfl⟩ | ho
  · obtain ⟨⟨a0, a1, a2⟩, a3, a4, a5⟩ := hT.1 i hi
    have nS : g_X11_needSpell LS SE b.2.1 b.2.2.2.2.2.2.2.2.2.2.1 (nI i) = some (nI 0, some a0) := by rw [e2]; exact k_needSpell_in hi h4 a1 a2
    refine bbe nS (bt rfl (bgs (bc a2.1 (ba (ok_b (k_X2_begin _ _ _ _) (fun r2 hr2 => ?_))))))
    have hK0 := CKI_of hBx hi hr2.1 hr2.2
    refine ba (ok_b (cook_step (show i < 4 by omega) a2 a3 h6 hK0 c_cooking_boilsAt c_cooking_cause c_cooking_causeDetail c_cooking_spoons c_cooking_before_many c_cooking_isBroth c_cooking_many c_cooking_storesIn c_cooking_before_much c_cooking_much m_tokens m_spoons m_mostSpoons m_cause m_causeDetail m_numbers m_signs m_isBrothOn m_dramsOn m_brothOn) (fun r hr => ?_))
    obtain ⟨u, hu, hq⟩ := hr
    rcases hq with ⟨q1, q2, q, q3, q4, q5, q6, q7, q8, q9⟩ | ⟨q1, q2, q3, q4, q5, q6, q7, q8⟩
    · refine bt q1 (bl (bbe (show g_X7_keepWithCause kp rs de hc ca cd 6 r.2.1 r.2.2.1 r.2.2.2.1 = some (1, 6, r.2.1, 1, r.2.2.1, r.2.2.2.1) from rfl) (bs (ok_f (show ¬ (4 : Int32) = 0 by decide) (ok_f (show ¬ (4 : Int32) = 2 by decide) (ok_t rfl (ok_s ?_)))))))
      refine ok_be (k_X12_keep th s be f beF) ?_
      unfold g_X12_doCook
      refine bbe (k_X12_isSpell_in h1 hi h4) (bf (by decide) (bbe hu (bf (by rw [q5]; exact nI_nlt (b := 0) (Nat.zero_le _) (by omega)) (bl (bbe (k_X12_refuseFor _ _ _ _ _ _ _) (bs (ok_be (k_X12_endsF (show ¬ (2 : Int32) ≤ 0 by decide)) (ok_s ⟨AN_n rfl rfl, BR_back2 hB _ _, NH_self hH, ?_, rfl⟩))))))))
      rw [q4, q5, q6, q7]
      rw [q6] at q8
      exact RFR_keepC (show (6 : Int32) ≠ 0 by decide) q8
    · have f1 := CKI_ff hK0
      have f2 := CKI_ff q4
      have hch := k_changes (nm := r.2.2.2.2.2.2.1) (mn := b.2.2.2.2.1) (nu := r.2.2.2.2.2.2.2.2.1) (mu := b.2.2.2.2.2.1) (nm0 := r.2.2.2.2.2.2.1) (mn0 := r.2.2.2.2.2.1) (nu0 := r.2.2.2.2.2.2.2.2.1) (mu0 := r.2.2.2.2.2.2.2.1) (fun c hc => ⟨rfl, (q6 c hc).trans (hr2.1 c hc), rfl, (q7 c hc).trans (hr2.2 c hc), f2 c hc, (hX c hc).1.2.2.2.1⟩)
      have hun := k_unlike (nc := nc) (nm := r.2.2.2.2.2.2.1) (mn := b.2.2.2.2.1) (nu := r.2.2.2.2.2.2.2.2.1) (mu := b.2.2.2.2.2.1) (s := u.2.2.2.2.2.2.1) (s0 := va_cpy s be 0 0 282) (f := u.2.2.2.2.2.2.2.2.2.2.2.1) (f0 := va_cpy f beF 0 0 6) h6 q4.2.2.1 (fun c hc => ⟨(q4.2.1 c hc).2.2.2.1, (cpy_in (by omega)).trans (hS c hc).2.2.2.1, (q4.2.1 c hc).2.2.2.2, (cpy_in hc).trans (hS c hc).2.2.2.2.2, f2 c hc, (hX c hc).1.2.2.2.1⟩)
      have hfar := DF_far (nc := nc) (nm := r.2.2.2.2.2.2.1) (mn := b.2.2.2.2.1) (nu := r.2.2.2.2.2.2.2.2.1) (mu := b.2.2.2.2.2.1) (6 - nc) (fun c hc1 hc2 => ⟨((q8 c hc1 (by omega)).1).trans (hr2.1 c (by omega)), ((q8 c hc1 (by omega)).2).trans (hr2.2 c (by omega))⟩)
      rw [show nc + (6 - nc) = 6 by omega] at hfar
      rw [hfar] at hch
      refine bf (by rw [q1]; decide) (ba (ok_b (k_X4_remember (LS := LS) (SE := SE) htx hbo (RA nx) hH.1 hH.2.1 hq) (fun r4 hr4 => ba (ok_b (k_settle (v := fun c => NC (rT (X i)).2.1 (rT (X i)).2.2.1 c (rT (X i)).1) (show i < 4 by omega) (fun c hc => (q5.1 c hc).1)) (fun r5 hr5 => bbe hch (bs (ok_t rfl (ok_c hgc (ok_s ?_)))))))))
      obtain ⟨o1, o2, o3, o4, o5, o6⟩ := hr5
      have hnew := BR_cook hBx hi q4 q5 o1 o2 o3 o4 o5 o6
      rw [hr4.1, hr4.2.1]
      obtain ⟨past', pastF', hE1, hE2⟩ := HA_push (s := u.2.2.2.2.2.2.1) (f := u.2.2.2.2.2.2.2.2.2.2.2.1) hH (BR_keep (be := be) (beF := beF) hB) hr4.2.2 (nI (DFc r.2.2.2.2.2.2.1 b.2.2.2.2.1 r.2.2.2.2.2.2.2.2.1 b.2.2.2.2.2.1 nc))
      refine ok_be (k_X12_keep th s be f beF) ?_
      unfold g_X12_doCook
      exact bbe (k_X12_isSpell_in h1 hi h4) (bf (by decide) (bbe hu (bt (by rw [q2]; decide) (bbe hun (bs (ok_be hE1 (ok_s ⟨AN_y rfl rfl, ⟨nc, ns, X, hnew⟩, ⟨_, _, rfl, rfl, rfl, hE2, Or.inr rfl⟩, hR, rfl⟩)))))))
  · refine bbe (by rw [e2]; exact k_needSpell_out ho) (bf (by decide) (bs (ok_f (show ¬ (2 : Int32) = 0 by decide) (ok_t rfl (ok_s ?_)))))
    refine ok_be (k_X12_keep th s be f beF) ?_
    unfold g_X12_doCook
    exact bbe (k_X12_isSpell_out h1 ho h4) (bt rfl (bbe (show g_X12_fails _ 1 = some (0, 1) from rfl) (bs (ok_be (k_X12_endsF (show ¬ (1 : Int32) ≤ 0 by decide)) (ok_s ⟨AN_n rfl rfl, BR_back hB, NH_self hH, hR, rfl⟩)))))
theorem l_cookAll {nc ns : Nat} {X : Nat → TX} {cx : Int32} :
    ∀ (n m i : Nat) (v_bk_contents_many : (Nat → Int32)) (v_bk_contents_much : (Nat → UInt32)) (v_bk_cooked : (Nat → Int32)) (v_bk_high : (Nat → Int32)) (v_bk_isBroth : (Nat → Int32)) (v_bk_low : (Nat → Int32)) (v_bk_storesIn : (Nat → Int32)) (v_bk_texts : (Nat → Option Nat)) (v_t_book_contents_many : (Nat → Int32)) (v_t_book_contents_much : (Nat → UInt32)) (v_t_book_cooked : (Nat → Int32)) (v_t_book_storesIn : (Nat → Int32)) (v_t_cooking_before_many : (Nat → Int32)) (v_t_cooking_before_much : (Nat → UInt32)) (v_t_cooking_isBroth : (Nat → Int32)) (v_t_cooking_many : (Nat → Int32)) (v_t_cooking_much : (Nat → UInt32)) (v_t_cooking_now_many : (Nat → Int32)) (v_t_cooking_now_much : (Nat → UInt32)) (v_t_cooking_storesIn : (Nat → Int32)) (v_t_typing_high : (Nat → Int64)) (v_t_typing_isBroth : (Nat → Int32)) (v_t_typing_low : (Nat → Int64)) (v_t_typing_storeHigh : (Nat → Int64)) (v_t_typing_storeIsBroth : (Nat → Int32)) (v_t_typing_storeLow : (Nat → Int64)) (v_bk_cauldrons : Int32) (v_bk_storesSoFar : Int32) (v_bk_spells : Int32) (v_bk_cookedSoFar : Int32) (v_t_book_storesSoFar : Int32) (v_t_book_cookedSoFar : Int32) (v_t_cooking_boilsAt : Int32) (v_t_cooking_cause : Int32) (v_t_cooking_causeDetail : Int32) (v_t_cooking_spoons : Int32) (v_t_history_next : Int32) (v_t_history_changes : Int32) (v_t_typing_faultAt : Int32) (v_t_typing_stores : Int32) (v_t_typing_spoons : Int32) (w_t_brothOn : (Nat → UInt32)) (w_t_dramsOn : (Nat → Int64)) (f : (Nat → UInt32)) (w_t_highOn : (Nat → Int64)) (w_t_highStored : (Nat → Int64)) (w_t_isBrothOn : (Nat → Int32)) (w_t_isBrothStored : (Nat → Int32)) (w_t_lowOn : (Nat → Int64)) (w_t_lowStored : (Nat → Int64)) (w_t_numbers : (Nat → Int32)) (s : (Nat → Int32)) (w_t_signs : (Nat → Int32)) (w_t_tokens : Int32) (w_t_spoons : Int32) (w_t_mostSpoons : Int32) (w_t_cause : Int32) (w_t_causeDetail : Int32) (w_t_storeMany : Int32), i ≤ ns → ns - i < n → ns - i < m → BRx LS SE nc ns X (b.1, b.2.1, v_t_book_cookedSoFar, v_t_book_storesSoFar, v_t_book_contents_many, v_t_book_contents_much, b.2.2.2.2.2.2.1, b.2.2.2.2.2.2.2.1, b.2.2.2.2.2.2.2.2.1, v_t_book_storesIn, b.2.2.2.2.2.2.2.2.2.2.1, v_t_book_cooked) s f →
      Ok (g_X11_cookAll_b48 LS SE b.2.1 b.2.2.2.2.2.2.2.2.2.2.1 b.2.2.2.2.2.2.1 b.2.2.2.2.2.2.2.1 b.2.2.2.2.2.2.2.2.1 kp rs de hc n v_bk_contents_many v_bk_contents_much v_bk_cooked v_bk_high v_bk_isBroth v_bk_low v_bk_storesIn v_bk_texts v_t_book_contents_many v_t_book_contents_much v_t_book_cooked v_t_book_storesIn v_t_cooking_before_many v_t_cooking_before_much v_t_cooking_isBroth v_t_cooking_many v_t_cooking_much v_t_cooking_now_many v_t_cooking_now_much v_t_cooking_storesIn v_t_typing_high v_t_typing_isBroth v_t_typing_low v_t_typing_storeHigh v_t_typing_storeIsBroth v_t_typing_storeLow v_bk_cauldrons v_bk_storesSoFar v_bk_spells v_bk_cookedSoFar v_t_book_storesSoFar v_t_book_cookedSoFar v_t_cooking_boilsAt v_t_cooking_cause v_t_cooking_causeDetail v_t_cooking_spoons v_t_history_next v_t_history_changes v_t_typing_faultAt v_t_typing_stores v_t_typing_spoons cx (nI i)) (fun o => o.1 = 0 ∧ o.2.1 = cx ∧ o.2.2.2.2.2.2.2.2.2.2.2.2.2.1 = v_t_history_next ∧ o.2.2.2.2.2.2.2.2.2.2.2.2.2.2.1 = v_t_history_changes ∧ o.2.2.2.2.2.2.2.2.2.2.2.2.2.2.2.1 = v_bk_cauldrons ∧ o.2.2.2.2.2.2.2.2.2.2.2.2.2.2.2.2.1 = v_bk_spells ∧ o.2.2.2.2.2.2.2.2.2.2.2.2.2.2.2.2.2.1 = v_bk_cookedSoFar ∧ o.2.2.2.2.2.2.2.2.2.2.2.2.2.2.2.2.2.2.1 = v_bk_storesSoFar ∧ o.2.2.2.2.2.2.2.2.2.2.2.2.2.2.2.2.2.2.2.1 = v_bk_contents_many ∧ o.2.2.2.2.2.2.2.2.2.2.2.2.2.2.2.2.2.2.2.2.2.1 = v_bk_contents_much ∧ o.2.2.2.2.2.2.2.2.2.2.2.2.2.2.2.2.2.2.2.2.2.2.2.1 = v_bk_isBroth ∧ o.2.2.2.2.2.2.2.2.2.2.2.2.2.2.2.2.2.2.2.2.2.2.2.2.1 = v_bk_low ∧ o.2.2.2.2.2.2.2.2.2.2.2.2.2.2.2.2.2.2.2.2.2.2.2.2.2.1 = v_bk_high ∧ o.2.2.2.2.2.2.2.2.2.2.2.2.2.2.2.2.2.2.2.2.2.2.2.2.2.2.1 = v_bk_storesIn ∧ o.2.2.2.2.2.2.2.2.2.2.2.2.2.2.2.2.2.2.2.2.2.2.2.2.2.2.2.2.1 = v_bk_texts ∧ o.2.2.2.2.2.2.2.2.2.2.2.2.2.2.2.2.2.2.2.2.2.2.2.2.2.2.2.2.2.1 = v_bk_cooked ∧ o.2.2.2.2.2.2.2.2.2.2.2.2.2.2.2.2.2.2.2.2.2.2.2.2.2.2.2.2.2.2.2.1 = kp ∧ o.2.2.2.2.2.2.2.2.2.2.2.2.2.2.2.2.2.2.2.2.2.2.2.2.2.2.2.2.2.2.2.2.1 = rs ∧ o.2.2.2.2.2.2.2.2.2.2.2.2.2.2.2.2.2.2.2.2.2.2.2.2.2.2.2.2.2.2.2.2.2.1 = de ∧ o.2.2.2.2.2.2.2.2.2.2.2.2.2.2.2.2.2.2.2.2.2.2.2.2.2.2.2.2.2.2.2.2.2.2.1 = hc ∧ Ok (g_X12_doCookAll_b25 0 rf m w_t_brothOn w_t_dramsOn f w_t_highOn w_t_highStored w_t_isBrothOn w_t_isBrothStored w_t_lowOn w_t_lowStored w_t_numbers s w_t_signs w_t_tokens w_t_spoons w_t_mostSpoons w_t_cause w_t_causeDetail w_t_storeMany cx (nI i)) (fun u => u.1 = cx ∧ u.2.1 = 0 ∧ u.2.2.2.2.2.2.2.2.2.2.2.2.2.2.2.2.2.1 = rf ∧ BRx LS SE nc ns X (b.1, b.2.1, o.2.2.1, o.2.2.2.1, o.2.2.2.2.2.2.2.2.2.2.2.2.2.2.2.2.2.2.2.2.1, o.2.2.2.2.2.2.2.2.2.2.2.2.2.2.2.2.2.2.2.2.2.2.1, b.2.2.2.2.2.2.1, b.2.2.2.2.2.2.2.1, b.2.2.2.2.2.2.2.2.1, o.2.2.2.2.2.2.2.2.2.2.2.2.2.2.2.2.2.2.2.2.2.2.2.2.2.2.2.1, b.2.2.2.2.2.2.2.2.2.2.1, o.2.2.2.2.2.2.2.2.2.2.2.2.2.2.2.2.2.2.2.2.2.2.2.2.2.2.2.2.2.2.1) u.2.2.2.2.2.2.2.2.1 u.2.2.2.2.2.2.2.2.2.2.2.2.2.2.2.2.2.2.2.1))
  | 0, m, i, _, _, _, _, _, _, _, _, _, _, _, _, _, _, _, _, _, _, _, _, _, _, _, _, _, _, _, _, _, _, _, _, _, _, _, _, _, _, _, _, _, _, _, _, _, _, _, _, _, _, _, _, _, _, _, _, _, _, _, _, h, _, _ => absurd h (Nat.not_lt_zero _)
  | n + 1, 0, i, _, _, _, _, _, _, _, _, _, _, _, _, _, _, _, _, _, _, _, _, _, _, _, _, _, _, _, _, _, _, _, _, _, _, _, _, _, _, _, _, _, _, _, _, _, _, _, _, _, _, _, _, _, _, _, _, _, _, _, _, _, h, _ => absurd h (Nat.not_lt_zero _)
  | n + 1, m + 1, i, v_bk_contents_many, v_bk_contents_much, v_bk_cooked, v_bk_high, v_bk_isBroth, v_bk_low, v_bk_storesIn, v_bk_texts, v_t_book_contents_many, v_t_book_contents_much, v_t_book_cooked, v_t_book_storesIn, v_t_cooking_before_many, v_t_cooking_before_much, v_t_cooking_isBroth, v_t_cooking_many, v_t_cooking_much, v_t_cooking_now_many, v_t_cooking_now_much, v_t_cooking_storesIn, v_t_typing_high, v_t_typing_isBroth, v_t_typing_low, v_t_typing_storeHigh, v_t_typing_storeIsBroth, v_t_typing_storeLow, v_bk_cauldrons, v_bk_storesSoFar, v_bk_spells, v_bk_cookedSoFar, v_t_book_storesSoFar, v_t_book_cookedSoFar, v_t_cooking_boilsAt, v_t_cooking_cause, v_t_cooking_causeDetail, v_t_cooking_spoons, v_t_history_next, v_t_history_changes, v_t_typing_faultAt, v_t_typing_stores, v_t_typing_spoons, w_t_brothOn, w_t_dramsOn, f, w_t_highOn, w_t_highStored, w_t_isBrothOn, w_t_isBrothStored, w_t_lowOn, w_t_lowStored, w_t_numbers, s, w_t_signs, w_t_tokens, w_t_spoons, w_t_mostSpoons, w_t_cause, w_t_causeDetail, w_t_storeMany, hle, hm, hm2, hBx => by
    obtain ⟨h6, h4, e1, e2, h0, h1, h2, h3, hX, hS, hT⟩ := id hBx
    have hbo := CX_bo hX
    unfold g_X11_cookAll_b48 g_X11_cookAll_b125 g_X12_doCookAll_b25 g_X12_doCookAll_b49
    have hs1 : s (1 : Int32).toNatClampNeg = nI ns := h1
    rw [hs1]
    have e2' : b.2.1 = nI ns := e2
    by_cases c : i = ns
    · subst c
      exact ok_t (by rw [e2']; exact nI_le (Nat.le_refl _) (by omega)) (ok_s ⟨rfl, rfl, rfl, rfl, rfl, rfl, rfl, rfl, rfl, rfl, rfl, rfl, rfl, rfl, rfl, rfl, rfl, rfl, rfl, rfl, ok_c rfl (ok_t (nI_le (Nat.le_refl _) (by omega)) (ok_s ⟨rfl, rfl, rfl, hBx⟩))⟩)
    · have hi' : i < ns := by omega
      obtain ⟨⟨a0, a1, a2⟩, a3, a4, a5⟩ := hT.1 i hi'
      obtain ⟨r4, hr4, y, y1, y2, -⟩ := k_X12_faultOf (s := s) (show i < 4 by omega) a3 a4 hbo (CS_SB hS) w_t_tokens w_t_spoons w_t_mostSpoons w_t_storeMany w_t_numbers w_t_signs w_t_isBrothOn w_t_isBrothStored w_t_lowOn w_t_highOn w_t_lowStored w_t_highStored
      refine ok_f (by rw [e2']; exact nI_ge hi' (by omega)) (ok_be (by rw [e2']; exact k_spellAt hi' h4 a1) (ok_gs (ok_c a2.1 (ok_b (k9x a2 a3 h6 hbo _ _ _ _ _ _ _ _ _) (fun r6 hr6 => ?_)))))
      obtain ⟨z, z1, z2, -⟩ := hr6
      have ez := FV_one y1 z1
      subst ez
      cases y with
      | some q =>
        rw [if_neg (by simp)] at z2
        refine ok_t z2 (ok_l ?_)
        rw [nI_1]
        refine ok_m (l_cookAll n m (i + 1) _ _ _ _ _ _ _ _ _ _ _ _ _ _ _ _ _ _ _ _ _ _ _ _ _ _ _ _ _ _ _ _ _ _ _ _ _ _ _ _ _ w_t_brothOn w_t_dramsOn f r4.2.2.2.2.2.2.2.2.1 r4.2.2.2.2.2.2.2.2.2.2.2.1 r4.2.2.2.2.2.2.2.2.2.1 r4.2.2.2.2.2.2.2.2.2.2.2.2 r4.2.2.2.2.2.2.2.1 r4.2.2.2.2.2.2.2.2.2.2.1 r4.2.2.2.2.2.1 s r4.2.2.2.2.2.2.1 r4.2.1 r4.2.2.1 r4.2.2.2.1 w_t_cause w_t_causeDetail r4.2.2.2.2.1 (by omega) (by omega) (by omega) hBx) (fun o ho => ?_)
        obtain ⟨ho0, ho1, ho2, ho3, ho4, ho5, ho6, ho7, ho8, ho9, ho10, ho11, ho12, ho13, ho14, ho15, ho16, ho17, ho18, ho19, hoR⟩ := ho
        refine ⟨ho0, ho1, ho2, ho3, ho4, ho5, ho6, ho7, ho8, ho9, ho10, ho11, ho12, ho13, ho14, ho15, ho16, ho17, ho18, ho19, ok_c rfl (ok_f (nI_ge hi' (by omega)) (ok_be hr4 (ok_t (by rw [y2]; exact fcode_0 y1.1 (OKT_SH a3).1) (ok_l ?_))))⟩
        exact hoR
      | none =>
        rw [if_pos rfl] at z2
        refine ok_f (by rw [z2]; decide) (ok_b (k_X2_begin _ _ _ _) (fun r7 hr7 => ?_))
        have hK0 := CKI_of hBx hi' hr7.1 hr7.2
        refine ok_b (cook_step (show i < 4 by omega) a2 a3 h6 hK0 v_t_cooking_boilsAt v_t_cooking_cause v_t_cooking_causeDetail v_t_cooking_spoons v_t_cooking_before_many v_t_cooking_isBroth v_t_cooking_many v_t_cooking_storesIn v_t_cooking_before_much v_t_cooking_much r4.2.1 r4.2.2.1 r4.2.2.2.1 w_t_cause w_t_causeDetail r4.2.2.2.2.2.1 r4.2.2.2.2.2.2.1 r4.2.2.2.2.2.2.2.2.2.1 w_t_dramsOn w_t_brothOn) (fun r8 hr8 => ?_)
        obtain ⟨u, hu, hq⟩ := hr8
        rcases hq with ⟨-, q2, -⟩ | ⟨q1, q2, q3, q4, q5, q6, q7, q8⟩
        · exact absurd (typed_safe a3 h6 (CX_ag hX hr7.1 hr7.2) y1) q2
        · refine ok_f (by rw [q1]; decide) (ok_b (k_settle (v := fun c => NC (rT (X i)).2.1 (rT (X i)).2.2.1 c (rT (X i)).1) (show i < 4 by omega) (fun c hc => (q5.1 c hc).1)) (fun r9 hr9 => ok_l ?_))
          obtain ⟨o1, o2, o3, o4, o5, o6⟩ := hr9
          have hnew := BR_cook hBx hi' q4 q5 o1 o2 o3 o4 o5 o6
          rw [nI_1]
          refine ok_m (l_cookAll n m (i + 1) _ _ _ _ _ _ _ _ _ _ _ _ _ _ _ _ _ _ _ _ _ _ _ _ _ _ _ _ _ _ _ _ _ _ _ _ _ _ _ _ _ u.2.2.2.2.2.2.2.2.2.2.2.2 u.2.2.2.2.2.2.2.2.2.2.1 u.2.2.2.2.2.2.2.2.2.2.2.1 r4.2.2.2.2.2.2.2.2.1 r4.2.2.2.2.2.2.2.2.2.2.2.1 u.2.2.2.2.2.2.2.2.2.1 r4.2.2.2.2.2.2.2.2.2.2.2.2 r4.2.2.2.2.2.2.2.1 r4.2.2.2.2.2.2.2.2.2.2.1 u.2.2.2.2.2.2.2.1 u.2.2.2.2.2.2.1 u.2.2.2.2.2.2.2.2.1 u.2.1 u.2.2.1 u.2.2.2.1 u.2.2.2.2.1 u.2.2.2.2.2.1 r4.2.2.2.2.1 (by omega) (by omega) (by omega) hnew) (fun o ho => ?_)
          obtain ⟨ho0, ho1, ho2, ho3, ho4, ho5, ho6, ho7, ho8, ho9, ho10, ho11, ho12, ho13, ho14, ho15, ho16, ho17, ho18, ho19, hoR⟩ := ho
          refine ⟨ho0, ho1, ho2, ho3, ho4, ho5, ho6, ho7, ho8, ho9, ho10, ho11, ho12, ho13, ho14, ho15, ho16, ho17, ho18, ho19, ok_c rfl (ok_f (nI_ge hi' (by omega)) (ok_be hr4 (ok_f (by rw [y2]; decide) (ok_be hu (ok_l ?_)))))⟩
          exact hoR
set_option maxHeartbeats 4000000 in
theorem op_cookAll {c_typing_faultAt : Int32} {c_typing_stores : Int32} {c_typing_spoons : Int32} {c_typing_isBroth : Nat → Int32} {c_typing_low : Nat → Int64} {c_typing_high : Nat → Int64} {c_typing_storeIsBroth : Nat → Int32} {c_typing_storeLow : Nat → Int64} {c_typing_storeHigh : Nat → Int64} {c_cooking_boilsAt : Int32} {c_cooking_cause : Int32} {c_cooking_causeDetail : Int32} {c_cooking_spoons : Int32} {c_cooking_now_many : Nat → Int32} {c_cooking_now_much : Nat → UInt32} {c_cooking_before_many : Nat → Int32} {c_cooking_before_much : Nat → UInt32} {c_cooking_storesIn : Nat → Int32} {c_cooking_isBroth : Nat → Int32} {c_cooking_many : Nat → Int32} {c_cooking_much : Nat → UInt32} {m_tokens : Int32} {m_spoons : Int32} {m_mostSpoons : Int32} {m_cause : Int32} {m_causeDetail : Int32} {m_storeMany : Int32} {m_numbers : Nat → Int32} {m_signs : Nat → Int32} {m_lowOn : Nat → Int64} {m_highOn : Nat → Int64} {m_isBrothOn : Nat → Int32} {m_lowStored : Nat → Int64} {m_highStored : Nat → Int64} {m_isBrothStored : Nat → Int32} {m_dramsOn : Nat → Int64} {m_brothOn : Nat → UInt32} (hB : BR LS SE b s f) (hH : HA LS SE RA nx ch past pastF) (hq : bks nx = some a) (hR : RFR kp rs de hc ca cd rf) (hn : 0 < n4) (hn9 : n4 < 2147483648) :
    Ok (g_L_cookAll LS SE n4 ans b.1 b.2.1 b.2.2.1 b.2.2.2.1 b.2.2.2.2.2.2.2.2.2.2.1 c_typing_faultAt c_typing_stores c_typing_spoons b.2.2.2.2.2.2.1 b.2.2.2.2.2.2.2.1 b.2.2.2.2.2.2.2.2.1 c_typing_isBroth c_typing_low c_typing_high c_typing_storeIsBroth c_typing_storeLow c_typing_storeHigh (nI nx) (nI ch) bks (RA nx).1 (RA nx).2.1 (RA nx).2.2.1 (RA nx).2.2.2.1 (RA nx).2.2.2.2.1 b.2.2.2.2.1 (RA nx).2.2.2.2.2.1 b.2.2.2.2.2.1 (RA nx).2.2.2.2.2.2.1 (RA nx).2.2.2.2.2.2.2.1 (RA nx).2.2.2.2.2.2.2.2.1 (RA nx).2.2.2.2.2.2.2.2.2.1 b.2.2.2.2.2.2.2.2.2.1 (RA nx).2.2.2.2.2.2.2.2.2.2.1 (RA nx).2.2.2.2.2.2.2.2.2.2.2 b.2.2.2.2.2.2.2.2.2.2.2 kp rs de hc c_cooking_boilsAt c_cooking_cause c_cooking_causeDetail c_cooking_spoons c_cooking_now_many c_cooking_now_much c_cooking_before_many c_cooking_before_much c_cooking_storesIn c_cooking_isBroth c_cooking_many c_cooking_much a) (fun o => Ok (g_X12_cookAll (nI ch) th m_tokens m_spoons m_mostSpoons m_cause m_causeDetail m_storeMany s be f beF m_numbers m_signs m_lowOn m_highOn m_isBrothOn m_lowStored m_highStored m_isBrothStored rf m_dramsOn m_brothOn past pastF) (fun o' => AN ans o.1 o.2.1 o'.1 o'.2.2.1 ∧ BR LS SE (b.1, b.2.1, o.2.2.1, o.2.2.2.1, o.2.2.2.2.2.2.2.2.2.2.2.2.2.2.2.2.2.2.2.2.1, o.2.2.2.2.2.2.2.2.2.2.2.2.2.2.2.2.2.2.2.2.2.2.1, b.2.2.2.2.2.2.1, b.2.2.2.2.2.2.2.1, b.2.2.2.2.2.2.2.2.1, o.2.2.2.2.2.2.2.2.2.2.2.2.2.2.2.2.2.2.2.2.2.2.2.2.2.2.2.1, b.2.2.2.2.2.2.2.2.2.2.1, o.2.2.2.2.2.2.2.2.2.2.2.2.2.2.2.2.2.2.2.2.2.2.2.2.2.2.2.2.2.2.1) o'.2.2.2.2.2.2.2.2.2.1 o'.2.2.2.2.2.2.2.2.2.2.2.1 ∧ NH LS SE RA nx (o.2.2.2.2.2.2.2.2.2.2.2.2.2.2.2.1, o.2.2.2.2.2.2.2.2.2.2.2.2.2.2.2.2.1, o.2.2.2.2.2.2.2.2.2.2.2.2.2.2.2.2.2.1, o.2.2.2.2.2.2.2.2.2.2.2.2.2.2.2.2.2.2.1, o.2.2.2.2.2.2.2.2.2.2.2.2.2.2.2.2.2.2.2.1, o.2.2.2.2.2.2.2.2.2.2.2.2.2.2.2.2.2.2.2.2.2.1, o.2.2.2.2.2.2.2.2.2.2.2.2.2.2.2.2.2.2.2.2.2.2.2.1, o.2.2.2.2.2.2.2.2.2.2.2.2.2.2.2.2.2.2.2.2.2.2.2.2.1, o.2.2.2.2.2.2.2.2.2.2.2.2.2.2.2.2.2.2.2.2.2.2.2.2.2.1, o.2.2.2.2.2.2.2.2.2.2.2.2.2.2.2.2.2.2.2.2.2.2.2.2.2.2.1, o.2.2.2.2.2.2.2.2.2.2.2.2.2.2.2.2.2.2.2.2.2.2.2.2.2.2.2.2.1, o.2.2.2.2.2.2.2.2.2.2.2.2.2.2.2.2.2.2.2.2.2.2.2.2.2.2.2.2.2.1) o.2.2.2.2.2.2.2.2.2.2.2.2.2.1 o.2.2.2.2.2.2.2.2.2.2.2.2.2.2.1 o'.2.1 o'.2.2.2.2.2.2.2.2.2.2.2.2.2.2.2.2.2.2.2.2.2.2.2.2.1 o'.2.2.2.2.2.2.2.2.2.2.2.2.2.2.2.2.2.2.2.2.2.2.2.2.2 ∧ RFR o.2.2.2.2.2.2.2.2.2.2.2.2.2.2.2.2.2.2.2.2.2.2.2.2.2.2.2.2.2.2.2.1 o.2.2.2.2.2.2.2.2.2.2.2.2.2.2.2.2.2.2.2.2.2.2.2.2.2.2.2.2.2.2.2.2.1 o.2.2.2.2.2.2.2.2.2.2.2.2.2.2.2.2.2.2.2.2.2.2.2.2.2.2.2.2.2.2.2.2.2.1 o.2.2.2.2.2.2.2.2.2.2.2.2.2.2.2.2.2.2.2.2.2.2.2.2.2.2.2.2.2.2.2.2.2.2.1 ca cd o'.2.2.2.2.2.2.2.2.2.2.2.2.2.2.2.2.2.2.2.2.2.1)) := by
  have hgc : inb 0 n4 = true := decide_eq_true ⟨by decide, by show (0 : Int) < n4; omega⟩
  obtain ⟨nc, ns, X, hBx⟩ := id hB
  obtain ⟨h6, h4, e1, e2, h0, h1, h2, h3, hX, hS, hT⟩ := id hBx
  obtain ⟨htx, hbo⟩ := BR_tx hB
  have hXi : ∀ i, i < ns → OKT nc (X i) ∧ SPM s i (X i) := fun i hi => ⟨(hT.1 i hi).2.1, (hT.1 i hi).2.2.1⟩
  unfold g_L_cookAll g_X11_cookAll g_X12_cookAll
  have typM := k_typedMany h4 hbo h1 (CS_SB hS) hXi m_tokens m_spoons m_mostSpoons m_storeMany m_numbers m_signs m_isBrothOn m_isBrothStored m_lowOn m_highOn m_lowStored m_highStored
  obtain ⟨v1, hv1, hv1'⟩ := typM
  refine ba (ok_b (by rw [e2]; exact k_countTyped h6 h4 hbo hT _ _ _ _ _ _ _ _ _) (fun r1 hr1 => ?_))
  have hcl := CT_le b.2.2.2.2.2.2.1 b.2.2.2.2.2.2.2.1 b.2.2.2.2.2.2.2.2.1 X ns
  by_cases hz : CT b.2.2.2.2.2.2.1 b.2.2.2.2.2.2.2.1 b.2.2.2.2.2.2.2.2.1 X ns = 0
  · rw [hz] at hr1 hv1'
    refine bt (by rw [hr1]; rfl) (bbe (show g_X7_keep kp rs de hc 9 b.2.1 = some (1, 9, b.2.1, 0) from rfl) (bs (ok_f (show ¬ (4 : Int32) = 0 by decide) (ok_t rfl (ok_s ?_)))))
    refine ok_be (k_X12_keep th s be f beF) ?_
    unfold g_X12_doCookAll
    refine bbe hv1 (bt (by rw [hv1']; rfl) (bc rfl (bbe (k_X12_refuse _ _ _ _ _) (bs (ok_be (k_X12_endsF (show ¬ (1 : Int32) ≤ 0 by decide)) (ok_s ⟨AN_n rfl rfl, BR_back hB, NH_self hH, ?_⟩))))))
    rw [show s (1 : Int32).toNatClampNeg = b.2.1 from h1.trans e2.symm]
    exact RFR_keep (hc := 0) (show (9 : Int32) ≠ 0 by decide)
  · have hnz : ¬ nI (CT b.2.2.2.2.2.2.1 b.2.2.2.2.2.2.2.1 b.2.2.2.2.2.2.2.2.1 X ns) = 0 := fun z => hz (nI_inj (by omega) (by omega) (show nI (CT b.2.2.2.2.2.2.1 b.2.2.2.2.2.2.2.1 b.2.2.2.2.2.2.2.2.1 X ns) = nI 0 from z))
    refine bf (by rw [hr1]; exact hnz) (ba (ok_b (k_X4_remember (LS := LS) (SE := SE) htx hbo (RA nx) hH.1 hH.2.1 hq) (fun r2 hr2 => ?_)))
    rw [hr1]
    refine ok_b (l_cookAll (ns := ns) (X := X) (cx := nI (CT b.2.2.2.2.2.2.1 b.2.2.2.2.2.2.2.1 b.2.2.2.2.2.2.2.2.1 X ns)) (rf := rf) 100 100 0 _ _ _ _ _ _ _ _ _ _ _ _ _ _ _ _ _ _ _ _ _ _ _ _ _ _ _ _ _ _ _ _ _ _ _ _ _ _ _ _ _ m_brothOn m_dramsOn f v1.2.2.2.2.2.2.2.2.1 v1.2.2.2.2.2.2.2.2.2.2.2.1 v1.2.2.2.2.2.2.2.2.2.1 v1.2.2.2.2.2.2.2.2.2.2.2.2 v1.2.2.2.2.2.2.2.1 v1.2.2.2.2.2.2.2.2.2.2.1 v1.2.2.2.2.2.1 s v1.2.2.2.2.2.2.1 v1.2.1 v1.2.2.1 v1.2.2.2.1 m_cause m_causeDetail v1.2.2.2.2.1 (Nat.zero_le _) (by omega) (by omega) hBx) (fun o ho => ?_)
    obtain ⟨ho0, ho1, ho2, ho3, ho4, ho5, ho6, ho7, ho8, ho9, ho10, ho11, ho12, ho13, ho14, ho15, ho16, ho17, ho18, ho19, hoR⟩ := ho
    refine ok_t ho0 (ok_c hgc (ok_s ?_))
    obtain ⟨u, hu, u1, u2, u3, u4⟩ := hoR
    refine ok_be (k_X12_keep th s be f beF) ?_
    unfold g_X12_doCookAll
    obtain ⟨past', pastF', hE1, hE2⟩ := HA_push (s := u.2.2.2.2.2.2.2.2.1) (f := u.2.2.2.2.2.2.2.2.2.2.2.2.2.2.2.2.2.2.2.1) hH (BR_keep (be := be) (beF := beF) hB) hr2.2.2 (nI (CT b.2.2.2.2.2.2.1 b.2.2.2.2.2.2.2.1 b.2.2.2.2.2.2.2.2.1 X ns))
    refine bbe hv1 (bf (by rw [hv1']; exact hnz) ?_)
    rw [hv1']
    refine ok_be hu ?_
    rw [u1, u2, u3]
    refine ok_be hE1 (ok_s ⟨AN_y ho1.symm rfl, ⟨nc, ns, X, u4⟩, ⟨_, _, ho2.trans hr2.1, ho3.trans hr2.2.1, rfl, ?_, Or.inr rfl⟩, ?_⟩)
    · show HA LS SE (upB RA nx (o.2.2.2.2.2.2.2.2.2.2.2.2.2.2.2.1, o.2.2.2.2.2.2.2.2.2.2.2.2.2.2.2.2.1, o.2.2.2.2.2.2.2.2.2.2.2.2.2.2.2.2.2.1, o.2.2.2.2.2.2.2.2.2.2.2.2.2.2.2.2.2.2.1, o.2.2.2.2.2.2.2.2.2.2.2.2.2.2.2.2.2.2.2.1, o.2.2.2.2.2.2.2.2.2.2.2.2.2.2.2.2.2.2.2.2.2.1, o.2.2.2.2.2.2.2.2.2.2.2.2.2.2.2.2.2.2.2.2.2.2.2.1, o.2.2.2.2.2.2.2.2.2.2.2.2.2.2.2.2.2.2.2.2.2.2.2.2.1, o.2.2.2.2.2.2.2.2.2.2.2.2.2.2.2.2.2.2.2.2.2.2.2.2.2.1, o.2.2.2.2.2.2.2.2.2.2.2.2.2.2.2.2.2.2.2.2.2.2.2.2.2.2.1, o.2.2.2.2.2.2.2.2.2.2.2.2.2.2.2.2.2.2.2.2.2.2.2.2.2.2.2.2.1, o.2.2.2.2.2.2.2.2.2.2.2.2.2.2.2.2.2.2.2.2.2.2.2.2.2.2.2.2.2.1)) _ _ _ _
      have hring : (o.2.2.2.2.2.2.2.2.2.2.2.2.2.2.2.1, o.2.2.2.2.2.2.2.2.2.2.2.2.2.2.2.2.1, o.2.2.2.2.2.2.2.2.2.2.2.2.2.2.2.2.2.1, o.2.2.2.2.2.2.2.2.2.2.2.2.2.2.2.2.2.2.1, o.2.2.2.2.2.2.2.2.2.2.2.2.2.2.2.2.2.2.2.1, o.2.2.2.2.2.2.2.2.2.2.2.2.2.2.2.2.2.2.2.2.2.1, o.2.2.2.2.2.2.2.2.2.2.2.2.2.2.2.2.2.2.2.2.2.2.2.1, o.2.2.2.2.2.2.2.2.2.2.2.2.2.2.2.2.2.2.2.2.2.2.2.2.1, o.2.2.2.2.2.2.2.2.2.2.2.2.2.2.2.2.2.2.2.2.2.2.2.2.2.1, o.2.2.2.2.2.2.2.2.2.2.2.2.2.2.2.2.2.2.2.2.2.2.2.2.2.2.1, o.2.2.2.2.2.2.2.2.2.2.2.2.2.2.2.2.2.2.2.2.2.2.2.2.2.2.2.2.1, o.2.2.2.2.2.2.2.2.2.2.2.2.2.2.2.2.2.2.2.2.2.2.2.2.2.2.2.2.2.1) = r2.2.2 := by
        rw [ho4, ho5, ho6, ho7, ho8, ho9, ho10, ho11, ho12, ho13, ho14, ho15]
      rw [hring]
      exact hE2
    · show RFR o.2.2.2.2.2.2.2.2.2.2.2.2.2.2.2.2.2.2.2.2.2.2.2.2.2.2.2.2.2.2.2.1 o.2.2.2.2.2.2.2.2.2.2.2.2.2.2.2.2.2.2.2.2.2.2.2.2.2.2.2.2.2.2.2.2.1 o.2.2.2.2.2.2.2.2.2.2.2.2.2.2.2.2.2.2.2.2.2.2.2.2.2.2.2.2.2.2.2.2.2.1 o.2.2.2.2.2.2.2.2.2.2.2.2.2.2.2.2.2.2.2.2.2.2.2.2.2.2.2.2.2.2.2.2.2.2.1 ca cd rf
      rw [ho16, ho17, ho18, ho19]
      exact hR
end COOKS
