/-! THE CALLS lasts, isSafe -/
section LASTS
variable {LS : List Nat} {SE : Nat → SV} {RA : Nat → BK} {nx ch n4 a : Nat} {b sb : BK} {past be s rf sv : Nat → Int32} {pastF beF f svF : Nat → UInt32} {kp rs de hc ca cd th p1 p2 p3 bd le ke isv : Int32} {ans : Nat → Int64} {bks : Nat → Option Nat}
theorem CKI_ff {nc i : Nat} {x : TX} {kd lo hi nm : Nat → Int32} {nu : Nat → UInt32} (h : CKI nc i x kd lo hi nm nu s f) : ∀ c, c < 6 → FF (nu c) := fun c hc => (h.1 c hc).1.2.2.2.1
theorem l_lasts {nc i a0 : Nat} {x : TX} {kd lo hi : Nat → Int32} (hi4 : i < 4) (hx : SPC LS SE a0 x) (ho : OKT nc x) (hn : nc ≤ 6) (asd : Nat → Int32) (asdF : Nat → UInt32) (t : Int32) :
    ∀ (n r m : Nat) (nm bm iB mn9 st s nb sg iB' stp : Nat → Int32) (nu bu mu9 f br stpF : Nat → UInt32) (dr : Nat → Int64) (ba ca cd sp tk sp' ms ca' cd' : Int32), r ≤ 50 → 50 - r < n → 51 - r < m → CKI nc i x kd lo hi nm nu s f →
      Ok (g_X11_lasts_b19 SE kd lo hi n bm bu iB mn9 mu9 nm nu st ba ca cd sp a0 (nI r)) (fun o => o.1 = 0 ∧ Ok (g_X12_lasts_b34 (nI i) m asd asdF br dr f iB' nb s sg stp stpF t tk sp' ms ca' cd' (nI r) 1) (fun u => u.1 = o.2.1 ∧ u.2.1 = t ∧ ∃ s9 f9, u.2.2.2.2.2.2.2.1 = va_cpy asd s9 0 0 282 ∧ u.2.2.2.2.2.2.2.2.2.1 = va_cpy asdF f9 0 0 6))
  | 0, r, m, _, _, _, _, _, _, _, _, _, _, _, _, _, _, _, _, _, _, _, _, _, _, _, _, _, _, _, h, _, _ => absurd h (Nat.not_lt_zero _)
  | n + 1, r, 0, _, _, _, _, _, _, _, _, _, _, _, _, _, _, _, _, _, _, _, _, _, _, _, _, _, _, _, _, h, _ => absurd h (Nat.not_lt_zero _)
  | n + 1, r, m + 1, nm, bm, iB, mn9, st, s, nb, sg, iB', stp, nu, bu, mu9, f, br, stpF, dr, ba, ca, cd, sp, tk, sp', ms, ca', cd', hr, hm, hm2, hK => by
    unfold g_X11_lasts_b19 g_X12_lasts_b34
    have fin : ∀ {s2 f2 v br2 dr2 iB2 nb2 sg2 stp2 stpF2 tk2 sp2 ms2 ca2 cd2}, Ok (g_X12_lasts_b119 asd asdF br2 dr2 f2 iB2 nb2 s2 sg2 stp2 stpF2 t tk2 sp2 ms2 ca2 cd2 v) (fun u => u.1 = v ∧ u.2.1 = t ∧ ∃ s9 f9, u.2.2.2.2.2.2.2.1 = va_cpy asd s9 0 0 282 ∧ u.2.2.2.2.2.2.2.2.2.1 = va_cpy asdF f9 0 0 6) := by
      intro s2 f2 v br2 dr2 iB2 nb2 sg2 stp2 stpF2 tk2 sp2 ms2 ca2 cd2
      unfold g_X12_lasts_b119
      exact ok_be (k_forgets _ _ _ _) (ok_s ⟨rfl, rfl, s2, f2, rfl, rfl⟩)
    by_cases h50 : r = 50
    · subst h50
      refine ok_t (nI_le (a := 50) (b := 50) (Nat.le_refl _) (by omega)) (ok_s ⟨rfl, ?_⟩)
      exact ok_f (by decide) (ok_t (nI_le (a := 50) (b := 50) (Nat.le_refl _) (by omega)) fin)
    · have hnl : ¬ (50 : Int32) ≤ nI r := nI_ge (show r < 50 by omega) (show (50 : Nat) < 2147483648 by omega)
      refine ok_f hnl (ok_b (cook_step hi4 hx ho hn hK ba ca cd sp bm iB mn9 st bu mu9 tk sp' ms ca' cd' nb sg iB' dr br) (fun o ho' => ?_))
      obtain ⟨u, hu, hq⟩ := ho'
      have fin2 : ∀ {K : Nat → Option (Int32 × Int32 × Int32 × Int32 × Int32 × Int32 × Int32 × (Nat → Int32) × (Nat → Int32) × (Nat → UInt32) × (Nat → UInt32) × (Nat → Int32) × (Nat → UInt32) × (Nat → Int32) × (Nat → Int32) × (Nat → Int32) × (Nat → Int64) × (Nat → UInt32))} {s2 f2 br2 dr2 iB2 nb2 sg2 stp2 stpF2 tk2 sp2 ms2 ca2 cd2}, Ok (g_X12_lasts_b102 (nI i) (g_X12_lasts_b34 (nI i) m) asd asdF br2 dr2 f2 iB2 nb2 s2 sg2 stp2 stpF2 t tk2 sp2 ms2 ca2 cd2 (nI r)) (fun u => u.1 = nI r ∧ u.2.1 = t ∧ ∃ s9 f9, u.2.2.2.2.2.2.2.1 = va_cpy asd s9 0 0 282 ∧ u.2.2.2.2.2.2.2.2.2.1 = va_cpy asdF f9 0 0 6) := by
        intro K s2 f2 br2 dr2 iB2 nb2 sg2 stp2 stpF2 tk2 sp2 ms2 ca2 cd2
        unfold g_X12_lasts_b102 g_X12_lasts_b103 g_X12_lasts_b114
        refine ok_t rfl (ok_l ?_)
        obtain ⟨m', rfl⟩ : ∃ m', m = m' + 1 := ⟨m - 1, by omega⟩
        unfold g_X12_lasts_b34
        rw [show nI r + 0 = nI r from nI_add _ 0]
        exact ok_t rfl fin
      rcases hq with ⟨q1, q2, q, q3, q4, q5, q6, q7, q8, q9⟩ | ⟨q1, q2, q3, q4, q5, q6, q7, q8⟩
      · refine ok_t q1 (ok_s ⟨rfl, ?_⟩)
        refine ok_f (by decide) (ok_f hnl (ok_c rfl (ok_c rfl (ok_be hu (ok_t (by rw [q5]; exact nI_le (a := 0) (Nat.zero_le _) (by omega)) (fin2 (K := fun _ => none)))))))
      · have f1 := CKI_ff hK
        have f2 := CKI_ff q4
        have hch := k_changes (nm := o.2.2.2.2.2.2.1) (mn := nm) (nu := o.2.2.2.2.2.2.2.2.1) (mu := nu) (nm0 := o.2.2.2.2.2.2.1) (mn0 := o.2.2.2.2.2.1) (nu0 := o.2.2.2.2.2.2.2.2.1) (mu0 := o.2.2.2.2.2.2.2.1) (fun c hc => ⟨rfl, q6 c hc, rfl, q7 c hc, f2 c hc, f1 c hc⟩)
        have hun := k_unlike (nc := nc) (nm := o.2.2.2.2.2.2.1) (mn := nm) (nu := o.2.2.2.2.2.2.2.2.1) (mu := nu) (s := u.2.2.2.2.2.2.1) (s0 := va_cpy s stp 0 0 282) (f := u.2.2.2.2.2.2.2.2.2.2.2.1) (f0 := va_cpy f stpF 0 0 6) hn q4.2.2.1 (fun c hc => ⟨(q4.2.1 c hc).2.2.2.1, (cpy_in (by omega)).trans (hK.2.1 c hc).2.2.2.1, (q4.2.1 c hc).2.2.2.2, (cpy_in hc).trans (hK.2.1 c hc).2.2.2.2, f2 c hc, f1 c hc⟩)
        have hfar := DF_far (nc := nc) (nm := o.2.2.2.2.2.2.1) (mn := nm) (nu := o.2.2.2.2.2.2.2.2.1) (mu := nu) (6 - nc) (fun c hc1 hc2 => q8 c hc1 (by omega))
        rw [show nc + (6 - nc) = 6 by omega] at hfar
        rw [hfar] at hch
        have hdl := DF_le o.2.2.2.2.2.2.1 nm o.2.2.2.2.2.2.2.2.1 nu nc
        refine ok_f (by rw [q1]; decide) (ok_be hch ?_)
        by_cases hz : DFc o.2.2.2.2.2.2.1 nm o.2.2.2.2.2.2.2.2.1 nu nc = 0
        · rw [hz] at hun ⊢
          refine ok_t (by decide) (ok_s ⟨rfl, ?_⟩)
          refine ok_f (by decide) (ok_f hnl (ok_c rfl (ok_c rfl (ok_be hu (ok_f (by rw [q2]; decide) (ok_be hun (ok_t (by decide) (fin2 (K := fun _ => none)))))))))
        · have hnz : ¬ nI (DFc o.2.2.2.2.2.2.1 nm o.2.2.2.2.2.2.2.2.1 nu nc) ≤ 0 := nI_ge (b := DFc o.2.2.2.2.2.2.1 nm o.2.2.2.2.2.2.2.2.1 nu nc) (a := 0) (by omega) (by omega)
          refine ok_f hnz (ok_l ?_)
          rw [nI_1]
          refine ok_m (l_lasts hi4 hx ho hn asd asdF t n (r + 1) m o.2.2.2.2.2.2.1 o.2.2.2.2.2.1 o.2.2.2.2.2.2.2.2.2.2.1 o.2.2.2.2.2.2.2.2.2.2.2.1 o.2.2.2.2.2.2.2.2.2.1 u.2.2.2.2.2.2.1 u.2.2.2.2.2.2.2.1 u.2.2.2.2.2.2.2.2.1 u.2.2.2.2.2.2.2.2.2.1 (va_cpy s stp 0 0 282) o.2.2.2.2.2.2.2.2.1 o.2.2.2.2.2.2.2.1 o.2.2.2.2.2.2.2.2.2.2.2.2 u.2.2.2.2.2.2.2.2.2.2.2.1 u.2.2.2.2.2.2.2.2.2.2.2.2 (va_cpy f stpF 0 0 6) u.2.2.2.2.2.2.2.2.2.2.1 o.2.1 o.2.2.1 o.2.2.2.1 o.2.2.2.2.1 u.2.1 u.2.2.1 u.2.2.2.1 u.2.2.2.2.1 u.2.2.2.2.2.1 (by omega) (by omega) (by omega) q4) (fun v hv => ⟨hv.1, ?_⟩)
          refine ok_f (by decide) (ok_f hnl (ok_c rfl (ok_c rfl (ok_be hu (ok_f (by rw [q2]; decide) (ok_be hun (ok_f hnz ?_)))))))
          unfold g_X12_lasts_b103 g_X12_lasts_b114
          refine ok_f (by decide) (ok_l ?_)
          rw [nI_1]
          exact hv.2
theorem op_lasts {asd stp : Nat → Int32} {asdF stpF : Nat → UInt32} {c_cooking_boilsAt : Int32} {c_cooking_cause : Int32} {c_cooking_causeDetail : Int32} {c_cooking_spoons : Int32} {c_cooking_now_many : Nat → Int32} {c_cooking_now_much : Nat → UInt32} {c_cooking_before_many : Nat → Int32} {c_cooking_before_much : Nat → UInt32} {c_cooking_storesIn : Nat → Int32} {c_cooking_isBroth : Nat → Int32} {c_cooking_many : Nat → Int32} {c_cooking_much : Nat → UInt32} {m_tokens : Int32} {m_spoons : Int32} {m_mostSpoons : Int32} {m_cause : Int32} {m_causeDetail : Int32} {m_numbers : Nat → Int32} {m_signs : Nat → Int32} {m_isBrothOn : Nat → Int32} {m_dramsOn : Nat → Int64} {m_brothOn : Nat → UInt32} (hB : BR LS SE b s f) (hn : 0 < n4) (hn9 : n4 < 2147483648) :
    Ok (g_L_lasts LS SE n4 ans b.2.1 b.2.2.2.2.2.2.2.2.2.2.1 c_cooking_boilsAt c_cooking_cause c_cooking_causeDetail c_cooking_spoons c_cooking_now_many b.2.2.2.2.1 c_cooking_now_much b.2.2.2.2.2.1 c_cooking_before_many c_cooking_before_much c_cooking_storesIn b.2.2.2.2.2.2.1 c_cooking_isBroth c_cooking_many c_cooking_much b.2.2.2.2.2.2.2.1 b.2.2.2.2.2.2.2.2.1 p1) (fun o => Ok (g_X12_lasts th m_tokens m_spoons m_mostSpoons m_cause m_causeDetail s asd f asdF stp stpF m_numbers m_signs m_isBrothOn m_dramsOn m_brothOn p1) (fun o' => AN ans o.1 o.2.1 o'.1 o'.2.1 ∧ BR LS SE (b.1, b.2.1, b.2.2.1, b.2.2.2.1, b.2.2.2.2.1, b.2.2.2.2.2.1, b.2.2.2.2.2.2.1, b.2.2.2.2.2.2.2.1, b.2.2.2.2.2.2.2.2.1, b.2.2.2.2.2.2.2.2.2.1, b.2.2.2.2.2.2.2.2.2.2.1, b.2.2.2.2.2.2.2.2.2.2.2) o'.2.2.2.2.2.2.2.1 o'.2.2.2.2.2.2.2.2.2.1)) := by
  have hgc : inb 0 n4 = true := decide_eq_true ⟨by decide, by show (0 : Int) < n4; omega⟩
  obtain ⟨nc, ns, X, hBx⟩ := id hB
  obtain ⟨h6, h4, e1, e2, h0, h1, h2, h3, hX, hS, hT⟩ := id hBx
  obtain ⟨htx, hbo⟩ := BR_tx hB
  unfold g_L_lasts g_X11_lasts g_X12_lasts
  rcases idx p1 ns (by omega) with ⟨i, hi, rfl⟩ | ho
  · obtain ⟨⟨a0, a1, a2⟩, a3, a4, a5⟩ := hT.1 i hi
    have nS : g_X11_needSpell LS SE b.2.1 b.2.2.2.2.2.2.2.2.2.2.1 (nI i) = some (nI 0, some a0) := by rw [e2]; exact k_needSpell_in hi h4 a1 a2
    refine bbe nS (bt rfl (bgs (bc a2.1 (ba (ok_b (k_X2_begin _ _ _ _) (fun r2 hr2 => ?_))))))
    refine ok_b (l_lasts (show i < 4 by omega) a2 a3 h6 (va_cpy s asd 0 0 282) (va_cpy f asdF 0 0 6) 0 100 0 100 _ _ _ _ _ s m_numbers m_signs m_isBrothOn stp _ _ _ f m_brothOn stpF m_dramsOn _ _ _ _ m_tokens m_spoons m_mostSpoons m_cause m_causeDetail (by omega) (by omega) (by omega) (CKI_of hBx hi hr2.1 hr2.2)) (fun r hr => ?_)
    obtain ⟨r1, r2'⟩ := hr
    refine ok_t r1 (ok_c hgc (ok_s ?_))
    refine ok_be (k_X12_isSpell_in h1 hi h4) (ok_f (by decide) ?_)
    unfold g_X12_lasts_b14
    refine ok_t (by decide) (ok_be (k_thinks _ _) (ok_m r2' (fun u hu => ?_)))
    obtain ⟨u1, u2, s9, f9, u3, u4⟩ := hu
    refine ⟨?_, ?_⟩
    · rw [u1, u2]
      exact AN_y rfl rfl
    · rw [u3, u4]
      exact BR_back2 hB _ _
  · refine bbe (by rw [e2]; exact k_needSpell_out ho) (bf (by decide) (bs (ok_f (show ¬ (2 : Int32) = 0 by decide) (ok_t rfl (ok_s ?_)))))
    refine ok_be (k_X12_isSpell_out h1 ho h4) (ok_t rfl ?_)
    unfold g_X12_lasts_b14
    exact ok_f (by decide) (ok_s ⟨AN_n rfl rfl, hB⟩)
theorem typed_safe {nc : Nat} {x : TX} {kd lo hi mn : Nat → Int32} {mu : Nat → UInt32} (ho : OKT nc x) (hn : nc ≤ 6) (hX : CX kd lo hi mn mu) (hty : FV (tyP kd lo hi (rT x).2.1 (rT x).2.2.1) (rT x).1 none) : FV (ckP kd lo hi (fun c => (kd c, mn c, mu c)) (rT x).2.1 (rT x).2.2.1) (rT x).1 none := by
  intro q hq
  obtain ⟨_, v, -, hv, -⟩ := safe (OKT_SH ho) (OKT_w ho hn) (OKT_n ho) (CX_BND hX) (CX_CNH hX) hty (rT x).1 (Nat.le_refl _) q hq
  rw [hv]
  exact fun z => by cases z
theorem k2x {nc a0 : Nat} {x : TX} {kd lo hi nm : Nat → Int32} {nu : Nat → UInt32} (hx : SPC LS SE a0 x) (ho : OKT nc x) (hn : nc ≤ 6) (hC : CX kd lo hi nm nu) (ba ca cd sp : Int32) (xm iB mn9 st : Nat → Int32) (xu mu9 : Nat → UInt32) :
    Ok (g_X2_goesOn ba ca cd sp (SE a0).2.2.1 xm nm xu nu st (SE a0).2.2.2.2.2.2.1 (SE a0).2.2.2.2.2.2.2.1 kd iB mn9 mu9 lo hi) (R2 kd lo hi (fun c => (kd c, nm c, nu c)) (rT x).1 (rT x).2.1 (rT x).2.2.1 nm nu) := by
  obtain ⟨_, _, _, b4, _, _, _, b8⟩ := id hx
  rw [b4]
  exact k2 (OKT_SH ho) (OKT_w ho hn) (CX_bo hC) (fun p hp => ⟨(b8 p hp).1, (b8 p hp).2.1⟩) (CX_CNR hC) ba ca cd sp xm iB mn9 st xu mu9
theorem l_isSafe {nc ns : Nat} {X : Nat → TX} (hBx : BRx LS SE nc ns X b s f) :
    ∀ (n i : Nat) (before_many' : Nat → Int32) (before_much' : Nat → UInt32) (isBroth' : Nat → Int32) (many' : Nat → Int32) (much' : Nat → UInt32) (now_many' : Nat → Int32) (now_much' : Nat → UInt32) (storesIn' : Nat → Int32) (th' : Nat → Int64) (tb' : Nat → Int32) (tl' : Nat → Int64) (tsh' : Nat → Int64) (tsb' : Nat → Int32) (tsl' : Nat → Int64) (boA boC boD spn faA stA spA : Int32), i ≤ ns → ns - i < n → Ok (g_X11_isSafe_b2 LS SE (nI ns) b.2.2.2.2.2.2.2.2.2.2.1 b.2.2.2.2.2.2.1 b.2.2.2.2.2.2.2.1 b.2.2.2.2.2.2.2.2.1 b.2.2.2.2.1 b.2.2.2.2.2.1 n before_many' before_much' isBroth' many' much' now_many' now_much' storesIn' th' tb' tl' tsh' tsb' tsl' boA boC boD spn faA stA spA (nI i)) (fun o => o.1 = 1)
  | 0, i, _, _, _, _, _, _, _, _, _, _, _, _, _, _, _, _, _, _, _, _, _, _, h => absurd h (Nat.not_lt_zero _)
  | n + 1, i, before_many', before_much', isBroth', many', much', now_many', now_much', storesIn', th', tb', tl', tsh', tsb', tsl', boA, boC, boD, spn, faA, stA, spA, hle, hm => by
    obtain ⟨h6, h4, e1, e2, h0, h1, h2, h3, hX, hS, hT⟩ := id hBx
    have hbo := CX_bo hX
    unfold g_X11_isSafe_b2 g_X11_isSafe_b69
    by_cases c : i = ns
    · subst c
      exact ok_t (nI_le (Nat.le_refl _) (by omega)) (ok_s rfl)
    · have hi' : i < ns := by omega
      obtain ⟨⟨a0, a1, a2⟩, a3, a4, a5⟩ := hT.1 i hi'
      refine ok_f (nI_ge hi' (by omega)) (ok_be (k_spellAt hi' h4 a1) (ok_gs (ok_c a2.1 (ok_b (k9x a2 a3 h6 hbo _ _ _ _ _ _ _ _ _) (fun r3 hr3 => ?_)))))
      obtain ⟨z, z1, z2, z3⟩ := hr3
      by_cases hz : z = none
      · rw [if_pos hz] at z2
        rw [hz] at z1
        refine ok_f (by rw [z2]; decide) (ok_b (k_X2_begin _ _ _ _) (fun r4 hr4 => ?_))
        have hC4 := CX_ag hX hr4.1 hr4.2
        refine ok_b (k2x a2 a3 h6 hC4 _ _ _ _ _ _ _ _ _ _) (fun r5 hr5 => ?_)
        obtain ⟨y, y1, y2, -⟩ := hr5
        have e := FV_one y1 (typed_safe a3 h6 hC4 z1)
        rw [e, if_pos rfl] at y2
        refine ok_f (by rw [y2]; decide) (ok_l ?_)
        rw [nI_1]
        exact l_isSafe hBx n (i + 1) _ _ _ _ _ _ _ _ _ _ _ _ _ _ _ _ _ _ _ _ _ (by omega) (by omega)
      · rw [if_neg hz] at z2
        refine ok_t z2 (ok_l ?_)
        rw [nI_1]
        exact l_isSafe hBx n (i + 1) _ _ _ _ _ _ _ _ _ _ _ _ _ _ _ _ _ _ _ _ _ (by omega) (by omega)
theorem op_isSafe {c_typing_faultAt : Int32} {c_typing_stores : Int32} {c_typing_spoons : Int32} {c_typing_isBroth : Nat → Int32} {c_typing_low : Nat → Int64} {c_typing_high : Nat → Int64} {c_typing_storeIsBroth : Nat → Int32} {c_typing_storeLow : Nat → Int64} {c_typing_storeHigh : Nat → Int64} {c_cooking_boilsAt : Int32} {c_cooking_cause : Int32} {c_cooking_causeDetail : Int32} {c_cooking_spoons : Int32} {c_cooking_now_many : Nat → Int32} {c_cooking_now_much : Nat → UInt32} {c_cooking_before_many : Nat → Int32} {c_cooking_before_much : Nat → UInt32} {c_cooking_storesIn : Nat → Int32} {c_cooking_isBroth : Nat → Int32} {c_cooking_many : Nat → Int32} {c_cooking_much : Nat → UInt32} (hB : BR LS SE b s f) :
    Ok (g_X11_isSafe LS SE b.2.1 b.2.2.2.2.2.2.2.2.2.2.1 c_typing_faultAt c_typing_stores c_typing_spoons b.2.2.2.2.2.2.1 b.2.2.2.2.2.2.2.1 b.2.2.2.2.2.2.2.2.1 c_typing_isBroth c_typing_low c_typing_high c_typing_storeIsBroth c_typing_storeLow c_typing_storeHigh c_cooking_boilsAt c_cooking_cause c_cooking_causeDetail c_cooking_spoons c_cooking_now_many b.2.2.2.2.1 c_cooking_now_much b.2.2.2.2.2.1 c_cooking_before_many c_cooking_before_much c_cooking_storesIn c_cooking_isBroth c_cooking_many c_cooking_much) (fun o => Ok (g_X12_isSafe th) (fun o' => o.1 = o'.1)) := by
  obtain ⟨nc, ns, X, hBx⟩ := id hB
  have e2 : b.2.1 = nI ns := hBx.2.2.2.1
  unfold g_X11_isSafe g_X12_isSafe
  rw [e2]
  exact ok_m (l_isSafe hBx 100 0 _ _ _ _ _ _ _ _ _ _ _ _ _ _ _ _ _ _ _ _ _ (Nat.zero_le _) (by have := hBx.2.1; omega)) (fun r hr => ok_s hr)
end LASTS
