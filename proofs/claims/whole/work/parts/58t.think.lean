/-! THE CALLS that cook in thought -/
section THINK
variable {LS : List Nat} {SE : Nat → SV} {RA : Nat → BK} {nx ch n4 a : Nat} {b sb : BK} {past be s rf sv : Nat → Int32} {pastF beF f svF : Nat → UInt32} {kp rs de hc ca cd th p1 p2 p3 bd le ke isv : Int32} {ans : Nat → Int64} {bks : Nat → Option Nat}
theorem k_X2_begin (x y : Nat → Int32) (v w : Nat → UInt32) : Ok (g_X2_begin x y v w) (fun o => AG 6 o.1 y ∧ AG 6 o.2 w) := by
  unfold g_X2_begin
  exact ok_b (k_X1_copy x y v w) (fun r hr => ok_s hr)
theorem CX_ag {kd lo hi mn nm : Nat → Int32} {mu nu : Nat → UInt32} (h : CX kd lo hi mn mu) (e1 : AG 6 nm mn) (e2 : AG 6 nu mu) : CX kd lo hi nm nu := fun c hc => by
  rw [e1 c hc, e2 c hc]
  exact h c hc
theorem CKI_of {nc ns i : Nat} {X : Nat → TX} {nm : Nat → Int32} {nu : Nat → UInt32} (h : BRx LS SE nc ns X b s f) (hi : i < ns) (e1 : AG 6 nm b.2.2.2.2.1) (e2 : AG 6 nu b.2.2.2.2.2.1) : CKI nc i (X i) b.2.2.2.2.2.2.1 b.2.2.2.2.2.2.2.1 b.2.2.2.2.2.2.2.2.1 nm nu s f := by
  obtain ⟨g1, g2, g3, g4, g5, g6, g7, g8, g9, g10, g11⟩ := h
  refine ⟨CX_ag g9 e1 e2, fun c hc => ?_, g5, (g11.1 i hi).2.2.1⟩
  obtain ⟨q1, q2, q3, q4, -, q6⟩ := g10 c hc
  exact ⟨q1, q2, q3, q4.trans (e1 c hc).symm, q6.trans (e2 c hc).symm⟩
theorem k_thinks (asd : Nat → Int32) (asdF : Nat → UInt32) : g_X12_thinks s asd f asdF = some (va_cpy s asd 0 0 282, va_cpy f asdF 0 0 6) := rfl
theorem k_forgets (asd s' : Nat → Int32) (asdF f' : Nat → UInt32) : g_X12_forgets asd s' asdF f' = some (va_cpy asd s' 0 0 282, va_cpy asdF f' 0 0 6) := rfl
theorem op_would {asd : Nat → Int32} {asdF : Nat → UInt32} {c_cooking_boilsAt : Int32} {c_cooking_cause : Int32} {c_cooking_causeDetail : Int32} {c_cooking_spoons : Int32} {c_cooking_now_many : Nat → Int32} {c_cooking_now_much : Nat → UInt32} {c_cooking_before_many : Nat → Int32} {c_cooking_before_much : Nat → UInt32} {c_cooking_storesIn : Nat → Int32} {c_cooking_isBroth : Nat → Int32} {c_cooking_many : Nat → Int32} {c_cooking_much : Nat → UInt32} {m_tokens : Int32} {m_spoons : Int32} {m_mostSpoons : Int32} {m_cause : Int32} {m_causeDetail : Int32} {m_numbers : Nat → Int32} {m_signs : Nat → Int32} {m_isBrothOn : Nat → Int32} {m_dramsOn : Nat → Int64} {m_brothOn : Nat → UInt32} (hB : BR LS SE b s f) (hn : 0 < n4) (hn9 : n4 < 2147483648) :
    Ok (g_L_would LS SE n4 ans b.1 b.2.1 b.2.2.2.2.2.2.2.2.2.2.1 c_cooking_boilsAt c_cooking_cause c_cooking_causeDetail c_cooking_spoons c_cooking_now_many b.2.2.2.2.1 c_cooking_now_much b.2.2.2.2.2.1 c_cooking_before_many c_cooking_before_much c_cooking_storesIn b.2.2.2.2.2.2.1 c_cooking_isBroth c_cooking_many c_cooking_much b.2.2.2.2.2.2.2.1 b.2.2.2.2.2.2.2.2.1 p1 p2) (fun o => Ok (g_X12_would th m_tokens m_spoons m_mostSpoons m_cause m_causeDetail s asd f asdF m_numbers m_signs m_isBrothOn m_dramsOn m_brothOn p1 p2) (fun o' => AN ans o.1 o.2.1 o'.1 o'.2.1 ∧ BR LS SE (b.1, b.2.1, b.2.2.1, b.2.2.2.1, b.2.2.2.2.1, b.2.2.2.2.2.1, b.2.2.2.2.2.2.1, b.2.2.2.2.2.2.2.1, b.2.2.2.2.2.2.2.2.1, b.2.2.2.2.2.2.2.2.2.1, b.2.2.2.2.2.2.2.2.2.2.1, b.2.2.2.2.2.2.2.2.2.2.2) o'.2.2.2.2.2.2.2.1 o'.2.2.2.2.2.2.2.2.2.1)) := by
  have hgc : inb 0 n4 = true := decide_eq_true ⟨by decide, by show (0 : Int) < n4; omega⟩
  obtain ⟨nc, ns, X, hBx⟩ := id hB
  obtain ⟨h6, h4, e1, e2, h0, h1, h2, h3, hX, hS, hT⟩ := id hBx
  obtain ⟨htx, hbo⟩ := BR_tx hB
  unfold g_L_would g_X11_would
  have refo : (OUT p1 ns ∨ OUT p2 nc) → Ok (g_X12_would th m_tokens m_spoons m_mostSpoons m_cause m_causeDetail s asd f asdF m_numbers m_signs m_isBrothOn m_dramsOn m_brothOn p1 p2) (fun o' => AN ans 1 ans o'.1 o'.2.1 ∧ BR LS SE b o'.2.2.2.2.2.2.2.1 o'.2.2.2.2.2.2.2.2.2.1) := by
    intro hout
    unfold g_X12_would g_X12_would_b16
    rcases idx p1 ns (by omega) with ⟨i, hi, rfl⟩ | ho
    · have ho2 : OUT p2 nc := hout.resolve_left (fun z => out_to (by omega) z (by rw [nI_toInt (by omega)]; omega))
      exact ok_be (k_X12_isSpell_in h1 hi h4) (ok_f (by decide) (ok_be (k_X12_isCauldron_out h0 ho2 h6) (ok_t rfl (ok_be (show g_X12_fails th 1 = some (0, 1) from rfl) (ok_s ⟨AN_n rfl rfl, hB⟩)))))
    · exact ok_be (k_X12_isSpell_out h1 ho h4) (ok_t rfl (ok_be (show g_X12_fails th 1 = some (0, 1) from rfl) (ok_s ⟨AN_n rfl rfl, hB⟩)))
  rcases idx p1 ns (by omega) with ⟨i, hi, rfl⟩ | ho
  · obtain ⟨⟨a0, a1, a2⟩, a3, a4, a5⟩ := hT.1 i hi
    have nS : g_X11_needSpell LS SE b.2.1 b.2.2.2.2.2.2.2.2.2.2.1 (nI i) = some (nI 0, some a0) := by rw [e2]; exact k_needSpell_in hi h4 a1 a2
    rcases idx p2 nc (by omega) with ⟨c, hc', rfl⟩ | ho2
    · have hc6 : c < 6 := by omega
      have hin : inb (nI c) 6 = true := x_inb hc6 (by omega)
      have nC : g_X11_needCauldron b.1 (nI c) = some 0 := by rw [e1]; exact k_needCauldron_in hc' h6
      have bok := hbo c hc6
      refine bbe nS (bt rfl (bgs (bc a2.1 (bbe nC (bt rfl (ba (ok_b (k_X2_begin _ _ _ _) (fun r2 hr2 => ?_))))))))
      refine ba (ok_b (cook_step (show i < 4 by omega) a2 a3 h6 (CKI_of hBx hi hr2.1 hr2.2) c_cooking_boilsAt c_cooking_cause c_cooking_causeDetail c_cooking_spoons c_cooking_before_many c_cooking_isBroth c_cooking_many c_cooking_storesIn c_cooking_before_much c_cooking_much m_tokens m_spoons m_mostSpoons m_cause m_causeDetail m_numbers m_signs m_isBrothOn m_dramsOn m_brothOn) (fun r hr => ?_))
      obtain ⟨u, hu, hq⟩ := hr
      rcases hq with ⟨q1, q2, q, q3, q4, q5, q6, q7, q8, q9⟩ | ⟨q1, q2, q3, ⟨c1, c2, c3, c4⟩, q5, q6, q7, q8⟩
      · refine bt q1 (bs (ok_f (show ¬ (3 : Int32) = 0 by decide) (ok_f (show ¬ (3 : Int32) = 2 by decide) (ok_t rfl (ok_s ?_)))))
        unfold g_X12_would
        refine ok_be (k_X12_isSpell_in h1 hi h4) (ok_f (by decide) (ok_be (k_X12_isCauldron_in h0 hc' h6) (ok_f (by decide) (ok_be (k_thinks _ _) (ok_be hu (ok_t (by rw [q5]; exact nI_le (a := 0) (Nat.zero_le _) (by omega)) ?_))))))
        unfold g_X12_would_b40
        have hcont := k_X12_content (s := u.2.2.2.2.2.2.1) (f := u.2.2.2.2.2.2.2.2.2.2.2.1) (mn := fun d => u.2.2.2.2.2.2.1 (4 + 5 * d + 3)) (kd := b.2.2.2.2.2.2.1) (mu := u.2.2.2.2.2.2.2.2.2.2.2.1) hc6 bok (q9 c hc6).1 rfl rfl
        exact ok_be hcont (ok_be (k_forgets _ _ _ _) (ok_f (by decide) (ok_s ⟨AN_n rfl rfl, BR_back2 hB _ _⟩)))
      · refine bf (by rw [q1]; decide) (bc hin (bbe (k_X1_cut hc6) (bs (ok_t rfl (ok_c hgc (ok_s ?_))))))
        unfold g_X12_would
        refine ok_be (k_X12_isSpell_in h1 hi h4) (ok_f (by decide) (ok_be (k_X12_isCauldron_in h0 hc' h6) (ok_f (by decide) (ok_be (k_thinks _ _) (ok_be hu (ok_f (by rw [q2]; decide) ?_))))))
        unfold g_X12_would_b40
        obtain ⟨z1, -, -, z4, z5⟩ := c2 c hc6
        have hcont := k_X12_content (s := u.2.2.2.2.2.2.1) (f := u.2.2.2.2.2.2.2.2.2.2.2.1) (mn := r.2.2.2.2.2.2.1) (kd := b.2.2.2.2.2.2.1) (mu := r.2.2.2.2.2.2.2.2.1) hc6 bok z1 z4 z5
        refine ok_be hcont (ok_be (k_forgets _ _ _ _) (ok_t (by decide) (ok_s ⟨AN_y ?_ rfl, BR_back2 hB _ _⟩)))
        rw [x_cl (by omega)]
    · have nC : g_X11_needCauldron b.1 p2 = some 2 := by rw [e1]; exact k_needCauldron_out ho2
      exact bbe nS (bt rfl (bgs (bc a2.1 (bbe nC (bf (by decide) (bs (ok_f (show ¬ (2 : Int32) = 0 by decide) (ok_t rfl (ok_s (refo (Or.inr ho2)))))))))))
  · exact bbe (by rw [e2]; exact k_needSpell_out ho) (bf (by decide) (bs (ok_f (show ¬ (2 : Int32) = 0 by decide) (ok_t rfl (ok_s (refo (Or.inl ho)))))))
theorem op_wouldAgain {asd : Nat → Int32} {asdF : Nat → UInt32} {c_cookingByStores_isBroth : Nat → Int32} {c_cookingByStores_much : Nat → UInt32} {c_cookingByStores_many : Nat → Int32} {m_tokens : Int32} {m_spoons : Int32} {m_mostSpoons : Int32} {m_cause : Int32} {m_causeDetail : Int32} {m_numbers : Nat → Int32} {m_signs : Nat → Int32} {m_isBrothOn : Nat → Int32} {m_dramsOn : Nat → Int64} {m_brothOn : Nat → UInt32} (hB : BR LS SE b s f) (hn : 0 < n4) (hn9 : n4 < 2147483648) :
    Ok (g_L_wouldAgain LS SE n4 ans b.1 b.2.1 b.2.2.2.2.2.2.2.2.2.2.1 c_cookingByStores_isBroth c_cookingByStores_much c_cookingByStores_many b.2.2.2.2.2.2.1 b.2.2.2.2.1 b.2.2.2.2.2.1 b.2.2.2.2.2.2.2.1 b.2.2.2.2.2.2.2.2.1 p1 p2) (fun o => Ok (g_X12_wouldAgain th m_tokens m_spoons m_mostSpoons m_cause m_causeDetail s asd f asdF m_numbers m_signs m_isBrothOn m_dramsOn m_brothOn p1 p2) (fun o' => AN ans o.1 o.2.1 o'.1 o'.2.1 ∧ BR LS SE (b.1, b.2.1, b.2.2.1, b.2.2.2.1, b.2.2.2.2.1, b.2.2.2.2.2.1, b.2.2.2.2.2.2.1, b.2.2.2.2.2.2.2.1, b.2.2.2.2.2.2.2.2.1, b.2.2.2.2.2.2.2.2.2.1, b.2.2.2.2.2.2.2.2.2.2.1, b.2.2.2.2.2.2.2.2.2.2.2) o'.2.2.2.2.2.2.2.1 o'.2.2.2.2.2.2.2.2.2.1)) := by
  have hgc : inb 0 n4 = true := decide_eq_true ⟨by decide, by show (0 : Int) < n4; omega⟩
  obtain ⟨nc, ns, X, hBx⟩ := id hB
  obtain ⟨h6, h4, e1, e2, h0, h1, h2, h3, hX, hS, hT⟩ := id hBx
  obtain ⟨htx, hbo⟩ := BR_tx hB
  unfold g_L_wouldAgain g_X11_wouldAgain g_X12_wouldAgain
  have again : ∀ {code : Int32} {out : Nat → Int64} {y1 y2 : Int32}, Ok (g_X12_would th m_tokens m_spoons m_mostSpoons m_cause m_causeDetail s asd f asdF m_numbers m_signs m_isBrothOn m_dramsOn m_brothOn p1 p2) (fun o' => AN ans code out o'.1 o'.2.1 ∧ BR LS SE b o'.2.2.2.2.2.2.2.1 o'.2.2.2.2.2.2.2.2.2.1) → Ok (gb (g_X12_would th m_tokens m_spoons m_mostSpoons m_cause m_causeDetail s asd f asdF m_numbers m_signs m_isBrothOn m_dramsOn m_brothOn p1 p2) fun r1 => some (r1.1, r1.2.1, r1.2.2.1, r1.2.2.2.1, r1.2.2.2.2.1, r1.2.2.2.2.2.1, r1.2.2.2.2.2.2.1, r1.2.2.2.2.2.2.2.1, r1.2.2.2.2.2.2.2.2.1, r1.2.2.2.2.2.2.2.2.2.1, r1.2.2.2.2.2.2.2.2.2.2.1, r1.2.2.2.2.2.2.2.2.2.2.2.1, r1.2.2.2.2.2.2.2.2.2.2.2.2.1, r1.2.2.2.2.2.2.2.2.2.2.2.2.2.1, r1.2.2.2.2.2.2.2.2.2.2.2.2.2.2.1, r1.2.2.2.2.2.2.2.2.2.2.2.2.2.2.2)) (fun o' => AN ans code out o'.1 o'.2.1 ∧ BR LS SE b o'.2.2.2.2.2.2.2.1 o'.2.2.2.2.2.2.2.2.2.1) := by
    intro code out y1 y2 h
    exact ok_b h (fun r hr => ok_s hr)
  have refo : (OUT p1 ns ∨ OUT p2 nc) → Ok (g_X12_would th m_tokens m_spoons m_mostSpoons m_cause m_causeDetail s asd f asdF m_numbers m_signs m_isBrothOn m_dramsOn m_brothOn p1 p2) (fun o' => AN ans 1 ans o'.1 o'.2.1 ∧ BR LS SE b o'.2.2.2.2.2.2.2.1 o'.2.2.2.2.2.2.2.2.2.1) := by
    intro hout
    unfold g_X12_would g_X12_would_b16
    rcases idx p1 ns (by omega) with ⟨i, hi, rfl⟩ | ho
    · have ho2 : OUT p2 nc := hout.resolve_left (fun z => out_to (by omega) z (by rw [nI_toInt (by omega)]; omega))
      exact ok_be (k_X12_isSpell_in h1 hi h4) (ok_f (by decide) (ok_be (k_X12_isCauldron_out h0 ho2 h6) (ok_t rfl (ok_be (show g_X12_fails th 1 = some (0, 1) from rfl) (ok_s ⟨AN_n rfl rfl, hB⟩)))))
    · exact ok_be (k_X12_isSpell_out h1 ho h4) (ok_t rfl (ok_be (show g_X12_fails th 1 = some (0, 1) from rfl) (ok_s ⟨AN_n rfl rfl, hB⟩)))
  rcases idx p1 ns (by omega) with ⟨i, hi, rfl⟩ | ho
  · obtain ⟨⟨a0, a1, a2⟩, a3, a4, a5⟩ := hT.1 i hi
    have nS : g_X11_needSpell LS SE b.2.1 b.2.2.2.2.2.2.2.2.2.2.1 (nI i) = some (nI 0, some a0) := by rw [e2]; exact k_needSpell_in hi h4 a1 a2
    rcases idx p2 nc (by omega) with ⟨c, hc', rfl⟩ | ho2
    · have hc6 : c < 6 := by omega
      have nC : g_X11_needCauldron b.1 (nI c) = some 0 := by rw [e1]; exact k_needCauldron_in hc' h6
      have bok := hbo c hc6
      have hsh := OKT_SH a3
      obtain ⟨_, _, _, b4, _, _, _, b8⟩ := id a2
      obtain ⟨z, hz⟩ := FV_has (ckP b.2.2.2.2.2.2.1 b.2.2.2.2.2.2.2.1 b.2.2.2.2.2.2.2.2.1 (fun d => (b.2.2.2.2.2.2.1 d, b.2.2.2.2.1 d, b.2.2.2.2.2.1 d)) (rT (X i)).2.1 (rT (X i)).2.2.1) (rT (X i)).1
      have hCKI := CKI_of hBx hi (AG_r _) (AG_r _)
      have hSB := CS_SB hS
      have hCR : CNR b.2.2.2.2.2.2.1 (fun d => (b.2.2.2.2.2.2.1 d, b.2.2.2.2.1 d, b.2.2.2.2.2.1 d)) (fun d => s (4 + 5 * d + 3)) f := fun d hd => ⟨(hX d hd).1.can, rfl, (hS d hd).2.2.2.1, (hS d hd).2.2.2.2.2⟩
      obtain ⟨u, hu, ⟨⟨y, y1, y2, y3, y4⟩, ySB⟩⟩ := ok_and (k_X12_cooks (show i < 4 by omega) a3 a4 hbo hSB hCR m_tokens m_spoons m_mostSpoons m_cause m_causeDetail m_numbers m_signs m_isBrothOn m_dramsOn m_brothOn) (k_X12_cooksS (show i < 4 by omega) a3 a4 hbo hSB hCR m_tokens m_spoons m_mostSpoons m_cause m_causeDetail m_numbers m_signs m_isBrothOn m_dramsOn m_brothOn)
      have e := FV_one y1 hz
      subst e
      refine bbe nS (bt rfl (bgs (bc a2.1 (bbe nC (bt rfl ?_)))))
      rw [b4]
      refine ba (ok_b (k3 hsh b8 (OKT_w a3 h6) (OKT_n a3) (CX_BND hX) (CX_CNR hX) (CX_CNH hX) _ _ _ hz) (fun r3 hr3 => ?_))
      obtain ⟨r31, r32⟩ := hr3
      cases y with
      | some q =>
        rw [if_neg (by simp)] at r31
        refine bt r31 (bs (ok_f (show ¬ (3 : Int32) = 0 by decide) (ok_f (show ¬ (3 : Int32) = 2 by decide) (ok_t rfl (ok_s (again (y1 := 0) (y2 := 0) ?_))))))
        unfold g_X12_would
        refine ok_be (k_X12_isSpell_in h1 hi h4) (ok_f (by decide) (ok_be (k_X12_isCauldron_in h0 hc' h6) (ok_f (by decide) (ok_be (k_thinks _ _) (ok_be hu (ok_t (by rw [y2]; exact fcode_0 y1.1 hsh.1) ?_))))))
        unfold g_X12_would_b40
        have hcont := k_X12_content (s := u.2.2.2.2.2.2.1) (f := u.2.2.2.2.2.2.2.2.2.2.2.1) (mn := fun d => u.2.2.2.2.2.2.1 (4 + 5 * d + 3)) (kd := b.2.2.2.2.2.2.1) (mu := u.2.2.2.2.2.2.2.2.2.2.2.1) hc6 bok (ySB c hc6).1 rfl rfl
        exact ok_be hcont (ok_be (k_forgets _ _ _ _) (ok_f (by decide) (ok_s ⟨AN_n rfl rfl, BR_back2 hB _ _⟩)))
      | none =>
        rw [if_pos rfl] at r31
        obtain ⟨v, v1, v2⟩ := k3_leaves hsh b8 (OKT_w a3 h6) (CX_CNR hX) (r32 rfl) hc6
        obtain ⟨s1, f1, m1, m2, m3⟩ := y4 rfl
        obtain ⟨n1, n2, n3, n4', n5⟩ := m1
        obtain ⟨v', w1, w2, w3, w4, w5⟩ := n2 c hc6
        rw [v1] at w1
        cases w1
        refine bf (by rw [r31]; decide) (bbe v2 (bs (ok_t rfl (ok_c hgc (ok_s (again (y1 := 0) (y2 := 0) ?_))))))
        unfold g_X12_would
        refine ok_be (k_X12_isSpell_in h1 hi h4) (ok_f (by decide) (ok_be (k_X12_isCauldron_in h0 hc' h6) (ok_f (by decide) (ok_be (k_thinks _ _) (ok_be hu (ok_f (by rw [y2]; decide) ?_))))))
        unfold g_X12_would_b40
        have hcont := k_X12_content (s := u.2.2.2.2.2.2.1) (f := u.2.2.2.2.2.2.2.2.2.2.2.1) (mn := fun _ => v.2.1) (kd := b.2.2.2.2.2.2.1) (mu := fun _ => v.2.2) hc6 bok (ySB c hc6).1 (by rw [m2, x_un (by omega), x_un (by omega)]; exact w4) (by rw [m3]; exact w5)
        refine ok_be hcont (ok_be (k_forgets _ _ _ _) (ok_t (by decide) (ok_s ⟨AN_y ?_ rfl, BR_back2 hB _ _⟩)))
        unfold CUT
        rw [← w3]
    · have nC : g_X11_needCauldron b.1 p2 = some 2 := by rw [e1]; exact k_needCauldron_out ho2
      exact bbe nS (bt rfl (bgs (bc a2.1 (bbe nC (bf (by decide) (bs (ok_f (show ¬ (2 : Int32) = 0 by decide) (ok_t rfl (ok_s (again (y1 := 0) (y2 := 0) (refo (Or.inr ho2))))))))))))
  · exact bbe (by rw [e2]; exact k_needSpell_out ho) (bf (by decide) (bs (ok_f (show ¬ (2 : Int32) = 0 by decide) (ok_t rfl (ok_s (again (y1 := 0) (y2 := 0) (refo (Or.inl ho))))))))
theorem op_boils {asd : Nat → Int32} {asdF : Nat → UInt32} {c_cooking_boilsAt : Int32} {c_cooking_cause : Int32} {c_cooking_causeDetail : Int32} {c_cooking_spoons : Int32} {c_cooking_now_many : Nat → Int32} {c_cooking_now_much : Nat → UInt32} {c_cooking_before_many : Nat → Int32} {c_cooking_before_much : Nat → UInt32} {c_cooking_storesIn : Nat → Int32} {c_cooking_isBroth : Nat → Int32} {c_cooking_many : Nat → Int32} {c_cooking_much : Nat → UInt32} {m_tokens : Int32} {m_spoons : Int32} {m_mostSpoons : Int32} {m_cause : Int32} {m_causeDetail : Int32} {m_numbers : Nat → Int32} {m_signs : Nat → Int32} {m_isBrothOn : Nat → Int32} {m_dramsOn : Nat → Int64} {m_brothOn : Nat → UInt32} (hB : BR LS SE b s f) (hn : 0 < n4) (hn9 : n4 < 2147483648) :
    Ok (g_L_boils LS SE n4 ans b.2.1 b.2.2.2.2.2.2.2.2.2.2.1 c_cooking_boilsAt c_cooking_cause c_cooking_causeDetail c_cooking_spoons c_cooking_now_many b.2.2.2.2.1 c_cooking_now_much b.2.2.2.2.2.1 c_cooking_before_many c_cooking_before_much c_cooking_storesIn b.2.2.2.2.2.2.1 c_cooking_isBroth c_cooking_many c_cooking_much b.2.2.2.2.2.2.2.1 b.2.2.2.2.2.2.2.2.1 p1) (fun o => Ok (g_X12_boils th m_tokens m_spoons m_mostSpoons m_cause m_causeDetail s asd f asdF m_numbers m_signs m_isBrothOn m_dramsOn m_brothOn p1) (fun o' => AN ans o.1 o.2.1 o'.1 o'.2.1 ∧ BR LS SE (b.1, b.2.1, b.2.2.1, b.2.2.2.1, b.2.2.2.2.1, b.2.2.2.2.2.1, b.2.2.2.2.2.2.1, b.2.2.2.2.2.2.2.1, b.2.2.2.2.2.2.2.2.1, b.2.2.2.2.2.2.2.2.2.1, b.2.2.2.2.2.2.2.2.2.2.1, b.2.2.2.2.2.2.2.2.2.2.2) o'.2.2.2.2.2.2.2.1 o'.2.2.2.2.2.2.2.2.2.1)) := by
  have hgc : inb 0 n4 = true := decide_eq_true ⟨by decide, by show (0 : Int) < n4; omega⟩
  obtain ⟨nc, ns, X, hBx⟩ := id hB
  obtain ⟨h6, h4, e1, e2, h0, h1, h2, h3, hX, hS, hT⟩ := id hBx
  obtain ⟨htx, hbo⟩ := BR_tx hB
  unfold g_L_boils g_X11_boils g_X12_boils
  rcases idx p1 ns (by omega) with ⟨i, hi, rfl⟩ | ho
  · obtain ⟨⟨a0, a1, a2⟩, a3, a4, a5⟩ := hT.1 i hi
    have nS : g_X11_needSpell LS SE b.2.1 b.2.2.2.2.2.2.2.2.2.2.1 (nI i) = some (nI 0, some a0) := by rw [e2]; exact k_needSpell_in hi h4 a1 a2
    refine bbe nS (bt rfl (bgs (bc a2.1 (ba (ok_b (k_X2_begin _ _ _ _) (fun r2 hr2 => ?_))))))
    refine ba (ok_b (cook_step (show i < 4 by omega) a2 a3 h6 (CKI_of hBx hi hr2.1 hr2.2) c_cooking_boilsAt c_cooking_cause c_cooking_causeDetail c_cooking_spoons c_cooking_before_many c_cooking_isBroth c_cooking_many c_cooking_storesIn c_cooking_before_much c_cooking_much m_tokens m_spoons m_mostSpoons m_cause m_causeDetail m_numbers m_signs m_isBrothOn m_dramsOn m_brothOn) (fun r hr => ?_))
    obtain ⟨u, hu, hq⟩ := hr
    rcases hq with ⟨q1, q2, q, q3, q4, q5, q6, q7, q8, q9⟩ | ⟨q1, q2, q3, ⟨c1, c2, c3, c4⟩, q5, q6, q7, q8⟩
    · refine bt q1 (bs (ok_t rfl (ok_c hgc (ok_s ?_))))
      refine ok_be (k_X12_isSpell_in h1 hi h4) (ok_f (by decide) (ok_be (k_thinks _ _) (ok_be hu (ok_be (k_forgets _ _ _ _) (ok_t (by rw [q5]; exact nI_le (a := 0) (Nat.zero_le _) (by omega)) ?_)))))
      unfold g_X12_boils_b38
      exact ok_t (by decide) (ok_s ⟨AN_y (q5.trans q4.symm) rfl, BR_back2 hB _ _⟩)
    · refine bf (by rw [q1]; decide) (bs (ok_f (show ¬ (3 : Int32) = 0 by decide) (ok_f (show ¬ (3 : Int32) = 2 by decide) (ok_t rfl (ok_s ?_)))))
      refine ok_be (k_X12_isSpell_in h1 hi h4) (ok_f (by decide) (ok_be (k_thinks _ _) (ok_be hu (ok_be (k_forgets _ _ _ _) (ok_f (by rw [q2]; decide) ?_)))))
      unfold g_X12_boils_b38
      exact ok_f (by decide) (ok_s ⟨AN_n rfl rfl, BR_back2 hB _ _⟩)
  · refine bbe (by rw [e2]; exact k_needSpell_out ho) (bf (by decide) (bs (ok_f (show ¬ (2 : Int32) = 0 by decide) (ok_t rfl (ok_s ?_)))))
    exact ok_be (k_X12_isSpell_out h1 ho h4) (ok_t rfl (ok_be (show g_X12_fails th 1 = some (0, 1) from rfl) (ok_s ⟨AN_n rfl rfl, hB⟩)))
end THINK
