/-! ERASE and COOK, told by the book (gen/chg2.py) -/
section
variable {LS : List Nat} {SE : Nat → SV} {RA : Nat → BK} {nx ch n4 a : Nat} {b sb : BK} {past be s rf sv : Nat → Int32} {pastF beF f svF : Nat → UInt32} {kp rs de hc ca cd th p1 p2 p3 bd le ke isv : Int32} {ans : Nat → Int64} {bks : Nat → Option Nat}
variable {α : Type} {tx0 : Nat → Option Nat} {cc0 : Nat → Int32}
theorem shift_s {α : Type} {g g0 : Nat → α} {i p : Nat} (hp : p < 3) (h : ∀ j, j < 4 → g j = if i ≤ j ∧ j < p then g0 (j + 1) else g0 j) (hi : i ≤ p) {g' : Nat → α} (e1 : g' p = g (p + 1)) (e2 : ∀ j, j ≠ p → g' j = g j) : ∀ j, j < 4 → g' j = if i ≤ j ∧ j < p + 1 then g0 (j + 1) else g0 j := by
  intro j hj
  by_cases e : j = p
  · rw [e, e1, h _ (by omega), if_neg (by omega), if_pos (by omega)]
  · rw [e2 j e, h j hj]
    by_cases c : i ≤ j ∧ j < p
    · rw [if_pos c, if_pos (by omega)]
    · rw [if_neg c, if_neg (by omega)]
theorem l_strike {ns i : Nat} (hn : 0 < ns) (hn4 : ns ≤ 4) (ht : ∀ j, j < 4 → oin9 LS (tx0 j) = true) : ∀ (n p : Nat) (cc : Nat → Int32) (tx : Nat → Option Nat), i ≤ p → p ≤ 3 → 3 - p < n → (∀ j, j < 4 → tx j = if i ≤ j ∧ j < p then tx0 (j + 1) else tx0 j) → (∀ j, j < 4 → cc j = if i ≤ j ∧ j < p then cc0 (j + 1) else cc0 j) → Ok (g_X0_strikeOut_b6 LS (nI ns) n cc tx (nI p)) (fun o => o.1 = nI (ns - 1) ∧ (∀ j, j < 4 → o.2.1 j = if i ≤ j ∧ j < 3 then tx0 (j + 1) else tx0 j) ∧ (∀ j, j < 4 → o.2.2 j = if i ≤ j ∧ j < 3 then cc0 (j + 1) else cc0 j))
  | 0, p, _, _, _, _, h, _, _ => absurd h (Nat.not_lt_zero _)
  | n + 1, p, cc, tx, hip, hp, hm, h1, h2 => by
    unfold g_X0_strikeOut_b6
    by_cases e : p = 3
    · subst e
      exact ok_t (nI_le (a := 3) (b := 3) (Nat.le_refl _) (by omega)) (ok_l (ok_s ⟨x_sub (b := 1) hn, h1, h2⟩))
    · have ho : oin9 LS (tx (p + 1)) = true := by
        rw [h1 (p + 1) (by omega)]
        split
        · exact ht _ (by omega)
        · exact ht _ (by omega)
      rw [nI_1]
      refine ok_f (show ¬ (3 : Int32) ≤ nI p from nI_ge (show p < 3 by omega) (show (3 : Nat) < 2147483648 by omega)) (ok_c (x_inb (by omega) (by omega)) (ok_c (x_inb (by omega) (by omega)) (ok_c (by rw [x_cl (by omega)]; exact ho) (ok_c (x_inb (by omega) (by omega)) (ok_c (x_inb (by omega) (by omega)) (ok_l ?_))))))
      rw [x_cl (by omega), x_cl (by omega)]
      exact l_strike hn hn4 ht n (p + 1) _ _ (by omega) (by omega) (by omega) (shift_s (by omega) h1 hip x_as (fun j hj => x_an hj)) (shift_s (by omega) h2 hip x_us (fun j hj => x_un hj))
end
section
variable {LS : List Nat} {SE : Nat → SV} {RA : Nat → BK} {nx ch n4 a : Nat} {b sb : BK} {past be s rf sv : Nat → Int32} {pastF beF f svF : Nat → UInt32} {kp rs de hc ca cd th p1 p2 p3 bd le ke isv : Int32} {ans : Nat → Int64} {bks : Nat → Option Nat}
def SV6 (v : Nat → Nat) : Nat → Nat
  | 0 => 0
  | c + 1 => SV6 v c + v c
theorem l_settle {i : Nat} {csf ssf0 : Int32} {cc st si0 mn : Nat → Int32} {mu : Nat → UInt32} {v : Nat → Nat} (hi : i < 4) (hv : ∀ c, c < 6 → st c = nI (v c)) : ∀ (n c : Nat) (si : Nat → Int32), c ≤ 6 → 6 - c < n → (∀ j, j < 6 → si j = if j < c then si0 j + st j else si0 j) → Ok (g_X0_settle_b13 csf cc st (nI i) n mn mu si (ssf0 + nI (SV6 v c)) (nI c)) (fun o => o.1 = csf + 1 ∧ o.2.1 = ssf0 + nI (SV6 v 6) ∧ o.2.2.1 = mn ∧ o.2.2.2.1 = mu ∧ o.2.2.2.2.1 = upd cc i (cc i + 1) ∧ ∀ j, j < 6 → o.2.2.2.2.2 j = si0 j + st j)
  | 0, c, _, _, h, _ => absurd h (Nat.not_lt_zero _)
  | n + 1, c, si, hc, hm, hs => by
    unfold g_X0_settle_b13
    have hi4 : inb (nI i) 4 = true := x_inb hi (by omega)
    by_cases e : c = 6
    · subst e
      refine ok_t (nI_le (a := 6) (b := 6) (Nat.le_refl _) (by omega)) (ok_c hi4 (ok_c hi4 (ok_l (ok_s ⟨rfl, rfl, rfl, rfl, ?_, fun j hj => ?_⟩))))
      · rw [x_cl (by omega)]
      · show si j = si0 j + st j
        rw [hs j hj, if_pos hj]
    · have hc6 : c < 6 := by omega
      have hin : inb (nI c) 6 = true := x_inb hc6 (by omega)
      refine ok_f (show ¬ (6 : Int32) ≤ nI c from nI_ge (show c < 6 by omega) (show (6 : Nat) < 2147483648 by omega)) (ok_c hin (ok_c hin (ok_c hin (ok_c hin (ok_l (ok_l ?_))))))
      rw [x_cl (by omega), nI_1]
      have e1 : ssf0 + nI (SV6 v c) + st c = ssf0 + nI (SV6 v (c + 1)) := by
        rw [hv c hc6, Int32.add_assoc, nI_add]; rfl
      rw [e1]
      refine l_settle hi hv n (c + 1) _ (by omega) (by omega) (fun j hj => ?_)
      by_cases g : j = c
      · rw [g, x_us, hs c hc6, if_neg (by omega), if_pos (by omega)]
      · rw [x_un g, hs j hj]
        by_cases g2 : j < c
        · rw [if_pos g2, if_pos (by omega)]
        · rw [if_neg g2, if_neg (by omega)]
theorem k_settle {i : Nat} {csf ssf : Int32} {cc st si mn nm : Nat → Int32} {mu nu : Nat → UInt32} {v : Nat → Nat} (hi : i < 4) (hv : ∀ c, c < 6 → st c = nI (v c)) : Ok (g_X0_settle csf ssf mn nm mu nu cc si st (nI i)) (fun o => o.1 = csf + 1 ∧ o.2.1 = ssf + nI (SV6 v 6) ∧ AG 6 o.2.2.1 nm ∧ AG 6 o.2.2.2.1 nu ∧ o.2.2.2.2.1 = upd cc i (cc i + 1) ∧ ∀ j, j < 6 → o.2.2.2.2.2 j = si j + st j) := by
  unfold g_X0_settle
  refine ok_b (k_X1_copy mn nm mu nu) (fun r hr => ?_)
  have h := l_settle (csf := csf) (ssf0 := ssf) (cc := cc) (mn := r.1) (mu := r.2) (si0 := si) hi hv 100 0 si (Nat.zero_le _) (by omega) (fun j _ => (if_neg (Nat.not_lt_zero j)).symm)
  rw [show ssf + nI (SV6 v 0) = ssf from Int32.add_zero _] at h
  refine ok_m h (fun o ho => ?_)
  obtain ⟨o1, o2, o3, o4, o5, o6⟩ := ho
  exact ⟨o1, o2, by rw [o3]; exact hr.1, by rw [o4]; exact hr.2, o5, o6⟩
end
/-- a spell is struck out -/
def ERS (b : BK) (i ns : Nat) (b' : BK) : Prop := b'.1 = b.1 ∧ b'.2.1 = nI (ns - 1) ∧ b'.2.2.2.2.2.2.1 = b.2.2.2.2.2.2.1 ∧ b'.2.2.2.2.2.2.2.1 = b.2.2.2.2.2.2.2.1 ∧ b'.2.2.2.2.2.2.2.2.1 = b.2.2.2.2.2.2.2.2.1 ∧ b'.2.2.2.2.1 = b.2.2.2.2.1 ∧ b'.2.2.2.2.2.1 = b.2.2.2.2.2.1 ∧ ∀ j, j < 4 → b'.2.2.2.2.2.2.2.2.2.2.1 j = if i ≤ j ∧ j < 3 then b.2.2.2.2.2.2.2.2.2.2.1 (j + 1) else b.2.2.2.2.2.2.2.2.2.2.1 j
def xEr (X : Nat → TX) (i j : Nat) : TX := if i ≤ j then X (j + 1) else X j
theorem BOK_ers {LS : List Nat} {SE : Nat → SV} {B : BB} {b' : BK} {i : Nat} (h : BOK LS SE B) (hi : i < B.2.2.1) (e : ERS B.1 i B.2.2.1 b') : BOK LS SE (b', B.2.1, B.2.2.1 - 1, xEr B.2.2.2 i) := by
  obtain ⟨h6, h4, g1, g2, hX, hT⟩ := h
  obtain ⟨e1, e2, e3, e4, e5, e6, e7, e8⟩ := e
  refine ⟨h6, by show B.2.2.1 - 1 ≤ 4; omega, e1.trans g1, e2, ?_, fun j hj => ?_, fun j hj => ?_⟩
  · show CX b'.2.2.2.2.2.2.1 b'.2.2.2.2.2.2.2.1 b'.2.2.2.2.2.2.2.2.1 b'.2.2.2.2.1 b'.2.2.2.2.2.1
    rw [e3, e4, e5, e6, e7]
    exact hX
  · have hj' : j < B.2.2.1 - 1 := hj
    show (∃ a, b'.2.2.2.2.2.2.2.2.2.2.1 j = some a ∧ SPC LS SE a (xEr B.2.2.2 i j)) ∧ OKT B.2.1 (xEr B.2.2.2 i j) ∧ True ∧ True
    rw [e8 j (by omega)]
    unfold xEr
    by_cases z : i ≤ j
    · rw [if_pos ⟨z, by omega⟩, if_pos z]
      exact hT.1 (j + 1) (by omega)
    · rw [if_neg (fun y => z y.1), if_neg z]
      exact hT.1 j (by omega)
  · show oin9 LS (b'.2.2.2.2.2.2.2.2.2.2.1 j) = true
    rw [e8 j hj]
    split
    · exact hT.2 _ (by omega)
    · exact hT.2 _ hj
/-- a spell is cooked: what is in the cauldrons, how often it was cooked -/
def COOKED (B : BB) (i : Nat) (r : Int32) (b' : BK) : Prop := ∃ nm nu, NWR B.1.2.2.2.2.2.2.1 B.1.2.2.2.2.2.2.2.1 B.1.2.2.2.2.2.2.2.2.1 (CNo B) (rT (B.2.2.2 i)).2.1 (rT (B.2.2.2 i)).2.2.1 (rT (B.2.2.2 i)).1 nm nu ∧ r = nI (DFc nm B.1.2.2.2.2.1 nu B.1.2.2.2.2.2.1 6) ∧ AG 6 b'.2.2.2.2.1 nm ∧ AG 6 b'.2.2.2.2.2.1 nu ∧ b'.1 = B.1.1 ∧ b'.2.1 = B.1.2.1 ∧ b'.2.2.2.2.2.2.1 = B.1.2.2.2.2.2.2.1 ∧ b'.2.2.2.2.2.2.2.1 = B.1.2.2.2.2.2.2.2.1 ∧ b'.2.2.2.2.2.2.2.2.1 = B.1.2.2.2.2.2.2.2.2.1 ∧ b'.2.2.2.2.2.2.2.2.2.2.1 = B.1.2.2.2.2.2.2.2.2.2.2.1 ∧ b'.2.2.2.2.2.2.2.2.2.2.2 = upd B.1.2.2.2.2.2.2.2.2.2.2.2 i (B.1.2.2.2.2.2.2.2.2.2.2.2 i + 1)
theorem BOK_cooked {LS : List Nat} {SE : Nat → SV} {B : BB} {b' : BK} {i : Nat} {r : Int32} (h : BOK LS SE B) (hi : i < B.2.2.1) (hc : COOKED B i r b') : BOK LS SE (b', B.2) := by
  obtain ⟨nm, nu, c1, c2, c3, c4, c5, c6, c7, c8, c9, c10, c11⟩ := hc
  have a3 := (h.2.2.2.2.2.1 i hi).2.1
  have hX := NWR_CX (OKT_w a3 h.1) h.2.2.2.2.1 (by rfl) c1
  refine BOK_gen h c5 c6 c10 ?_
  rw [c7, c8, c9]
  exact CX_ag5 hX (AG_r _) (AG_r _) (AG_r _) c3 c4
theorem kp_L_erase {LS : List Nat} {SE : Nat → SV} {B : BB} {nx ch : Nat} {bks : Nat → Option Nat} {q : BK} {a : Nat}  {p1 : Int32} (hB : BOK LS SE B) (hn : nx < 6) (hc : ch ≤ 6) (hq : bks nx = some a) : Ok (g_L_erase LS SE B.1.1 B.1.2.1 B.1.2.2.1 B.1.2.2.2.1 B.1.2.2.2.2.2.2.2.2.2.2.1 (nI nx) (nI ch) bks q.1 q.2.1 q.2.2.1 q.2.2.2.1 q.2.2.2.2.1 B.1.2.2.2.2.1 q.2.2.2.2.2.1 B.1.2.2.2.2.2.1 q.2.2.2.2.2.2.1 B.1.2.2.2.2.2.2.1 q.2.2.2.2.2.2.2.1 B.1.2.2.2.2.2.2.2.1 q.2.2.2.2.2.2.2.2.1 B.1.2.2.2.2.2.2.2.2.1 q.2.2.2.2.2.2.2.2.2.1 B.1.2.2.2.2.2.2.2.2.2.1 q.2.2.2.2.2.2.2.2.2.2.1 q.2.2.2.2.2.2.2.2.2.2.2 B.1.2.2.2.2.2.2.2.2.2.2.2 p1 a) (fun o => (OUT p1 B.2.2.1 ∧ o.1 = -1 ∧ KEEP9 nx ch q B.1 o.2.2.2.1 o.2.2.2.2.1 (o.2.2.2.2.2.1, o.2.2.2.2.2.2.1, o.2.2.2.2.2.2.2.1, o.2.2.2.2.2.2.2.2.1, o.2.2.2.2.2.2.2.2.2.1, o.2.2.2.2.2.2.2.2.2.2.1, o.2.2.2.2.2.2.2.2.2.2.2.1, o.2.2.2.2.2.2.2.2.2.2.2.2.1, o.2.2.2.2.2.2.2.2.2.2.2.2.2.1, o.2.2.2.2.2.2.2.2.2.2.2.2.2.2.1, o.2.2.2.2.2.2.2.2.2.2.2.2.2.2.2.1, o.2.2.2.2.2.2.2.2.2.2.2.2.2.2.2.2.1) (B.1.1, o.2.1, B.1.2.2.1, B.1.2.2.2.1, B.1.2.2.2.2.1, B.1.2.2.2.2.2.1, B.1.2.2.2.2.2.2.1, B.1.2.2.2.2.2.2.2.1, B.1.2.2.2.2.2.2.2.2.1, B.1.2.2.2.2.2.2.2.2.2.1, o.2.2.1, o.2.2.2.2.2.2.2.2.2.2.2.2.2.2.2.2.2)) ∨ (∃ i, i < B.2.2.1 ∧ p1 = nI i ∧ o.1 = nI (B.2.2.1 - 1) ∧ PUSH9 nx ch B.1 o.2.2.2.1 o.2.2.2.2.1 (o.2.2.2.2.2.1, o.2.2.2.2.2.2.1, o.2.2.2.2.2.2.2.1, o.2.2.2.2.2.2.2.2.1, o.2.2.2.2.2.2.2.2.2.1, o.2.2.2.2.2.2.2.2.2.2.1, o.2.2.2.2.2.2.2.2.2.2.2.1, o.2.2.2.2.2.2.2.2.2.2.2.2.1, o.2.2.2.2.2.2.2.2.2.2.2.2.2.1, o.2.2.2.2.2.2.2.2.2.2.2.2.2.2.1, o.2.2.2.2.2.2.2.2.2.2.2.2.2.2.2.1, o.2.2.2.2.2.2.2.2.2.2.2.2.2.2.2.2.1) ∧ ERS B.1 i B.2.2.1 (B.1.1, o.2.1, B.1.2.2.1, B.1.2.2.2.1, B.1.2.2.2.2.1, B.1.2.2.2.2.2.1, B.1.2.2.2.2.2.2.1, B.1.2.2.2.2.2.2.2.1, B.1.2.2.2.2.2.2.2.2.1, B.1.2.2.2.2.2.2.2.2.2.1, o.2.2.1, o.2.2.2.2.2.2.2.2.2.2.2.2.2.2.2.2.2))) := by
  obtain ⟨h6, h4, e1, e2, hX, hT⟩ := id hB
  obtain ⟨htx, hbo⟩ := BOK_tx hB
  unfold g_L_erase g_X11_erase
  rcases idx p1 B.2.2.1 (by omega) with ⟨i, hi, rfl⟩ | ho
  · obtain ⟨⟨a0, a1, a2⟩, a3, a4, a5⟩ := hT.1 i hi
    have nS := k_needSpell_in hi h4 a1 a2
    refine bbe (by rw [e2]; exact nS) (bt rfl (bgs (bc a2.1 (ba (ok_b (k_X4_remember (LS := LS) (SE := SE) htx hbo q hn hc hq) (fun r hr => ?_))))))
    unfold g_X0_strikeOut
    rw [if_neg (show ¬ nI i < 0 from nI_nlt (b := 0) (Nat.zero_le _) (by omega)), e_gl]
    have hs := l_strike (LS := LS) (ns := B.2.2.1) (i := i) (tx0 := B.1.2.2.2.2.2.2.2.2.2.2.1) (cc0 := B.1.2.2.2.2.2.2.2.2.2.2.2) (by omega) h4 htx 100 i B.1.2.2.2.2.2.2.2.2.2.2.2 B.1.2.2.2.2.2.2.2.2.2.2.1 (Nat.le_refl _) (by omega) (by omega) (fun j _ => (if_neg (by omega)).symm) (fun j _ => (if_neg (by omega)).symm)
    rw [← e2] at hs
    refine ba (ok_b hs (fun u hu => bs (ok_t rfl (ok_s (Or.inr ⟨i, hi, rfl, hu.1, ⟨hr.1, hr.2.1, hr.2.2⟩, ⟨rfl, hu.1, rfl, rfl, rfl, rfl, rfl, hu.2.1⟩⟩)))))
  · exact bbe (by rw [e2]; exact k_needSpell_out ho) (bf (by decide) (bs (ok_f (show ¬ (2 : Int32) = 0 by decide) (ok_t rfl (ok_s (Or.inl ⟨ho, rfl, rfl, rfl, rfl, rfl⟩))))))
theorem kp_L_cook {LS : List Nat} {SE : Nat → SV} {B : BB} {nx ch : Nat} {bks : Nat → Option Nat} {q : BK} {a : Nat} {boiledOver : Int32} {cooking_boilsAt : Int32} {cooking_cause : Int32} {cooking_causeDetail : Int32} {cooking_spoons : Int32} {cooking_now_many : Nat → Int32} {cooking_now_much : Nat → UInt32} {cooking_before_many : Nat → Int32} {cooking_before_much : Nat → UInt32} {cooking_storesIn : Nat → Int32} {cooking_isBroth : Nat → Int32} {cooking_many : Nat → Int32} {cooking_much : Nat → UInt32} {refusal_isKept : Int32} {refusal_reason : Int32} {refusal_detail : Int32} {refusal_hasCause : Int32} {refusal_cause : Int32} {refusal_causeDetail : Int32} {p1 : Int32} (hB : BOK LS SE B) (hn : nx < 6) (hc : ch ≤ 6) (hq : bks nx = some a) : Ok (g_L_cook LS SE boiledOver B.1.1 B.1.2.1 B.1.2.2.1 B.1.2.2.2.1 B.1.2.2.2.2.2.2.2.2.2.2.1 cooking_boilsAt cooking_cause cooking_causeDetail cooking_spoons cooking_now_many B.1.2.2.2.2.1 cooking_now_much B.1.2.2.2.2.2.1 cooking_before_many cooking_before_much cooking_storesIn B.1.2.2.2.2.2.2.1 cooking_isBroth cooking_many cooking_much B.1.2.2.2.2.2.2.2.1 B.1.2.2.2.2.2.2.2.2.1 (nI nx) (nI ch) bks q.1 q.2.1 q.2.2.1 q.2.2.2.1 q.2.2.2.2.1 q.2.2.2.2.2.1 q.2.2.2.2.2.2.1 q.2.2.2.2.2.2.2.1 q.2.2.2.2.2.2.2.2.1 q.2.2.2.2.2.2.2.2.2.1 B.1.2.2.2.2.2.2.2.2.2.1 q.2.2.2.2.2.2.2.2.2.2.1 q.2.2.2.2.2.2.2.2.2.2.2 B.1.2.2.2.2.2.2.2.2.2.2.2 refusal_isKept refusal_reason refusal_detail refusal_hasCause refusal_cause refusal_causeDetail p1 a) (fun o => (OUT p1 B.2.2.1 ∧ o.1 = -1 ∧ (KEEP9 nx ch q B.1 o.2.2.2.2.2.2.2.2.2.2.2.2.2.2.2.2.2.2.1 o.2.2.2.2.2.2.2.2.2.2.2.2.2.2.2.2.2.2.2.1 (o.2.2.2.2.2.2.2.2.2.2.2.2.2.2.2.2.2.2.2.2.1, o.2.2.2.2.2.2.2.2.2.2.2.2.2.2.2.2.2.2.2.2.2.1, o.2.2.2.2.2.2.2.2.2.2.2.2.2.2.2.2.2.2.2.2.2.2.1, o.2.2.2.2.2.2.2.2.2.2.2.2.2.2.2.2.2.2.2.2.2.2.2.1, o.2.2.2.2.2.2.2.2.2.2.2.2.2.2.2.2.2.2.2.2.2.2.2.2.1, o.2.2.2.2.2.2.2.2.2.2.2.2.2.2.2.2.2.2.2.2.2.2.2.2.2.1, o.2.2.2.2.2.2.2.2.2.2.2.2.2.2.2.2.2.2.2.2.2.2.2.2.2.2.1, o.2.2.2.2.2.2.2.2.2.2.2.2.2.2.2.2.2.2.2.2.2.2.2.2.2.2.2.1, o.2.2.2.2.2.2.2.2.2.2.2.2.2.2.2.2.2.2.2.2.2.2.2.2.2.2.2.2.1, o.2.2.2.2.2.2.2.2.2.2.2.2.2.2.2.2.2.2.2.2.2.2.2.2.2.2.2.2.2.1, o.2.2.2.2.2.2.2.2.2.2.2.2.2.2.2.2.2.2.2.2.2.2.2.2.2.2.2.2.2.2.2.1, o.2.2.2.2.2.2.2.2.2.2.2.2.2.2.2.2.2.2.2.2.2.2.2.2.2.2.2.2.2.2.2.2.1) (B.1.1, B.1.2.1, o.2.2.1, o.2.2.2.1, o.2.2.2.2.2.2.2.2.2.1, o.2.2.2.2.2.2.2.2.2.2.2.1, B.1.2.2.2.2.2.2.1, B.1.2.2.2.2.2.2.2.1, B.1.2.2.2.2.2.2.2.2.1, o.2.2.2.2.2.2.2.2.2.2.2.2.2.2.2.2.2.2.2.2.2.2.2.2.2.2.2.2.2.2.1, B.1.2.2.2.2.2.2.2.2.2.2.1, o.2.2.2.2.2.2.2.2.2.2.2.2.2.2.2.2.2.2.2.2.2.2.2.2.2.2.2.2.2.2.2.2.2.1)) ∧ o.2.1 = boiledOver) ∨ (∃ i z, i < B.2.2.1 ∧ p1 = nI i ∧ flC B.1.2.2.2.2.2.2.1 B.1.2.2.2.2.2.2.2.1 B.1.2.2.2.2.2.2.2.2.1 (CNo B) (B.2.2.2 i) = some z ∧ o.1 = -2 ∧ (KEEP9 nx ch q B.1 o.2.2.2.2.2.2.2.2.2.2.2.2.2.2.2.2.2.2.1 o.2.2.2.2.2.2.2.2.2.2.2.2.2.2.2.2.2.2.2.1 (o.2.2.2.2.2.2.2.2.2.2.2.2.2.2.2.2.2.2.2.2.1, o.2.2.2.2.2.2.2.2.2.2.2.2.2.2.2.2.2.2.2.2.2.1, o.2.2.2.2.2.2.2.2.2.2.2.2.2.2.2.2.2.2.2.2.2.2.1, o.2.2.2.2.2.2.2.2.2.2.2.2.2.2.2.2.2.2.2.2.2.2.2.1, o.2.2.2.2.2.2.2.2.2.2.2.2.2.2.2.2.2.2.2.2.2.2.2.2.1, o.2.2.2.2.2.2.2.2.2.2.2.2.2.2.2.2.2.2.2.2.2.2.2.2.2.1, o.2.2.2.2.2.2.2.2.2.2.2.2.2.2.2.2.2.2.2.2.2.2.2.2.2.2.1, o.2.2.2.2.2.2.2.2.2.2.2.2.2.2.2.2.2.2.2.2.2.2.2.2.2.2.2.1, o.2.2.2.2.2.2.2.2.2.2.2.2.2.2.2.2.2.2.2.2.2.2.2.2.2.2.2.2.1, o.2.2.2.2.2.2.2.2.2.2.2.2.2.2.2.2.2.2.2.2.2.2.2.2.2.2.2.2.2.1, o.2.2.2.2.2.2.2.2.2.2.2.2.2.2.2.2.2.2.2.2.2.2.2.2.2.2.2.2.2.2.2.1, o.2.2.2.2.2.2.2.2.2.2.2.2.2.2.2.2.2.2.2.2.2.2.2.2.2.2.2.2.2.2.2.2.1) (B.1.1, B.1.2.1, o.2.2.1, o.2.2.2.1, o.2.2.2.2.2.2.2.2.2.1, o.2.2.2.2.2.2.2.2.2.2.2.1, B.1.2.2.2.2.2.2.1, B.1.2.2.2.2.2.2.2.1, B.1.2.2.2.2.2.2.2.2.1, o.2.2.2.2.2.2.2.2.2.2.2.2.2.2.2.2.2.2.2.2.2.2.2.2.2.2.2.2.2.2.1, B.1.2.2.2.2.2.2.2.2.2.2.1, o.2.2.2.2.2.2.2.2.2.2.2.2.2.2.2.2.2.2.2.2.2.2.2.2.2.2.2.2.2.2.2.2.2.1)) ∧ o.2.1 = boiledOver + 1 ∧ o.2.2.2.2.2.2.2.2.2.2.2.2.2.2.2.2.2.2.2.2.2.2.2.2.2.2.2.2.2.2.2.2.2.2.1 = 1 ∧ o.2.2.2.2.2.2.2.2.2.2.2.2.2.2.2.2.2.2.2.2.2.2.2.2.2.2.2.2.2.2.2.2.2.2.2.1 = 6 ∧ o.2.2.2.2.2.2.2.2.2.2.2.2.2.2.2.2.2.2.2.2.2.2.2.2.2.2.2.2.2.2.2.2.2.2.2.2.1 = nI z) ∨ (∃ i, i < B.2.2.1 ∧ p1 = nI i ∧ flC B.1.2.2.2.2.2.2.1 B.1.2.2.2.2.2.2.2.1 B.1.2.2.2.2.2.2.2.2.1 (CNo B) (B.2.2.2 i) = none ∧ (PUSH9 nx ch B.1 o.2.2.2.2.2.2.2.2.2.2.2.2.2.2.2.2.2.2.1 o.2.2.2.2.2.2.2.2.2.2.2.2.2.2.2.2.2.2.2.1 (o.2.2.2.2.2.2.2.2.2.2.2.2.2.2.2.2.2.2.2.2.1, o.2.2.2.2.2.2.2.2.2.2.2.2.2.2.2.2.2.2.2.2.2.1, o.2.2.2.2.2.2.2.2.2.2.2.2.2.2.2.2.2.2.2.2.2.2.1, o.2.2.2.2.2.2.2.2.2.2.2.2.2.2.2.2.2.2.2.2.2.2.2.1, o.2.2.2.2.2.2.2.2.2.2.2.2.2.2.2.2.2.2.2.2.2.2.2.2.1, o.2.2.2.2.2.2.2.2.2.2.2.2.2.2.2.2.2.2.2.2.2.2.2.2.2.1, o.2.2.2.2.2.2.2.2.2.2.2.2.2.2.2.2.2.2.2.2.2.2.2.2.2.2.1, o.2.2.2.2.2.2.2.2.2.2.2.2.2.2.2.2.2.2.2.2.2.2.2.2.2.2.2.1, o.2.2.2.2.2.2.2.2.2.2.2.2.2.2.2.2.2.2.2.2.2.2.2.2.2.2.2.2.1, o.2.2.2.2.2.2.2.2.2.2.2.2.2.2.2.2.2.2.2.2.2.2.2.2.2.2.2.2.2.1, o.2.2.2.2.2.2.2.2.2.2.2.2.2.2.2.2.2.2.2.2.2.2.2.2.2.2.2.2.2.2.2.1, o.2.2.2.2.2.2.2.2.2.2.2.2.2.2.2.2.2.2.2.2.2.2.2.2.2.2.2.2.2.2.2.2.1)) ∧ o.2.1 = boiledOver ∧ COOKED B i o.1 (B.1.1, B.1.2.1, o.2.2.1, o.2.2.2.1, o.2.2.2.2.2.2.2.2.2.1, o.2.2.2.2.2.2.2.2.2.2.2.1, B.1.2.2.2.2.2.2.1, B.1.2.2.2.2.2.2.2.1, B.1.2.2.2.2.2.2.2.2.1, o.2.2.2.2.2.2.2.2.2.2.2.2.2.2.2.2.2.2.2.2.2.2.2.2.2.2.2.2.2.2.1, B.1.2.2.2.2.2.2.2.2.2.2.1, o.2.2.2.2.2.2.2.2.2.2.2.2.2.2.2.2.2.2.2.2.2.2.2.2.2.2.2.2.2.2.2.2.2.1))) := by
  obtain ⟨h6, h4, e1, e2, hX, hT⟩ := id hB
  obtain ⟨htx, hbo⟩ := BOK_tx hB
  unfold g_L_cook g_X11_cook
  rcases idx p1 B.2.2.1 (by omega) with ⟨i, hi, rfl⟩ | ho
  · obtain ⟨⟨a0, a1, a2⟩, a3, a4, a5⟩ := hT.1 i hi
    have nS := k_needSpell_in hi h4 a1 a2
    refine bbe (by rw [e2]; exact nS) (bt rfl (bgs (bc a2.1 (ba (ok_b (k_X2_begin _ _ _ _) (fun r2 hr2 => ba (ok_b (k2B hB a2 a3 h6 hX hr2.1 hr2.2) (fun r hr => ?_))))))))
    obtain ⟨f1, f2, f3, f4, f5⟩ := hr
    cases hz : flC B.1.2.2.2.2.2.2.1 B.1.2.2.2.2.2.2.2.1 B.1.2.2.2.2.2.2.2.2.1 (CNo B) (B.2.2.2 i) with
    | some z =>
      rw [hz, if_neg (by simp)] at f1
      rw [hz] at f2
      refine bt f1 (bl (bbe (show g_X7_keepWithCause refusal_isKept refusal_reason refusal_detail refusal_hasCause refusal_cause refusal_causeDetail 6 r.2.1 r.2.2.1 r.2.2.2.1 = some (1, 6, r.2.1, 1, r.2.2.1, r.2.2.2.1) from rfl) (bs (ok_f (show ¬ (4 : Int32) = 0 by decide) (ok_f (show ¬ (4 : Int32) = 2 by decide) (ok_t rfl (ok_s (Or.inr (Or.inl ⟨i, z, hi, rfl, hz, rfl, ⟨rfl, rfl, rfl, rfl⟩, rfl, rfl, rfl, f2⟩)))))))))
    | none =>
      rw [hz, if_pos rfl] at f1
      obtain ⟨g1, g2⟩ := f5 hz
      have hC' := NWR_CX (OKT_w a3 h6) hX (by rfl) g1
      have hch := k_changes (nm := r.2.2.2.2.2.2.1) (mn := B.1.2.2.2.2.1) (nu := r.2.2.2.2.2.2.2.2.1) (mu := B.1.2.2.2.2.2.1) (nm0 := r.2.2.2.2.2.2.1) (mn0 := r.2.2.2.2.2.1) (nu0 := r.2.2.2.2.2.2.2.2.1) (mu0 := r.2.2.2.2.2.2.2.1) (fun c hc => ⟨rfl, f3 c hc, rfl, f4 c hc, (hC' c hc).1.2.2.2.1, (hX c hc).1.2.2.2.1⟩)
      refine bf (by rw [f1]; decide) (ba (ok_b (k_X4_remember (LS := LS) (SE := SE) htx hbo q hn hc hq) (fun r4 hr4 => ba (ok_b (k_settle (v := fun c => NC (rT (B.2.2.2 i)).2.1 (rT (B.2.2.2 i)).2.2.1 c (rT (B.2.2.2 i)).1) (show i < 4 by omega) g2) (fun r5 hr5 => bbe hch (bs (ok_t rfl (ok_s (Or.inr (Or.inr ⟨i, hi, rfl, hz, ⟨hr4.1, hr4.2.1, hr4.2.2⟩, rfl, ?_⟩))))))))))
      obtain ⟨o1, o2, o3, o4, o5, o6⟩ := hr5
      exact ⟨_, _, g1, rfl, o3, o4, rfl, rfl, rfl, rfl, rfl, rfl, o5⟩
  · exact bbe (by rw [e2]; exact k_needSpell_out ho) (bf (by decide) (bs (ok_f (show ¬ (2 : Int32) = 0 by decide) (ok_t rfl (ok_s (Or.inl ⟨ho, rfl, ⟨rfl, rfl, rfl, rfl⟩, rfl⟩))))))
