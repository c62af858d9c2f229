/-! THE CALL erase -/
section ERASE
variable {LS : List Nat} {SE : Nat → SV} {RA : Nat → BK} {nx ch n4 a : Nat} {b sb : BK} {past be s rf sv : Nat → Int32} {pastF beF f svF : Nat → UInt32} {kp rs de hc ca cd th p1 p2 p3 bd le ke isv : Int32} {ans : Nat → Int64} {bks : Nat → Option Nat}
variable {α : Type} {tx0 : Nat → Option Nat} {cc0 : Nat → Int32}
theorem shift_s {α : Type} {g g0 : Nat → α} {i p : Nat} (hp : p < 3) (h : ∀ j, j < 4 → g j = if i ≤ j ∧ j < p then g0 (j + 1) else g0 j) (hi : i ≤ p) {g' : Nat → α} (e1 : g' p = g (p + 1)) (e2 : ∀ j, j ≠ p → g' j = g j) : ∀ j, j < 4 → g' j = if i ≤ j ∧ j < p + 1 then g0 (j + 1) else g0 j := by
  intro j hj
  by_cases e : j = p
  · rw [e, e1, h _ (by omega), if_neg (by omega), if_pos (by omega)]
  · rw [e2 j e, h j hj]
    by_cases c : i ≤ j ∧ j < p
    · rw [if_pos c, if_pos (by omega)]
    · rw [if_neg c, if_neg (by omega)]
theorem l_strike {ns i : Nat} (hn : 0 < ns) (hn4 : ns ≤ 4) (ht : ∀ j, j < 4 → oin9 LS (tx0 j) = true) : ∀ (n p : Nat) (cc : Nat → Int32) (tx : Nat → Option Nat), i ≤ p → p ≤ 3 → 3 - p < n → (∀ j, j < 4 → tx j = if i ≤ j ∧ j < p then tx0 (j + 1) else tx0 j) → (∀ j, j < 4 → cc j = if i ≤ j ∧ j < p then cc0 (j + 1) else cc0 j) → Ok (g_X0_strikeOut_b6 LS (nI ns) n cc tx (nI p)) (fun o => o.1 = nI (ns - 1) ∧ (∀ j, j < 4 → o.2.1 j = if i ≤ j ∧ j < 3 then tx0 (j + 1) else tx0 j) ∧ (∀ j, j < 4 → o.2.2 j = if i ≤ j ∧ j < 3 then cc0 (j + 1) else cc0 j))
  | 0, p, _, _, _, _, h, _, _ => absurd h (Nat.not_lt_zero _)
  | n + 1, p, cc, tx, hip, hp, hm, h1, h2 => by
    unfold g_X0_strikeOut_b6
    by_cases e : p = 3
    · subst e
      exact ok_t (nI_le (a := 3) (b := 3) (Nat.le_refl _) (by omega)) (ok_l (ok_s ⟨x_sub (b := 1) hn, h1, h2⟩))
    · have ho : oin9 LS (tx (p + 1)) = true := by
        rw [h1 (p + 1) (by omega)]
        split
        · exact ht _ (by omega)
        · exact ht _ (by omega)
      rw [nI_1]
      refine ok_f (show ¬ (3 : Int32) ≤ nI p from nI_ge (show p < 3 by omega) (show (3 : Nat) < 2147483648 by omega)) (ok_c (x_inb (by omega) (by omega)) (ok_c (x_inb (by omega) (by omega)) (ok_c (by rw [x_cl (by omega)]; exact ho) (ok_c (x_inb (by omega) (by omega)) (ok_c (x_inb (by omega) (by omega)) (ok_l ?_))))))
      rw [x_cl (by omega), x_cl (by omega)]
      exact l_strike hn hn4 ht n (p + 1) _ _ (by omega) (by omega) (by omega) (shift_s (by omega) h1 hip x_as (fun j hj => x_an hj)) (shift_s (by omega) h2 hip x_us (fun j hj => x_un hj))
def sEr (s : Nat → Int32) (i ns : Nat) : Nat → Int32 := upd (va_cpy s s (34 + 62 * (i + 1)) (34 + 62 * i) (62 * (ns - 1 - i))) 1 (nI (ns - 1))
theorem k_doErase {ns i : Nat} (h1 : s 1 = nI ns) (hi : i < ns) (hn : ns ≤ 4) : g_X12_doErase th s (nI i) = some (nI (ns - 1), th, sEr s i ns) := by
  unfold g_X12_doErase
  have e1 : nI ns - 1 = nI (ns - 1) := x_sub (b := 1) (by omega)
  have e2 : (34 + (62 * nI i) : Int32) = nI (34 + 62 * i) := by rw [c_34, c_62, pk_mul, nI_add]
  have e3 : nI (34 + 62 * i) + 62 = nI (34 + 62 * (i + 1)) := by rw [c_62, nI_add]; congr 1
  have e4 : (62 : Int32) * (nI (ns - 1) - nI i) = nI (62 * (ns - 1 - i)) := by rw [x_sub (by omega), c_62, pk_mul]
  rw [k_X12_isSpell_in h1 hi hn, e_gbS, if_neg (by decide), e_gc (show inb 1 282 = true from rfl), show s (1 : Int32).toNatClampNeg = nI ns from h1, e1, e_gl, e2, e_gl, e3, e4, e_gc (cp_ok (by omega) (by omega) (by omega) (by omega)), e_gc (show inb 1 282 = true from rfl), x_cl (by omega), x_cl (by omega), x_cl (by omega)]
  rfl
theorem sEr_0 {i ns j : Nat} (h : j ≠ 1) (h2 : j < 34 + 62 * i) : sEr s i ns j = s j := by
  unfold sEr
  rw [x_un h]
  exact cpy_out (Or.inl h2)
theorem sEr_1 {i ns j t : Nat} (hi : i ≤ j) (hj : j < ns - 1) (ht : t < 62) : sEr s i ns (34 + 62 * j + t) = s (34 + 62 * (j + 1) + t) := by
  unfold sEr
  rw [x_un (by omega)]
  exact (cpy_at (by omega) (by omega)).trans (congrArg s (by omega))
/-- the book without a spell -/
theorem BR_erase {nc ns i : Nat} {X : Nat → TX} {tx' : Nat → Option Nat} {cc' : Nat → Int32} (h : BRx LS SE nc ns X b s f) (hi : i < ns) (h1 : ∀ j, j < 4 → tx' j = if i ≤ j ∧ j < 3 then b.2.2.2.2.2.2.2.2.2.2.1 (j + 1) else b.2.2.2.2.2.2.2.2.2.2.1 j) (h2 : ∀ j, j < 4 → cc' j = if i ≤ j ∧ j < 3 then b.2.2.2.2.2.2.2.2.2.2.2 (j + 1) else b.2.2.2.2.2.2.2.2.2.2.2 j) :
    BRx LS SE nc (ns - 1) (fun j => if i ≤ j then X (j + 1) else X j) (b.1, nI (ns - 1), b.2.2.1, b.2.2.2.1, b.2.2.2.2.1, b.2.2.2.2.2.1, b.2.2.2.2.2.2.1, b.2.2.2.2.2.2.2.1, b.2.2.2.2.2.2.2.2.1, b.2.2.2.2.2.2.2.2.2.1, tx', cc') (sEr s i ns) f := by
  obtain ⟨g1, g2, g3, g4, g5, g6, g7, g8, g9, g10, g11⟩ := h
  refine ⟨g1, by omega, g3, rfl, (sEr_0 (by omega) (by omega)).trans g5, ?_, (sEr_0 (by omega) (by omega)).trans g7, (sEr_0 (by omega) (by omega)).trans g8, g9, fun c hc => ?_, fun j hj => ?_, fun j hj => ?_⟩
  · unfold sEr; exact x_us
  · show sEr s i ns (4 + 5 * c) = _ ∧ _
    rw [sEr_0 (by omega) (by omega), sEr_0 (by omega) (by omega), sEr_0 (by omega) (by omega), sEr_0 (by omega) (by omega), sEr_0 (by omega) (by omega)]
    exact g10 c hc
  · show (∃ a, tx' j = some a ∧ SPC LS SE a (if i ≤ j then X (j + 1) else X j)) ∧ OKT nc (if i ≤ j then X (j + 1) else X j) ∧ SPM (sEr s i ns) j (if i ≤ j then X (j + 1) else X j) ∧ sEr s i ns (34 + 62 * j) = cc' j
    by_cases e : i ≤ j
    · rw [if_pos e, h1 j (by omega), if_pos (by omega), h2 j (by omega), if_pos (by omega)]
      obtain ⟨q1, q2, q3, q4⟩ := g11.1 (j + 1) (by omega)
      refine ⟨q1, q2, ⟨(sEr_1 (t := 1) e (by omega) (by omega)).trans q3.1, fun t ht => ?_⟩, (sEr_1 (t := 0) e (by omega) (by omega)).trans q4⟩
      have hx := q2.1
      have q := sEr_1 (s := s) (t := 2 + t) e hj (by omega)
      rw [show 34 + 62 * j + (2 + t) = 34 + 62 * j + 2 + t by omega, show 34 + 62 * (j + 1) + (2 + t) = 34 + 62 * (j + 1) + 2 + t by omega] at q
      exact q.trans (q3.2 t ht)
    · rw [if_neg e, h1 j (by omega), if_neg (by omega), h2 j (by omega), if_neg (by omega)]
      obtain ⟨q1, q2, q3, q4⟩ := g11.1 j (by omega)
      refine ⟨q1, q2, SPM_rows q3 q2.1 (fun t _ _ => sEr_0 (by omega) (by omega)), (sEr_0 (by omega) (by omega)).trans q4⟩
  · show oin9 LS (tx' j) = true
    rw [h1 j hj]
    split
    · exact g11.2 _ (by omega)
    · exact g11.2 _ hj
theorem op_erase (hB : BR LS SE b s f) (hH : HA LS SE RA nx ch past pastF) (hq : bks nx = some a) (hn : 0 < n4) (hn9 : n4 < 2147483648) :
    Ok (g_L_erase LS SE n4 ans b.1 b.2.1 b.2.2.1 b.2.2.2.1 b.2.2.2.2.2.2.2.2.2.2.1 (nI nx) (nI ch) bks (RA nx).1 (RA nx).2.1 (RA nx).2.2.1 (RA nx).2.2.2.1 (RA nx).2.2.2.2.1 b.2.2.2.2.1 (RA nx).2.2.2.2.2.1 b.2.2.2.2.2.1 (RA nx).2.2.2.2.2.2.1 b.2.2.2.2.2.2.1 (RA nx).2.2.2.2.2.2.2.1 b.2.2.2.2.2.2.2.1 (RA nx).2.2.2.2.2.2.2.2.1 b.2.2.2.2.2.2.2.2.1 (RA nx).2.2.2.2.2.2.2.2.2.1 b.2.2.2.2.2.2.2.2.2.1 (RA nx).2.2.2.2.2.2.2.2.2.2.1 (RA nx).2.2.2.2.2.2.2.2.2.2.2 b.2.2.2.2.2.2.2.2.2.2.2 p1 a) (fun o => Ok (g_X12_erase (nI ch) th s be f beF past pastF p1) (fun o' => AN ans o.1 o.2.1 o'.1 o'.2.2.1 ∧ BR LS SE (b.1, o.2.2.1, b.2.2.1, b.2.2.2.1, b.2.2.2.2.1, b.2.2.2.2.2.1, b.2.2.2.2.2.2.1, b.2.2.2.2.2.2.2.1, b.2.2.2.2.2.2.2.2.1, b.2.2.2.2.2.2.2.2.2.1, o.2.2.2.1, o.2.2.2.2.2.2.2.2.2.2.2.2.2.2.2.2.2.2) o'.2.2.2.1 o'.2.2.2.2.2.1 ∧ NH LS SE RA nx (o.2.2.2.2.2.2.1, o.2.2.2.2.2.2.2.1, o.2.2.2.2.2.2.2.2.1, o.2.2.2.2.2.2.2.2.2.1, o.2.2.2.2.2.2.2.2.2.2.1, o.2.2.2.2.2.2.2.2.2.2.2.1, o.2.2.2.2.2.2.2.2.2.2.2.2.1, o.2.2.2.2.2.2.2.2.2.2.2.2.2.1, o.2.2.2.2.2.2.2.2.2.2.2.2.2.2.1, o.2.2.2.2.2.2.2.2.2.2.2.2.2.2.2.1, o.2.2.2.2.2.2.2.2.2.2.2.2.2.2.2.2.1, o.2.2.2.2.2.2.2.2.2.2.2.2.2.2.2.2.2.1) o.2.2.2.2.1 o.2.2.2.2.2.1 o'.2.1 o'.2.2.2.2.2.2.2.1 o'.2.2.2.2.2.2.2.2)) := by
  have hgc : inb 0 n4 = true := decide_eq_true ⟨by decide, by show (0 : Int) < n4; omega⟩
  obtain ⟨nc, ns, X, hBx⟩ := id hB
  obtain ⟨h6, h4, e1, e2, h0, h1, h2, h3, hX, hS, hT⟩ := id hBx
  obtain ⟨htx, hbo⟩ := BR_tx hB
  unfold g_L_erase g_X11_erase g_X12_erase
  rcases idx p1 ns (by omega) with ⟨i, hi, rfl⟩ | ho
  · obtain ⟨⟨a0, a1, a2⟩, a3, a4, a5⟩ := hT.1 i hi
    have nS := k_needSpell_in hi h4 a1 a2
    refine bbe (by rw [e2]; exact nS) (bt rfl (bgs (bc a2.1 (ba (ok_b (k_X4_remember (LS := LS) (SE := SE) htx hbo (RA nx) hH.1 hH.2.1 hq) (fun r hr => ?_))))))
    unfold g_X0_strikeOut
    rw [if_neg (show ¬ nI i < 0 from nI_nlt (b := 0) (Nat.zero_le _) (by omega)), e_gl]
    refine ba (ok_b (by rw [e2]; exact l_strike (i := i) (tx0 := b.2.2.2.2.2.2.2.2.2.2.1) (cc0 := b.2.2.2.2.2.2.2.2.2.2.2) (by omega) h4 htx 100 i _ _ (Nat.le_refl _) (by omega) (by omega) (fun j _ => (if_neg (by omega)).symm) (fun j _ => (if_neg (by omega)).symm)) (fun u hu => bs (ok_t rfl (ok_c hgc (ok_s ?_)))))
    obtain ⟨u1, u2, u3⟩ := hu
    rw [hr.1, hr.2.1, u1]
    obtain ⟨past', pastF', hE1, hE2⟩ := HA_push (s := sEr s i ns) (f := f) hH (BR_keep (be := be) (beF := beF) hB) hr.2.2 (nI (ns - 1))
    exact ok_be (k_X12_keep th s be f beF) (ok_be (k_doErase h1 hi h4) (ok_be hE1 (ok_s ⟨AN_y rfl rfl, ⟨nc, ns - 1, _, BR_erase hBx hi u2 u3⟩, ⟨_, _, rfl, rfl, rfl, hE2, Or.inr rfl⟩⟩)))
  · refine bbe (by rw [e2]; exact k_needSpell_out ho) (bf (by decide) (bs (ok_f (show ¬ (2 : Int32) = 0 by decide) (ok_t rfl (ok_s ?_)))))
    have dO : g_X12_doErase 0 s p1 = some (0, 1, s) := by
      unfold g_X12_doErase
      rw [k_X12_isSpell_out h1 ho h4, e_gbS, if_pos (show nI 0 = 0 from rfl)]; rfl
    exact ok_be (k_X12_keep th s be f beF) (ok_be dO (ok_be (k_X12_endsF (show ¬ (1 : Int32) ≤ 0 by decide)) (ok_s ⟨AN_n rfl rfl, BR_back hB, NH_self hH⟩)))
end ERASE
