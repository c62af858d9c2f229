/-! WHAT THE CLASS ANSWERS, told by its book: the calls that ask (gen/spec1.py) -/
/-- which of n a number tells -/
def fx (p : Int32) (n : Nat) : Option Nat := if 0 ≤ p.toInt ∧ p.toInt < n then some p.toInt.toNat else none
theorem fx_in {i n : Nat} (h : i < n) (hn : n < 2147483648) : fx (nI i) n = some i := by
  have e : (nI i).toInt = i := nI_toInt (by omega)
  unfold fx
  rw [e, if_pos ⟨by omega, by omega⟩]
  rfl
theorem fx_out {p : Int32} {n : Nat} (hn : n < 2147483648) (h : OUT p n) : fx p n = none := if_neg (out_to hn h)
/-- the first place that fails -/
def FN {α : Type} (op : Nat → (Nat → Option α) → Option α) : Nat → Option Nat
  | 0 => none
  | T + 1 => match FN op T with
    | some q => some q
    | none => if (vG op T).isNone = true then some T else none
theorem FN_FV {α : Type} (op : Nat → (Nat → Option α) → Option α) : ∀ T, FV op T (FN op T)
  | 0 => fun q h => absurd h (Nat.not_lt_zero q)
  | T + 1 => by
    have ih := FN_FV op T
    unfold FN
    cases h : FN op T with
    | some f =>
      rw [h] at ih
      exact ⟨Nat.lt_succ_of_lt ih.1, ih.2⟩
    | none =>
      rw [h] at ih
      by_cases c : (vG op T).isNone = true
      · show FV op (T + 1) (if (vG op T).isNone = true then some T else none)
        rw [if_pos c]
        exact ⟨Nat.lt_succ_self T, Option.isNone_iff_eq_none.mp c, ih⟩
      · show FV op (T + 1) (if (vG op T).isNone = true then some T else none)
        rw [if_neg c]
        intro q hq
        by_cases e : q = T
        · rw [e]; exact fun z => c (Option.isNone_iff_eq_none.mpr z)
        · exact ih q (by omega)
theorem FN_of {α : Type} {op : Nat → (Nat → Option α) → Option α} {T : Nat} {f : Option Nat} (h : FV op T f) : f = FN op T := FV_one h (FN_FV op T)
def flT (kd lo hi : Nat → Int32) (x : TX) : Option Nat := FN (tyP kd lo hi (rT x).2.1 (rT x).2.2.1) (rT x).1
def flC (kd lo hi : Nat → Int32) (CN : Nat → CV) (x : TX) : Option Nat := FN (ckP kd lo hi CN (rT x).2.1 (rT x).2.2.1) (rT x).1
theorem TB_fl {kd lo hi : Nat → Int32} {x : TX} : TB kd lo hi x = true ↔ flT kd lo hi x = none := FV_tyB (FN_FV _ _)
def f_of (B : BB) (p q : Int32) : Int32 := match fx p B.2.1 with
  | none => -1001
  | some c => if q = 0 then B.1.2.2.2.2.2.2.1 c else if q = 1 then B.1.2.2.2.2.2.2.2.1 c else if q = 2 then B.1.2.2.2.2.2.2.2.2.1 c else if q = 3 then (if B.1.2.2.2.2.2.2.1 c = 0 then B.1.2.2.2.2.1 c else FP.f2i (B.1.2.2.2.2.2.1 c)) else if q = 4 then B.1.2.2.2.2.2.2.2.2.2.1 c else if q = 5 then nI (CH 0 c B.2.2.2 B.2.2.1) else if q = 6 then nI (CH 7 c B.2.2.2 B.2.2.1) else -1003
def f_spellOf (B : BB) (p q : Int32) : Int32 := match fx p B.2.2.1 with
  | none => -11
  | some i => if q = 0 then nI (rT (B.2.2.2 i)).1 else if q = 1 then nI (NS (rT (B.2.2.2 i)).2.1 (rT (B.2.2.2 i)).1) else if q = 2 then nI (MS (rT (B.2.2.2 i)).2.1 (rT (B.2.2.2 i)).1) else if q = 3 then (if flT B.1.2.2.2.2.2.2.1 B.1.2.2.2.2.2.2.2.1 B.1.2.2.2.2.2.2.2.2.1 (B.2.2.2 i) = none then 1 else 0) else if q = 4 then B.1.2.2.2.2.2.2.2.2.2.2.2 i else -12
def f_token (B : BB) (p q : Int32) : Int32 := match fx p B.2.2.1 with
  | none => -11
  | some i => match fx q (rT (B.2.2.2 i)).1 with
    | none => -14
    | some j => nI ((rT (B.2.2.2 i)).2.2.2.1 j)
def f_types (B : BB) (p : Int32) : Int32 := match fx p B.2.2.1 with
  | none => -11
  | some i => if flT B.1.2.2.2.2.2.2.1 B.1.2.2.2.2.2.2.2.1 B.1.2.2.2.2.2.2.2.2.1 (B.2.2.2 i) = none then 1 else 0
def f_fault (B : BB) (p : Int32) : Int32 := match fx p B.2.2.1 with
  | none => -11
  | some i => match flT B.1.2.2.2.2.2.2.1 B.1.2.2.2.2.2.2.2.1 B.1.2.2.2.2.2.2.2.2.1 (B.2.2.2 i) with
    | none => -14
    | some q => nI q
/-- where the j-th store stands -/
def STP (k : Nat → Nat) (j : Nat) : Nat → Option Nat
  | 0 => none
  | T + 1 => if k T = 7 ∧ NS k T = j then some T else STP k j T
theorem STP_at {k : Nat → Nat} {q : Nat} (h7 : k q = 7) : ∀ T, q < T → STP k (NS k q) T = some q
  | 0, h => absurd h (Nat.not_lt_zero q)
  | T + 1, h => by
    unfold STP
    by_cases e : q = T
    · subst e
      rw [if_pos ⟨h7, rfl⟩]
    · rw [if_neg (fun z => ?_)]
      · exact STP_at h7 T (by omega)
      · have h1 : NS k (q + 1) = NS k q + 1 := by rw [NS_s, if_pos h7]
        have h2 := NS_mono k (p := q + 1) T (by omega)
        omega
def f_bound (B : BB) (p q r : Int32) : Int32 := match fx p B.2.2.1 with
  | none => -1001
  | some i => if flT B.1.2.2.2.2.2.2.1 B.1.2.2.2.2.2.2.2.1 B.1.2.2.2.2.2.2.2.2.1 (B.2.2.2 i) = none then (match fx q (NS (rT (B.2.2.2 i)).2.1 (rT (B.2.2.2 i)).1) with
    | none => -1004
    | some j => match STP (rT (B.2.2.2 i)).2.1 j (rT (B.2.2.2 i)).1 with
      | none => -1004
      | some z => match vG (tyP B.1.2.2.2.2.2.2.1 B.1.2.2.2.2.2.2.2.1 B.1.2.2.2.2.2.2.2.2.1 (rT (B.2.2.2 i)).2.1 (rT (B.2.2.2 i)).2.2.1) z with
        | none => -1004
        | some a => if a.1 = 0 then (if r = 0 then a.2.1.toInt32 else a.2.2.toInt32) else -1004) else -1004
section KP1
variable {LS : List Nat} {SE : Nat → SV} {B : BB} {fa so sps p1 p2 p3 : Int32} {iB sB tB : Nat → Int32} {l h sL sH tl t2 : Nat → Int64}
theorem kp_types (hB : BOK LS SE B) : Ok (g_L_types LS SE B.1.2.1 B.1.2.2.2.2.2.2.2.2.2.2.1 fa so sps B.1.2.2.2.2.2.2.1 B.1.2.2.2.2.2.2.2.1 B.1.2.2.2.2.2.2.2.2.1 iB l h sB sL sH p1) (fun o => o.1 = f_types B p1) := by
  obtain ⟨h6, h4, e1, e2, hX, hT⟩ := hB
  have hbo := CX_bo hX
  unfold g_L_types g_X11_types
  rw [e2]
  rcases idx p1 B.2.2.1 (by omega) with ⟨i, hi, rfl⟩ | ho
  · obtain ⟨⟨a, a1, a2⟩, a3, a4, a5⟩ := hT.1 i hi
    have ef : f_types B (nI i) = if flT B.1.2.2.2.2.2.2.1 B.1.2.2.2.2.2.2.2.1 B.1.2.2.2.2.2.2.2.2.1 (B.2.2.2 i) = none then 1 else 0 := by unfold f_types; rw [fx_in hi (by omega)]
    refine ok_b (R := fun r => r.1 = 0 ∧ r.2.1 = if flT B.1.2.2.2.2.2.2.1 B.1.2.2.2.2.2.2.2.1 B.1.2.2.2.2.2.2.2.2.1 (B.2.2.2 i) = none then nI 1 else nI 0) ?_ (fun r hr => ?_)
    · refine ok_be (k_needSpell_in hi h4 a1 a2) (ok_t rfl (ok_gs (ok_c a2.1 (ok_b (k9x a2 a3 h6 hbo fa so sps iB sB l h sL sH) (fun o ho => ?_)))))
      obtain ⟨z, z1, z2, -⟩ := ho
      rw [FN_of z1] at z2
      exact ok_c (by rw [z2]; split <;> rfl) (ok_s ⟨rfl, z2⟩)
    · obtain ⟨r1, r2⟩ := hr
      refine ok_t r1 ?_
      rw [ef]
      by_cases c : flT B.1.2.2.2.2.2.2.1 B.1.2.2.2.2.2.2.2.1 B.1.2.2.2.2.2.2.2.2.1 (B.2.2.2 i) = none
      · rw [if_pos c] at r2 ⊢
        exact ok_f (by rw [r2]; decide) (ok_s rfl)
      · rw [if_neg c] at r2 ⊢
        exact ok_t (by rw [r2]; rfl) (ok_s rfl)
  · refine ok_be ((e_gb (k_needSpell_out ho)).trans (if_neg (by decide))) (ok_f (show ¬ (2 : Int32) = 0 by decide) (ok_t rfl (ok_s ?_)))
    unfold f_types
    rw [fx_out (by omega) ho]
theorem kp_typesAgain (hB : BOK LS SE B) : Ok (g_L_typesAgain LS SE B.1.2.1 B.1.2.2.2.2.2.2.2.2.2.2.1 tB tl t2 B.1.2.2.2.2.2.2.1 B.1.2.2.2.2.2.2.2.1 B.1.2.2.2.2.2.2.2.2.1 p1) (fun o => o.1 = f_types B p1) := by
  obtain ⟨h6, h4, e1, e2, hX, hT⟩ := hB
  have hbo := CX_bo hX
  unfold g_L_typesAgain g_X11_typesAgain
  rw [e2]
  rcases idx p1 B.2.2.1 (by omega) with ⟨i, hi, rfl⟩ | ho
  · obtain ⟨⟨a, a1, a2⟩, a3, a4, a5⟩ := hT.1 i hi
    have hsh := OKT_SH a3
    have ef : f_types B (nI i) = if flT B.1.2.2.2.2.2.2.1 B.1.2.2.2.2.2.2.2.1 B.1.2.2.2.2.2.2.2.2.1 (B.2.2.2 i) = none then 1 else 0 := by unfold f_types; rw [fx_in hi (by omega)]
    obtain ⟨b1, b2, b3, b4, b5, b6, b7, b8⟩ := id a2
    refine ok_b (R := fun r => r.1 = 0 ∧ r.2.1 = if flT B.1.2.2.2.2.2.2.1 B.1.2.2.2.2.2.2.2.1 B.1.2.2.2.2.2.2.2.2.1 (B.2.2.2 i) = none then nI 1 else nI 0) ?_ (fun r hr => ?_)
    · refine ok_be (k_needSpell_in hi h4 a1 a2) (ok_t rfl (ok_gs (ok_c a2.1 ?_)))
      rw [b4]
      refine ok_b (k10 hsh b8 (OKT_w a3 h6) (OKT_n a3) (CX_BND hX) tB tl t2 (FN_FV _ _)) (fun o ho => ?_)
      exact ok_c (by rw [ho]; split <;> rfl) (ok_s ⟨rfl, ho⟩)
    · obtain ⟨r1, r2⟩ := hr
      refine ok_t r1 ?_
      rw [ef]
      by_cases c : flT B.1.2.2.2.2.2.2.1 B.1.2.2.2.2.2.2.2.1 B.1.2.2.2.2.2.2.2.2.1 (B.2.2.2 i) = none
      · rw [if_pos c] at r2 ⊢
        exact ok_f (by rw [r2]; decide) (ok_s rfl)
      · rw [if_neg c] at r2 ⊢
        exact ok_t (by rw [r2]; rfl) (ok_s rfl)
  · refine ok_be ((e_gb (k_needSpell_out ho)).trans (if_neg (by decide))) (ok_f (show ¬ (2 : Int32) = 0 by decide) (ok_t rfl (ok_s ?_)))
    unfold f_types
    rw [fx_out (by omega) ho]
theorem kp_fault (hB : BOK LS SE B) : Ok (g_L_fault LS SE B.1.2.1 B.1.2.2.2.2.2.2.2.2.2.2.1 fa so sps B.1.2.2.2.2.2.2.1 B.1.2.2.2.2.2.2.2.1 B.1.2.2.2.2.2.2.2.2.1 iB l h sB sL sH p1) (fun o => o.1 = f_fault B p1) := by
  obtain ⟨h6, h4, e1, e2, hX, hT⟩ := hB
  have hbo := CX_bo hX
  unfold g_L_fault g_X11_fault
  rw [e2]
  rcases idx p1 B.2.2.1 (by omega) with ⟨i, hi, rfl⟩ | ho
  · obtain ⟨⟨a, a1, a2⟩, a3, a4, a5⟩ := hT.1 i hi
    refine ok_b (R := fun r => (flT B.1.2.2.2.2.2.2.1 B.1.2.2.2.2.2.2.2.1 B.1.2.2.2.2.2.2.2.2.1 (B.2.2.2 i) = none → r.1 = 3) ∧ (flT B.1.2.2.2.2.2.2.1 B.1.2.2.2.2.2.2.2.1 B.1.2.2.2.2.2.2.2.2.1 (B.2.2.2 i) ≠ none → r.1 = 0 ∧ r.2.1 = fcode (flT B.1.2.2.2.2.2.2.1 B.1.2.2.2.2.2.2.2.1 B.1.2.2.2.2.2.2.2.2.1 (B.2.2.2 i)))) ?_ (fun r hr => ?_)
    · refine ok_be (k_needSpell_in hi h4 a1 a2) (ok_t rfl (ok_gs (ok_c a2.1 (ok_b (k9x a2 a3 h6 hbo fa so sps iB sB l h sL sH) (fun o ho => ?_)))))
      obtain ⟨z, z1, z2, z3, -⟩ := ho
      have ez : z = flT B.1.2.2.2.2.2.2.1 B.1.2.2.2.2.2.2.2.1 B.1.2.2.2.2.2.2.2.2.1 (B.2.2.2 i) := FN_of z1
      rw [ez] at z2 z3
      by_cases hz : flT B.1.2.2.2.2.2.2.1 B.1.2.2.2.2.2.2.2.1 B.1.2.2.2.2.2.2.2.2.1 (B.2.2.2 i) = none
      · rw [if_pos hz] at z2
        exact ok_f (by rw [z2]; decide) (ok_s ⟨fun _ => rfl, fun y => absurd hz y⟩)
      · rw [if_neg hz] at z2
        exact ok_t z2 (ok_s ⟨fun y => absurd y hz, fun _ => ⟨rfl, z3⟩⟩)
    · have ef : f_fault B (nI i) = match flT B.1.2.2.2.2.2.2.1 B.1.2.2.2.2.2.2.2.1 B.1.2.2.2.2.2.2.2.2.1 (B.2.2.2 i) with
        | none => -14
        | some q => nI q := by unfold f_fault; rw [fx_in hi (by omega)]
      rw [ef]
      cases hz : flT B.1.2.2.2.2.2.2.1 B.1.2.2.2.2.2.2.2.1 B.1.2.2.2.2.2.2.2.2.1 (B.2.2.2 i) with
      | none =>
        have r1 := hr.1 hz
        exact ok_f (by rw [r1]; decide) (ok_f (by rw [r1]; decide) (ok_t r1 (ok_s rfl)))
      | some q =>
        obtain ⟨r1, r2⟩ := hr.2 (by rw [hz]; exact fun z => by cases z)
        rw [hz] at r2
        exact ok_t r1 (ok_s r2)
  · refine ok_be ((e_gb (k_needSpell_out ho)).trans (if_neg (by decide))) (ok_f (show ¬ (2 : Int32) = 0 by decide) (ok_t rfl (ok_s ?_)))
    unfold f_fault
    rw [fx_out (by omega) ho]
theorem kp_token (hB : BOK LS SE B) : Ok (g_L_token LS SE B.1.2.1 B.1.2.2.2.2.2.2.2.2.2.2.1 p1 p2) (fun o => o = f_token B p1 p2) := by
  obtain ⟨h6, h4, e1, e2, hX, hT⟩ := hB
  unfold g_L_token g_X11_token
  rw [e2]
  rcases idx p1 B.2.2.1 (by omega) with ⟨i, hi, rfl⟩ | ho
  · obtain ⟨⟨a, a1, a2⟩, a3, a4, a5⟩ := hT.1 i hi
    have hTT := (OKT_SH a3).1
    obtain ⟨b1, b2, b3, b4, b5, b6, b7, b8⟩ := id a2
    have spell := k_needSpell_in hi h4 a1 a2
    rcases idx p2 (rT (B.2.2.2 i)).1 (by omega) with ⟨q, hq, rfl⟩ | ho2
    · have hF := ((OKT_GS a3).1 q hq).1
      have hch := x_cho (FSk_lt hF)
      refine ok_be ((e_gb spell).trans ((if_pos rfl).trans ((e_goS).trans ((e_gc b1).trans ((if_neg (nI_nlt (b := 0) (Nat.zero_le _) (by omega))).trans ((if_pos (show nI q < (SE a).2.2.1 from by rw [b4]; exact nI_lt hq (by omega))).trans ((e_gc (x_inb (by omega) (by omega))).trans ((e_gl).trans (e_gc (by rw [x_cl (by omega), b7 q hq]; exact hch)))))))))) (ok_t rfl (ok_s ?_))
      unfold f_token
      rw [fx_in hi (by omega)]
      dsimp only
      rw [fx_in hq (by omega), x_cl (by omega), b7 q hq]
    · refine ok_b (R := fun r => r.1 = 3) ?_ (fun r hr => ok_f (by rw [hr]; decide) (ok_f (by rw [hr]; decide) (ok_t hr (ok_s ?_))))
      · refine ok_be spell (ok_t rfl (ok_gs (ok_c b1 ?_)))
        unfold g_X11_token_b18
        by_cases g : p2 < 0
        · exact ok_t g (ok_s rfl)
        · refine ok_f g (ok_f (fun g2 => ?_) (ok_s rfl))
          rw [b4] at g2
          rcases ho2 with y | y
          · exact g y
          · rw [Int32.lt_iff_toInt_lt] at g2
            rw [Int32.le_iff_toInt_le] at y
            omega
      · unfold f_token
        rw [fx_in hi (by omega)]
        dsimp only
        rw [fx_out (by omega) ho2]
  · refine ok_be ((e_gb (k_needSpell_out ho)).trans (if_neg (by decide))) (ok_f (show ¬ (2 : Int32) = 0 by decide) (ok_t rfl (ok_s ?_)))
    unfold f_token
    rw [fx_out (by omega) ho]
theorem kp_spellOf (hB : BOK LS SE B) : Ok (g_L_spellOf LS SE B.1.2.1 B.1.2.2.2.2.2.2.2.2.2.2.1 fa so sps B.1.2.2.2.2.2.2.1 B.1.2.2.2.2.2.2.2.1 B.1.2.2.2.2.2.2.2.2.1 iB l h sB sL sH B.1.2.2.2.2.2.2.2.2.2.2.2 p1 p2) (fun o => o.1 = f_spellOf B p1 p2) := by
  obtain ⟨h6, h4, e1, e2, hX, hT⟩ := hB
  have hbo := CX_bo hX
  unfold g_L_spellOf g_X11_spellOf
  rw [e2]
  rcases idx p1 B.2.2.1 (by omega) with ⟨i, hi, rfl⟩ | ho
  · obtain ⟨⟨a, a1, a2⟩, a3, a4, a5⟩ := hT.1 i hi
    obtain ⟨b1, b2, b3, b4, b5, b6, b7, b8⟩ := id a2
    have spell := k_needSpell_in hi h4 a1 a2
    obtain ⟨F, hF⟩ : ∃ F, F = f_spellOf B (nI i) p2 := ⟨_, rfl⟩
    rw [← hF]
    unfold f_spellOf at hF
    rw [fx_in hi (by omega)] at hF
    dsimp only at hF
    by_cases p0 : p2 = 0
    · rw [if_pos p0] at hF
      exact ok_b (R := fun r => r.1 = 0 ∧ r.2.1 = nI (rT (B.2.2.2 i)).1) (ok_be spell (ok_t rfl (ok_gs (ok_c b1 (ok_t p0 (ok_l (ok_s ⟨rfl, b4⟩))))))) (fun r hr => ok_t hr.1 (ok_s (hr.2.trans hF.symm)))
    rw [if_neg p0] at hF
    by_cases q1 : p2 = 1
    · rw [if_pos q1] at hF
      exact ok_b (R := fun r => r.1 = 0 ∧ r.2.1 = nI (NS (rT (B.2.2.2 i)).2.1 (rT (B.2.2.2 i)).1)) (ok_be spell (ok_t rfl (ok_gs (ok_c b1 (ok_f p0 (ok_t q1 (ok_l (ok_s ⟨rfl, b5⟩)))))))) (fun r hr => ok_t hr.1 (ok_s (hr.2.trans hF.symm)))
    rw [if_neg q1] at hF
    by_cases q2 : p2 = 2
    · rw [if_pos q2] at hF
      exact ok_b (R := fun r => r.1 = 0 ∧ r.2.1 = nI (MS (rT (B.2.2.2 i)).2.1 (rT (B.2.2.2 i)).1)) (ok_be spell (ok_t rfl (ok_gs (ok_c b1 (ok_f p0 (ok_f q1 (ok_t q2 (ok_l (ok_s ⟨rfl, b6⟩))))))))) (fun r hr => ok_t hr.1 (ok_s (hr.2.trans hF.symm)))
    rw [if_neg q2] at hF
    by_cases q3 : p2 = 3
    · rw [if_pos q3] at hF
      refine ok_b (R := fun r => r.1 = 0 ∧ r.2.1 = if flT B.1.2.2.2.2.2.2.1 B.1.2.2.2.2.2.2.2.1 B.1.2.2.2.2.2.2.2.2.1 (B.2.2.2 i) = none then 1 else 0) (ok_be spell (ok_t rfl (ok_gs (ok_c b1 (ok_f p0 (ok_f q1 (ok_f q2 (ok_t q3 (ok_b (k9x a2 a3 h6 hbo fa so sps iB sB l h sL sH) (fun r hr => ?_)))))))))) (fun r hr => ok_t hr.1 (ok_s (hr.2.trans hF.symm)))
      obtain ⟨y, y1, y2, -⟩ := hr
      have ey : y = flT B.1.2.2.2.2.2.2.1 B.1.2.2.2.2.2.2.2.1 B.1.2.2.2.2.2.2.2.2.1 (B.2.2.2 i) := FN_of y1
      rw [ey] at y2
      by_cases hy : flT B.1.2.2.2.2.2.2.1 B.1.2.2.2.2.2.2.2.1 B.1.2.2.2.2.2.2.2.2.1 (B.2.2.2 i) = none
      · rw [if_pos hy] at y2
        exact ok_f (by rw [y2]; decide) (ok_s ⟨rfl, (if_pos hy).symm⟩)
      · rw [if_neg hy] at y2
        exact ok_t y2 (ok_s ⟨rfl, (if_neg hy).symm⟩)
    rw [if_neg q3] at hF
    by_cases q4 : p2 = 4
    · rw [if_pos q4] at hF
      exact ok_b (R := fun r => r.1 = 0 ∧ r.2.1 = B.1.2.2.2.2.2.2.2.2.2.2.2 i) (ok_be spell (ok_t rfl (ok_gs (ok_c b1 (ok_f p0 (ok_f q1 (ok_f q2 (ok_f q3 (ok_t q4 (ok_c (x_inb (by omega) (by omega)) (ok_l (ok_s ⟨rfl, by rw [x_cl (by omega)]⟩)))))))))))) (fun r hr => ok_t hr.1 (ok_s (hr.2.trans hF.symm)))
    rw [if_neg q4] at hF
    exact ok_b (R := fun r => r.1 = 1) (ok_be spell (ok_t rfl (ok_gs (ok_c b1 (ok_f p0 (ok_f q1 (ok_f q2 (ok_f q3 (ok_f q4 (ok_s rfl)))))))))) (fun r hr => ok_f (by rw [hr]; decide) (ok_t hr (ok_s hF.symm)))
  · refine ok_be ((e_gb (k_needSpell_out ho)).trans (if_neg (by decide))) (ok_f (show ¬ (2 : Int32) = 0 by decide) (ok_f (show ¬ (2 : Int32) = 1 by decide) (ok_t rfl (ok_s ?_))))
    unfold f_spellOf
    rw [fx_out (by omega) ho]
theorem kp_of (hB : BOK LS SE B) : Ok (g_L_of LS SE B.1.1 B.1.2.1 B.1.2.2.2.2.2.2.1 B.1.2.2.2.2.2.2.2.1 B.1.2.2.2.2.2.2.2.2.1 B.1.2.2.2.2.1 B.1.2.2.2.2.2.1 B.1.2.2.2.2.2.2.2.2.2.1 B.1.2.2.2.2.2.2.2.2.2.2.1 p1 p2) (fun o => o = f_of B p1 p2) := by
  obtain ⟨h6, h4, e1, e2, hX, hT⟩ := hB
  unfold g_L_of g_X11_cauldronOf
  rw [e1, e2]
  rcases idx p1 B.2.1 (by omega) with ⟨c, hc, rfl⟩ | ho
  · have hc6 : c < 6 := by omega
    obtain ⟨⟨a1, a2, a3, a4⟩, -⟩ := hX c hc6
    have hin : inb (nI c) 6 = true := x_inb hc6 (by omega)
    have hcl : (nI c).toNatClampNeg = c := x_cl (by omega)
    obtain ⟨F, hF⟩ : ∃ F, F = f_of B (nI c) p2 := ⟨_, rfl⟩
    rw [← hF]
    unfold f_of at hF
    rw [fx_in hc (by omega)] at hF
    dsimp only at hF
    have nd := k_needCauldron_in hc h6
    by_cases p0 : p2 = 0
    · rw [if_pos p0] at hF
      refine ok_b (R := fun r => r.1 = 0 ∧ r.2 = B.1.2.2.2.2.2.2.1 c) (ok_be nd (ok_t rfl (ok_t p0 (ok_c hin ?_)))) (fun r hr => ok_t hr.1 (ok_s (hr.2.trans hF.symm)))
      rw [hcl]
      rcases x_bob a1 with z | z
      · have z' : B.1.2.2.2.2.2.2.1 c = 0 := z
        exact ok_t z' (ok_s ⟨rfl, z'.symm⟩)
      · have z' : B.1.2.2.2.2.2.2.1 c = 1 := z
        exact ok_f (by rw [z']; decide) (ok_s ⟨rfl, z'.symm⟩)
    rw [if_neg p0] at hF
    by_cases q1 : p2 = 1
    · rw [if_pos q1] at hF
      exact ok_b (R := fun r => r.1 = 0 ∧ r.2 = B.1.2.2.2.2.2.2.2.1 c) (ok_be nd (ok_t rfl (ok_f p0 (ok_t q1 (ok_c hin (ok_l (ok_s ⟨rfl, by rw [hcl]⟩))))))) (fun r hr => ok_t hr.1 (ok_s (hr.2.trans hF.symm)))
    rw [if_neg q1] at hF
    by_cases q2 : p2 = 2
    · rw [if_pos q2] at hF
      exact ok_b (R := fun r => r.1 = 0 ∧ r.2 = B.1.2.2.2.2.2.2.2.2.1 c) (ok_be nd (ok_t rfl (ok_f p0 (ok_f q1 (ok_t q2 (ok_c hin (ok_l (ok_s ⟨rfl, by rw [hcl]⟩)))))))) (fun r hr => ok_t hr.1 (ok_s (hr.2.trans hF.symm)))
    rw [if_neg q2] at hF
    by_cases q3 : p2 = 3
    · rw [if_pos q3] at hF
      exact ok_b (R := fun r => r.1 = 0 ∧ r.2 = if B.1.2.2.2.2.2.2.1 c = 0 then B.1.2.2.2.2.1 c else FP.f2i (B.1.2.2.2.2.2.1 c)) (ok_be nd (ok_t rfl (ok_f p0 (ok_f q1 (ok_f q2 (ok_t q3 (ok_be (k_X0_cutContent hc6) (ok_s ⟨rfl, rfl⟩)))))))) (fun r hr => ok_t hr.1 (ok_s (hr.2.trans hF.symm)))
    rw [if_neg q3] at hF
    by_cases q4 : p2 = 4
    · rw [if_pos q4] at hF
      exact ok_b (R := fun r => r.1 = 0 ∧ r.2 = B.1.2.2.2.2.2.2.2.2.2.1 c) (ok_be nd (ok_t rfl (ok_f p0 (ok_f q1 (ok_f q2 (ok_f q3 (ok_t q4 (ok_c hin (ok_l (ok_s ⟨rfl, by rw [hcl]⟩)))))))))) (fun r hr => ok_t hr.1 (ok_s (hr.2.trans hF.symm)))
    rw [if_neg q4] at hF
    by_cases q5 : p2 = 5
    · rw [if_pos q5] at hF
      exact ok_b (R := fun r => r.1 = 0 ∧ r.2 = nI (CH 0 c B.2.2.2 B.2.2.1)) (ok_be nd (ok_t rfl (ok_f p0 (ok_f q1 (ok_f q2 (ok_f q3 (ok_f q4 (ok_t q5 (ok_be (show g_X0_spellsThat LS SE (nI B.2.2.1) B.1.2.2.2.2.2.2.2.2.2.2.1 (0 : Int32) (nI c) = _ from k_spellsThat (j := 0) h6 h4 (Or.inl rfl) hc6 hT) (ok_s ⟨rfl, rfl⟩)))))))))) (fun r hr => ok_t hr.1 (ok_s (hr.2.trans hF.symm)))
    rw [if_neg q5] at hF
    by_cases q6 : p2 = 6
    · rw [if_pos q6] at hF
      exact ok_b (R := fun r => r.1 = 0 ∧ r.2 = nI (CH 7 c B.2.2.2 B.2.2.1)) (ok_be nd (ok_t rfl (ok_f p0 (ok_f q1 (ok_f q2 (ok_f q3 (ok_f q4 (ok_f q5 (ok_t q6 (ok_be (show g_X0_spellsThat LS SE (nI B.2.2.1) B.1.2.2.2.2.2.2.2.2.2.2.1 (7 : Int32) (nI c) = _ from k_spellsThat (j := 7) h6 h4 (Or.inr rfl) hc6 hT) (ok_s ⟨rfl, rfl⟩))))))))))) (fun r hr => ok_t hr.1 (ok_s (hr.2.trans hF.symm)))
    rw [if_neg q6] at hF
    exact ok_b (R := fun r => r.1 = 1) (ok_be nd (ok_t rfl (ok_f p0 (ok_f q1 (ok_f q2 (ok_f q3 (ok_f q4 (ok_f q5 (ok_f q6 (ok_s rfl)))))))))) (fun r hr => ok_f (by rw [hr]; decide) (ok_t hr (ok_s hF.symm)))
  · refine ok_be ((e_gb (k_needCauldron_out ho)).trans (if_neg (by decide))) (ok_f (show ¬ (2 : Int32) = 0 by decide) (ok_f (show ¬ (2 : Int32) = 1 by decide) (ok_t rfl (ok_s ?_))))
    unfold f_of
    rw [fx_out (by omega) ho]
end KP1
