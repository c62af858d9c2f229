/-! THE CALLS that ask for a spell: types, in both ways, fault, token, what there is of it -/
section SPELLQ
variable {LS : List Nat} {SE : Nat → SV} {b : BK} {s nu sg jB kB : Nat → Int32} {f : Nat → UInt32} {n4 : Nat} {th tk sp ms fa so sps so' p1 p2 p3 : Int32} {iB sB : Nat → Int32} {l h sL sH l' h' sL' sH' : Nat → Int64} {ans : Nat → Int64}
theorem OKT_n {nc : Nat} {x : TX} (h : OKT nc x) : ∀ p, p < (rT x).1 → (rT x).2.1 p = 1 → (rT x).2.2.1 p ≤ 99 := fun p hp e => by
  have h1 := ((OKT_GS h).1 p hp).1
  rw [e] at h1
  unfold FSk at h1
  omega
theorem fcode_0 {T : Nat} {q : Nat} (hq : q < T) (hT : T ≤ 24) : 0 ≤ fcode (some q) := nI_le (a := 0) (b := q) (Nat.zero_le _) (by omega)
theorem FV_lt {α : Type} {op : Nat → (Nat → Option α) → Option α} {T q : Nat} (h : FV op T (some q)) : q < T := h.1
theorem op_types (hB : BR LS SE b s f) (hn : 0 < n4) (hn9 : n4 < 2147483648) : Ok (g_L_types LS SE n4 ans b.2.1 b.2.2.2.2.2.2.2.2.2.2.1 fa so sps b.2.2.2.2.2.2.1 b.2.2.2.2.2.2.2.1 b.2.2.2.2.2.2.2.2.1 iB l h sB sL sH p1) (fun o => Ok (g_X12_types th tk sp ms so' s nu sg l' h' jB sL' sH' kB p1) (fun o' => AN ans o.1 o.2.1 o'.1 o'.2.1)) := by
  have hgc : inb 0 n4 = true := decide_eq_true ⟨by decide, by show (0 : Int) < n4; omega⟩
  obtain ⟨nc, ns, X, h6, h4, e1, e2, h0, h1, -, -, hX, hS, hT⟩ := hB
  have hbo := CX_bo hX
  unfold g_L_types g_X11_types g_X12_types
  rw [e2]
  rcases idx p1 ns (by omega) with ⟨i, hi, rfl⟩ | ho
  · obtain ⟨⟨a, a1, a2⟩, a3, a4, a5⟩ := hT.1 i hi
    have hsh := OKT_SH a3
    refine ok_b (R := fun r => ∃ z, FV (tyP b.2.2.2.2.2.2.1 b.2.2.2.2.2.2.2.1 b.2.2.2.2.2.2.2.2.1 (rT (X i)).2.1 (rT (X i)).2.2.1) (rT (X i)).1 z ∧ r.1 = 0 ∧ r.2.1 = if z = none then nI 1 else nI 0) ?_ (fun r hr => ?_)
    · refine ok_be (k_needSpell_in hi h4 a1 a2) (ok_t rfl (ok_gs (ok_c a2.1 (ok_b (k9x a2 a3 h6 hbo fa so sps iB sB l h sL sH) (fun o ho => ?_)))))
      obtain ⟨z, z1, z2, -⟩ := ho
      refine ok_c ?_ (ok_s ⟨z, z1, rfl, z2⟩)
      rw [z2]; split <;> rfl
    · obtain ⟨z, z1, z2, z3⟩ := hr
      have ref : Ok (gb (g_X12_isSpell s (nI i)) fun r1 => if r1 = 0 then g_X12_types_b14 tk sp ms so' s nu sg l' h' jB sL' sH' kB (nI i) 1 else g_X12_types_b14 tk sp ms so' s nu sg l' h' jB sL' sH' kB (nI i) 0) (fun o' => o'.1 = (if z = none then 1 else 0) ∧ o'.2.1 = 0) := by
        refine ok_be (k_X12_isSpell_in h1 hi h4) (ok_f (by decide) ?_)
        unfold g_X12_types_b14
        refine ok_t rfl (ok_b (k_X12_faultOf (by omega) a3 a4 hbo (CS_SB hS) tk sp ms so' nu sg jB kB l' h' sL' sH') (fun u hu => ?_))
        obtain ⟨y, y1, y2, -⟩ := hu
        have e := FV_one y1 z1
        subst e
        rw [y2]
        cases y with
        | none => exact ok_f (by decide) (ok_s ⟨rfl, rfl⟩)
        | some q => exact ok_t (fcode_0 (FV_lt z1) hsh.1) (ok_s ⟨rfl, rfl⟩)
      refine ok_t z2 ?_
      cases z with
      | none =>
        rw [if_pos rfl] at z3
        refine ok_f (by rw [z3]; decide) ?_
        unfold g_L_types_b15
        exact ok_c hgc (ok_s (ok_m ref (fun o' ho => AN_y (v := 1) ho.1 ho.2)))
      | some q =>
        rw [if_neg (by simp)] at z3
        refine ok_t (by rw [z3]; rfl) ?_
        unfold g_L_types_b15
        exact ok_c hgc (ok_s (ok_m ref (fun o' ho => AN_y (v := 0) ho.1 ho.2)))
  · refine ok_be ((e_gb (k_needSpell_out ho)).trans (if_neg (by decide))) (ok_f (show ¬ (2 : Int32) = 0 by decide) (ok_t rfl (ok_s ?_)))
    refine ok_be (k_X12_isSpell_out h1 ho h4) (ok_t rfl ?_)
    unfold g_X12_types_b14
    exact ok_f (by decide) (ok_s (AN_n rfl rfl))
theorem op_typesAgain {tB : Nat → Int32} {tl t2 : Nat → Int64} (hB : BR LS SE b s f) (hn : 0 < n4) (hn9 : n4 < 2147483648) : Ok (g_L_typesAgain LS SE n4 ans b.2.1 b.2.2.2.2.2.2.2.2.2.2.1 tB tl t2 b.2.2.2.2.2.2.1 b.2.2.2.2.2.2.2.1 b.2.2.2.2.2.2.2.2.1 p1) (fun o => Ok (g_X12_typesAgain th tk sp ms so' s nu sg l' h' jB sL' sH' kB p1) (fun o' => AN ans o.1 o.2.1 o'.1 o'.2.1)) := by
  have hgc : inb 0 n4 = true := decide_eq_true ⟨by decide, by show (0 : Int) < n4; omega⟩
  obtain ⟨nc, ns, X, h6, h4, e1, e2, h0, h1, -, -, hX, hS, hT⟩ := hB
  have hbo := CX_bo hX
  unfold g_L_typesAgain g_X11_typesAgain g_X12_typesAgain g_X12_types
  rw [e2]
  rcases idx p1 ns (by omega) with ⟨i, hi, rfl⟩ | ho
  · obtain ⟨⟨a, a1, a2⟩, a3, a4, a5⟩ := hT.1 i hi
    have hsh := OKT_SH a3
    have hTT := hsh.1
    obtain ⟨z, z1⟩ := FV_has (tyP b.2.2.2.2.2.2.1 b.2.2.2.2.2.2.2.1 b.2.2.2.2.2.2.2.2.1 (rT (X i)).2.1 (rT (X i)).2.2.1) (rT (X i)).1
    obtain ⟨b1, b2, b3, b4, b5, b6, b7, b8⟩ := id a2
    refine ok_b (R := fun r => r.1 = 0 ∧ r.2.1 = if z = none then nI 1 else nI 0) ?_ (fun r hr => ?_)
    · refine ok_be (k_needSpell_in hi h4 a1 a2) (ok_t rfl (ok_gs (ok_c a2.1 ?_)))
      rw [b4]
      refine ok_b (k10 hsh b8 (OKT_w a3 h6) (OKT_n a3) (CX_BND hX) tB tl t2 z1) (fun o ho => ?_)
      refine ok_c ?_ (ok_s ⟨rfl, ho⟩)
      rw [ho]; split <;> rfl
    · obtain ⟨z2, z3⟩ := hr
      have ref : Ok (gb (gb (g_X12_isSpell s (nI i)) fun r1 => if r1 = 0 then g_X12_types_b14 tk sp ms so' s nu sg l' h' jB sL' sH' kB (nI i) 1 else g_X12_types_b14 tk sp ms so' s nu sg l' h' jB sL' sH' kB (nI i) 0) fun r1 => gc (bo r1.1) <| some (r1.1, r1.2.1, r1.2.2.1, r1.2.2.2.1, r1.2.2.2.2.1, r1.2.2.2.2.2.1, r1.2.2.2.2.2.2.1, r1.2.2.2.2.2.2.2.1, r1.2.2.2.2.2.2.2.2.1, r1.2.2.2.2.2.2.2.2.2.1, r1.2.2.2.2.2.2.2.2.2.2.1, r1.2.2.2.2.2.2.2.2.2.2.2.1, r1.2.2.2.2.2.2.2.2.2.2.2.2.1, r1.2.2.2.2.2.2.2.2.2.2.2.2.2)) (fun o' => o'.1 = (if z = none then 1 else 0) ∧ o'.2.1 = 0) := by
        refine ok_b (R := fun o' => o'.1 = (if z = none then 1 else 0) ∧ o'.2.1 = 0) ?_ (fun o' ho => ok_c (by rw [ho.1]; split <;> rfl) (ok_s ho))
        refine ok_be (k_X12_isSpell_in h1 hi h4) (ok_f (by decide) ?_)
        unfold g_X12_types_b14
        refine ok_t rfl (ok_b (k_X12_faultOf (by omega) a3 a4 hbo (CS_SB hS) tk sp ms so' nu sg jB kB l' h' sL' sH') (fun u hu => ?_))
        obtain ⟨y, y1, y2, -⟩ := hu
        have e := FV_one y1 z1
        subst e
        rw [y2]
        cases y with
        | none => exact ok_f (by decide) (ok_s ⟨rfl, rfl⟩)
        | some q => exact ok_t (fcode_0 (FV_lt y1) hTT) (ok_s ⟨rfl, rfl⟩)
      refine ok_t z2 ?_
      cases z with
      | none =>
        rw [if_pos rfl] at z3
        refine ok_f (by rw [z3]; decide) ?_
        unfold g_L_typesAgain_b15
        exact ok_c hgc (ok_s (ok_m ref (fun o' ho => AN_y (v := 1) ho.1 ho.2)))
      | some q =>
        rw [if_neg (by simp)] at z3
        refine ok_t (by rw [z3]; rfl) ?_
        unfold g_L_typesAgain_b15
        exact ok_c hgc (ok_s (ok_m ref (fun o' ho => AN_y (v := 0) ho.1 ho.2)))
  · refine ok_be ((e_gb (k_needSpell_out ho)).trans (if_neg (by decide))) (ok_f (show ¬ (2 : Int32) = 0 by decide) (ok_t rfl (ok_s ?_)))
    refine ok_be ((e_gb (k_X12_isSpell_out h1 ho h4)).trans (if_pos rfl)) ?_
    exact ok_c rfl (ok_s (AN_n rfl rfl))
theorem op_fault (hB : BR LS SE b s f) (hn : 0 < n4) (hn9 : n4 < 2147483648) : Ok (g_L_fault LS SE n4 ans b.2.1 b.2.2.2.2.2.2.2.2.2.2.1 fa so sps b.2.2.2.2.2.2.1 b.2.2.2.2.2.2.2.1 b.2.2.2.2.2.2.2.2.1 iB l h sB sL sH p1) (fun o => Ok (g_X12_fault th tk sp ms so' s nu sg l' h' jB sL' sH' kB p1) (fun o' => AN ans o.1 o.2.1 o'.1 o'.2.1)) := by
  have hgc : inb 0 n4 = true := decide_eq_true ⟨by decide, by show (0 : Int) < n4; omega⟩
  obtain ⟨nc, ns, X, h6, h4, e1, e2, h0, h1, -, -, hX, hS, hT⟩ := hB
  have hbo := CX_bo hX
  unfold g_L_fault g_X11_fault g_X12_fault
  rw [e2]
  rcases idx p1 ns (by omega) with ⟨i, hi, rfl⟩ | ho
  · obtain ⟨⟨a, a1, a2⟩, a3, a4, a5⟩ := hT.1 i hi
    have hsh := OKT_SH a3
    refine ok_b (R := fun r => ∃ z, FV (tyP b.2.2.2.2.2.2.1 b.2.2.2.2.2.2.2.1 b.2.2.2.2.2.2.2.2.1 (rT (X i)).2.1 (rT (X i)).2.2.1) (rT (X i)).1 z ∧ (z = none → r.1 = 3) ∧ (z ≠ none → r.1 = 0 ∧ r.2.1 = fcode z)) ?_ (fun r hr => ?_)
    · refine ok_be (k_needSpell_in hi h4 a1 a2) (ok_t rfl (ok_gs (ok_c a2.1 (ok_b (k9x a2 a3 h6 hbo fa so sps iB sB l h sL sH) (fun o ho => ?_)))))
      obtain ⟨z, z1, z2, z3, -⟩ := ho
      by_cases hz : z = none
      · rw [if_pos hz] at z2
        exact ok_f (by rw [z2]; decide) (ok_s ⟨z, z1, fun _ => rfl, fun y => absurd hz y⟩)
      · rw [if_neg hz] at z2
        exact ok_t z2 (ok_s ⟨z, z1, fun y => absurd y hz, fun _ => ⟨rfl, z3⟩⟩)
    · obtain ⟨z, z1, z2, z3⟩ := hr
      have ref : Ok (gb (g_X12_faultOf tk sp ms so' s nu sg l' h' jB sL' sH' kB (nI i)) fun r2 => if 0 ≤ r2.1 then g_X12_fault_b30 r2.2.2.2.2.2.2.2.2.1 r2.2.2.2.2.2.2.2.2.2.2.2.1 r2.2.2.2.2.2.2.2.2.2.1 r2.2.2.2.2.2.2.2.2.2.2.2.2 r2.2.2.2.2.2.2.2.1 r2.2.2.2.2.2.2.2.2.2.2.1 r2.2.2.2.2.2.1 r2.2.2.2.2.2.2.1 r2.2.1 r2.2.2.1 r2.2.2.2.1 r2.2.2.2.2.1 r2.1 0 else g_X12_fault_b30 r2.2.2.2.2.2.2.2.2.1 r2.2.2.2.2.2.2.2.2.2.2.2.1 r2.2.2.2.2.2.2.2.2.2.1 r2.2.2.2.2.2.2.2.2.2.2.2.2 r2.2.2.2.2.2.2.2.1 r2.2.2.2.2.2.2.2.2.2.2.1 r2.2.2.2.2.2.1 r2.2.2.2.2.2.2.1 r2.2.1 r2.2.2.1 r2.2.2.2.1 r2.2.2.2.2.1 r2.1 2) (fun o' => (z = none → o'.2.1 = 2) ∧ (z ≠ none → o'.1 = fcode z ∧ o'.2.1 = 0)) := by
        refine ok_b (k_X12_faultOf (by omega) a3 a4 hbo (CS_SB hS) tk sp ms so' nu sg jB kB l' h' sL' sH') (fun u hu => ?_)
        obtain ⟨y, y1, y2, -⟩ := hu
        have e := FV_one y1 z1
        subst e
        rw [y2]
        unfold g_X12_fault_b30
        cases y with
        | none => exact ok_f (by decide) (ok_f (by decide) (ok_s ⟨fun _ => rfl, fun y => absurd rfl y⟩))
        | some q => exact ok_t (fcode_0 (FV_lt y1) hsh.1) (ok_t (by decide) (ok_s ⟨fun y => (by cases y), fun _ => ⟨rfl, rfl⟩⟩))
      by_cases hz : z = none
      · have hr1 := z2 hz
        refine ok_f (by rw [hr1]; decide) (ok_f (by rw [hr1]; decide) (ok_t hr1 (ok_s ?_)))
        exact ok_be (k_X12_isSpell_in h1 hi h4) (ok_f (by decide) (ok_m ref (fun o' ho => AN_n rfl (ho.1 hz))))
      · obtain ⟨hr1, hr2⟩ := z3 hz
        refine ok_t hr1 (ok_c hgc (ok_s ?_))
        exact ok_be (k_X12_isSpell_in h1 hi h4) (ok_f (by decide) (ok_m ref (fun o' ho => by
          rw [hr2]
          exact AN_y (ho.2 hz).1 (ho.2 hz).2)))
  · refine ok_be ((e_gb (k_needSpell_out ho)).trans (if_neg (by decide))) (ok_f (show ¬ (2 : Int32) = 0 by decide) (ok_t rfl (ok_s ?_)))
    exact ok_be (k_X12_isSpell_out h1 ho h4) (ok_t rfl (ok_be (show g_X12_fails th 1 = some (0, 1) from rfl) (ok_s (AN_n rfl rfl))))
end SPELLQ
