/-! THE CALLS that ask for a spell: a token, what there is of it; how many type, and their share -/
section SPELLQ3
variable {LS : List Nat} {SE : Nat → SV} {b : BK} {s nu sg jB kB : Nat → Int32} {f : Nat → UInt32} {n4 : Nat} {th tk sp ms fa so sps so' p1 p2 p3 : Int32} {iB sB : Nat → Int32} {l h sL sH l' h' sL' sH' : Nat → Int64} {ans : Nat → Int64} {ansD : Nat → UInt64}
theorem FSk_lt {k w f : Nat} (h : FSk k w f) : f < 65536 := by
  unfold FSk at h
  omega
theorem op_token (hB : BR LS SE b s f) (hn : 0 < n4) (hn9 : n4 < 2147483648) : Ok (g_L_token LS SE n4 ans b.2.1 b.2.2.2.2.2.2.2.2.2.2.1 p1 p2) (fun o => Ok (g_X12_token th tk sp ms s nu sg p1 p2) (fun o' => AN ans o.1 o.2 o'.1 o'.2.1)) := by
  have hgc : inb 0 n4 = true := decide_eq_true ⟨by decide, by show (0 : Int) < n4; omega⟩
  obtain ⟨nc, ns, X, h6, h4, e1, e2, h0, h1, -, -, hX, hS, hT⟩ := hB
  unfold g_L_token g_X11_token g_X12_token
  rw [e2]
  rcases idx p1 ns (by omega) with ⟨i, hi, rfl⟩ | ho
  · obtain ⟨⟨a, a1, a2⟩, a3, a4, a5⟩ := hT.1 i hi
    have hsh := OKT_SH a3
    have hTT := hsh.1
    obtain ⟨b1, b2, b3, b4, b5, b6, b7, b8⟩ := id a2
    have spell := k_needSpell_in hi h4 a1 a2
    have isS := k_X12_isSpell_in h1 hi h4
    have tells := k_X12_tells (show i < 4 by omega) a3 a4 tk sp ms nu sg
    rcases idx p2 (rT (X i)).1 (by omega) with ⟨q, hq, rfl⟩ | ho2
    · have hF := ((OKT_GS a3).1 q hq).1
      have hch := x_cho (FSk_lt hF)
      refine ok_be ((e_gb spell).trans ((if_pos rfl).trans ((e_goS).trans ((e_gc b1).trans ((if_neg (nI_nlt (b := 0) (Nat.zero_le _) (by omega))).trans ((if_pos (show nI q < (SE a).2.2.1 from by rw [b4]; exact nI_lt hq (by omega))).trans ((e_gc (x_inb (by omega) (by omega))).trans ((e_gl).trans (e_gc (by rw [x_cl (by omega), b7 q hq]; exact hch)))))))))) (ok_t rfl (ok_c hgc (ok_s ?_)))
      refine ok_be isS (ok_f (by decide) ?_)
      unfold g_X12_token_b14
      refine ok_t (by decide) (ok_b tells (fun o ho => ?_))
      obtain ⟨t1, t2, t3⟩ := ho
      refine ok_be (by rw [t1, k_in_idx (by omega), if_pos (by rw [nI_toInt (by omega)]; omega)]) (ok_f (by decide) ?_)
      unfold g_X12_token_b54
      refine ok_t (by decide) (ok_c (x_inb (by omega) (by omega)) (ok_l (ok_c (by rw [x_cl (by omega), (t3 q hq).1]; exact hch) (ok_s (AN_y ?_ rfl)))))
      rw [x_cl (by omega), (t3 q hq).1, b7 q hq]
    · refine ok_b (R := fun r => r.1 = 3) ?_ (fun r hr => ok_f (by rw [hr]; decide) (ok_f (by rw [hr]; decide) (ok_t hr (ok_s ?_))))
      · refine ok_be spell (ok_t rfl (ok_gs (ok_c b1 ?_)))
        unfold g_X11_token_b18
        by_cases g : p2 < 0
        · exact ok_t g (ok_s rfl)
        · refine ok_f g (ok_f (fun g2 => ?_) (ok_s rfl))
          rw [b4] at g2
          rcases ho2 with y | y
          · exact g y
          · rw [Int32.lt_iff_toInt_lt] at g2
            rw [Int32.le_iff_toInt_le] at y
            omega
      · refine ok_be isS (ok_f (by decide) ?_)
        unfold g_X12_token_b14
        refine ok_t (by decide) (ok_b tells (fun o ho => ?_))
        obtain ⟨t1, t2, t3⟩ := ho
        refine ok_be (by rw [t1, k_in_idx (by omega), if_neg (out_to (by omega) ho2)]) (ok_t rfl ?_)
        unfold g_X12_token_b54
        exact ok_f (by decide) (ok_s (AN_n rfl rfl))
  · refine ok_be ((e_gb (k_needSpell_out ho)).trans (if_neg (by decide))) (ok_f (show ¬ (2 : Int32) = 0 by decide) (ok_t rfl (ok_s ?_)))
    refine ok_be (k_X12_isSpell_out h1 ho h4) (ok_t rfl ?_)
    unfold g_X12_token_b14
    exact ok_f (by decide) (ok_s (AN_n rfl rfl))
theorem k_in_4 (n : Nat) (h : p2 = nI n) (hn : n ≤ 4) : g_X12_in p2.toInt64 0 4 = some 1 := by
  subst h
  have := k_in_n (p2 := nI n) (n := 4) (by omega)
  rw [if_pos (by rw [nI_toInt (by omega)]; omega)] at this
  exact this
theorem op_spellOf (hB : BR LS SE b s f) (hn : 0 < n4) (hn9 : n4 < 2147483648) : Ok (g_L_spellOf LS SE n4 ans b.2.1 b.2.2.2.2.2.2.2.2.2.2.1 fa so sps b.2.2.2.2.2.2.1 b.2.2.2.2.2.2.2.1 b.2.2.2.2.2.2.2.2.1 iB l h sB sL sH b.2.2.2.2.2.2.2.2.2.2.2 p1 p2) (fun o => Ok (g_X12_spellOf th tk sp ms so' s nu sg l' h' jB sL' sH' kB p1 p2) (fun o' => AN ans o.1 o.2.1 o'.1 o'.2.1)) := by
  have hgc : inb 0 n4 = true := decide_eq_true ⟨by decide, by show (0 : Int) < n4; omega⟩
  obtain ⟨nc, ns, X, h6, h4, e1, e2, h0, h1, -, -, hX, hS, hT⟩ := hB
  have hbo := CX_bo hX
  unfold g_L_spellOf g_X11_spellOf
  rw [e2]
  rcases idx p1 ns (by omega) with ⟨i, hi, rfl⟩ | ho
  · obtain ⟨⟨a, a1, a2⟩, a3, a4, a5⟩ := hT.1 i hi
    have hsh := OKT_SH a3
    have hTT := hsh.1
    obtain ⟨b1, b2, b3, b4, b5, b6, b7, b8⟩ := id a2
    have spell := k_needSpell_in hi h4 a1 a2
    have isS := k_X12_isSpell_in h1 hi h4
    have stores := k_storesOf (show i < 4 by omega) a3 a4 tk sp ms nu sg
    have yes : ∀ {v : Int32} {p : Int32} {n : Nat} {m : Option (Int32 × Int32 × Int32 × Int32 × Int32 × (Nat → Int32) × (Nat → Int64) × (Nat → Int64) × (Nat → Int32) × (Nat → Int64) × (Nat → Int64))}, p = nI n → n ≤ 4 → Ok m (fun r => r.1 = 0 ∧ r.2.1 = v) → Ok (g_X12_spellOf_b30 tk sp ms so' s nu sg l' h' jB sL' sH' kB (nI i) p 0) (fun o' => o'.1 = v ∧ o'.2.1 = 0) → Ok (gb m fun r1 => if r1.1 = 0 then gc (inb (0 : Int32) n4) <| some ((0 : Int32), (vp_updL ans (0 : Int32).toNatClampNeg r1.2.1.toInt64), r1.2.2.1, r1.2.2.2.1, r1.2.2.2.2.1, r1.2.2.2.2.2.1, r1.2.2.2.2.2.2.1, r1.2.2.2.2.2.2.2.1, r1.2.2.2.2.2.2.2.2.1, r1.2.2.2.2.2.2.2.2.2.1, r1.2.2.2.2.2.2.2.2.2.2) else if r1.1 = 1 then some (2, ans, r1.2.2.1, r1.2.2.2.1, r1.2.2.2.2.1, r1.2.2.2.2.2.1, r1.2.2.2.2.2.2.1, r1.2.2.2.2.2.2.2.1, r1.2.2.2.2.2.2.2.2.1, r1.2.2.2.2.2.2.2.2.2.1, r1.2.2.2.2.2.2.2.2.2.2) else if r1.1 = 2 then some (1, ans, r1.2.2.1, r1.2.2.2.1, r1.2.2.2.2.1, r1.2.2.2.2.2.1, r1.2.2.2.2.2.2.1, r1.2.2.2.2.2.2.2.1, r1.2.2.2.2.2.2.2.2.1, r1.2.2.2.2.2.2.2.2.2.1, r1.2.2.2.2.2.2.2.2.2.2) else none) (fun o => Ok (g_X12_spellOf th tk sp ms so' s nu sg l' h' jB sL' sH' kB (nI i) p) (fun o' => AN ans o.1 o.2.1 o'.1 o'.2.1)) := by
      intro v p n m hp hn' hm hr
      refine ok_b hm (fun r hr1 => ?_)
      refine ok_t hr1.1 (ok_c hgc (ok_s ?_))
      unfold g_X12_spellOf
      refine ok_be isS (ok_f (by decide) (ok_be (k_in_4 n hp hn') (ok_f (by decide) (ok_m hr (fun o' ho => ?_)))))
      rw [hr1.2]
      exact AN_y ho.1 ho.2
    by_cases p0 : p2 = 0
    · refine yes (v := nI (rT (X i)).1) (n := 0) p0 (by omega) (ok_be spell (ok_t rfl (ok_gs (ok_c b1 (ok_t p0 (ok_l (ok_s ⟨rfl, b4⟩))))))) ?_
      unfold g_X12_spellOf_b30
      exact ok_t (by decide) (ok_b stores (fun o ho => ok_t p0 (ok_s ⟨ho.2.1, rfl⟩)))
    by_cases q1 : p2 = 1
    · refine yes (v := nI (NS (rT (X i)).2.1 (rT (X i)).1)) (n := 1) q1 (by omega) (ok_be spell (ok_t rfl (ok_gs (ok_c b1 (ok_f p0 (ok_t q1 (ok_l (ok_s ⟨rfl, b5⟩)))))))) ?_
      unfold g_X12_spellOf_b30
      exact ok_t (by decide) (ok_b stores (fun o ho => ok_f p0 (ok_t q1 (ok_s ⟨ho.1, rfl⟩))))
    by_cases q2 : p2 = 2
    · refine yes (v := nI (MS (rT (X i)).2.1 (rT (X i)).1)) (n := 2) q2 (by omega) (ok_be spell (ok_t rfl (ok_gs (ok_c b1 (ok_f p0 (ok_f q1 (ok_t q2 (ok_l (ok_s ⟨rfl, b6⟩))))))))) ?_
      unfold g_X12_spellOf_b30
      exact ok_t (by decide) (ok_b stores (fun o ho => ok_f p0 (ok_f q1 (ok_t q2 (ok_s ⟨ho.2.2.1, rfl⟩)))))
    by_cases q3 : p2 = 3
    · obtain ⟨z, z1⟩ := FV_has (tyP b.2.2.2.2.2.2.1 b.2.2.2.2.2.2.2.1 b.2.2.2.2.2.2.2.2.1 (rT (X i)).2.1 (rT (X i)).2.2.1) (rT (X i)).1
      refine yes (v := if z = none then 1 else 0) (n := 3) q3 (by omega) (ok_be spell (ok_t rfl (ok_gs (ok_c b1 (ok_f p0 (ok_f q1 (ok_f q2 (ok_t q3 (ok_b (k9x a2 a3 h6 hbo fa so sps iB sB l h sL sH) (fun r hr => ?_)))))))))) ?_
      · obtain ⟨y, y1, y2, -⟩ := hr
        have e := FV_one y1 z1
        subst e
        by_cases hy : y = none
        · rw [if_pos hy] at y2
          exact ok_f (by rw [y2]; decide) (ok_s ⟨rfl, (if_pos hy).symm⟩)
        · rw [if_neg hy] at y2
          exact ok_t y2 (ok_s ⟨rfl, (if_neg hy).symm⟩)
      · unfold g_X12_spellOf_b30
        refine ok_t (by decide) (ok_b stores (fun o ho => ok_f p0 (ok_f q1 (ok_f q2 (ok_t q3 (ok_b (k_X12_faultOf (show i < 4 by omega) a3 a4 hbo (CS_SB hS) _ _ _ _ _ _ _ _ _ _ _ _) (fun u hu => ?_)))))))
        obtain ⟨y, y1, y2, -⟩ := hu
        have e := FV_one y1 z1
        subst e
        rw [y2]
        cases y with
        | none => exact ok_f (by decide) (ok_s ⟨rfl, rfl⟩)
        | some q => exact ok_t (fcode_0 (FV_lt y1) hTT) (ok_s ⟨rfl, rfl⟩)
    by_cases q4 : p2 = 4
    · refine yes (v := b.2.2.2.2.2.2.2.2.2.2.2 i) (n := 4) q4 (by omega) (ok_be spell (ok_t rfl (ok_gs (ok_c b1 (ok_f p0 (ok_f q1 (ok_f q2 (ok_f q3 (ok_t q4 (ok_c (x_inb (by omega) (by omega)) (ok_l (ok_s ⟨rfl, by rw [x_cl (by omega)]⟩)))))))))))) ?_
      unfold g_X12_spellOf_b30
      have e1 : (34 + (62 * nI i) : Int32) = nI (34 + 62 * i) := by rw [c_34, c_62, pk_mul, nI_add]
      refine ok_t (by decide) (ok_b stores (fun o ho => ok_f p0 (ok_f q1 (ok_f q2 (ok_f q3 (ok_c (by rw [e1]; exact x_inb (by omega) (by omega)) (ok_l (ok_s ⟨?_, rfl⟩))))))))
      rw [e1, x_cl (by omega)]
      exact a5
    · refine ok_b (R := fun r => r.1 = 1) (ok_be spell (ok_t rfl (ok_gs (ok_c b1 (ok_f p0 (ok_f q1 (ok_f q2 (ok_f q3 (ok_f q4 (ok_s rfl)))))))))) (fun r hr => ok_f (by rw [hr]; decide) (ok_t hr (ok_s ?_)))
      have hi : g_X12_in p2.toInt64 0 4 = some 0 := by
        refine (k_in_n (n := 4) (by omega)).trans (congrArg some (if_neg (fun z => ?_)))
        have ht : p2 = nI p2.toInt.toNat := toI_of (by omega) (by omega)
        have : p2.toInt.toNat = 0 ∨ p2.toInt.toNat = 1 ∨ p2.toInt.toNat = 2 ∨ p2.toInt.toNat = 3 ∨ p2.toInt.toNat = 4 := by omega
        rcases this with e | e | e | e | e <;> rw [e] at ht
        · exact p0 ht
        · exact q1 ht
        · exact q2 ht
        · exact q3 ht
        · exact q4 ht
      unfold g_X12_spellOf
      refine ok_be isS (ok_f (by decide) (ok_be hi (ok_t rfl ?_)))
      unfold g_X12_spellOf_b30
      exact ok_f (by decide) (ok_s (AN_n rfl rfl))
  · refine ok_be ((e_gb (k_needSpell_out ho)).trans (if_neg (by decide))) (ok_f (show ¬ (2 : Int32) = 0 by decide) (ok_f (show ¬ (2 : Int32) = 1 by decide) (ok_t rfl (ok_s ?_))))
    unfold g_X12_spellOf
    refine ok_be (k_X12_isSpell_out h1 ho h4) (ok_t rfl ?_)
    unfold g_X12_spellOf_b30
    exact ok_f (by decide) (ok_s (AN_n rfl rfl))
theorem op_typed (hB : BR LS SE b s f) : Ok (g_X11_typed LS SE b.2.1 b.2.2.2.2.2.2.2.2.2.2.1 fa so sps b.2.2.2.2.2.2.1 b.2.2.2.2.2.2.2.1 b.2.2.2.2.2.2.2.2.1 iB l h sB sL sH) (fun o => Ok (g_X12_typed th tk sp ms so' s nu sg l' h' jB sL' sH' kB) (fun o' => o.1 = o'.1)) := by
  obtain ⟨nc, ns, X, h6, h4, e1, e2, h0, h1, -, -, hX, hS, hT⟩ := hB
  have hbo := CX_bo hX
  have hXi : ∀ i, i < ns → OKT nc (X i) ∧ SPM s i (X i) := fun i hi => ⟨(hT.1 i hi).2.1, (hT.1 i hi).2.2.1⟩
  unfold g_X11_typed g_X12_typed
  rw [e2]
  refine ok_b (k_countTyped h6 h4 hbo hT fa so sps iB sB l h sL sH) (fun r hr => ok_s (ok_b (k_typedMany h4 hbo h1 (CS_SB hS) hXi tk sp ms so' nu sg jB kB l' h' sL' sH') (fun u hu => ok_s ?_)))
  exact hr.trans hu.symm
theorem share_n : ∀ a, a < 5 → ∀ b, b < 5 → b ≠ 0 → n32 (FP.fdiv (FP.i2f (nI a)) (FP.i2f (nI b))) = true ∧ n64 (FP.f2d (FP.fdiv (FP.i2f (nI a)) (FP.i2f (nI b)))) = true := by decide +kernel
theorem op_typedShare (hB : BR LS SE b s f) (hn : 0 < n4) (hn9 : n4 < 2147483648) : Ok (g_L_typedShare LS SE n4 ansD b.2.1 b.2.2.2.2.2.2.2.2.2.2.1 fa so sps b.2.2.2.2.2.2.1 b.2.2.2.2.2.2.2.1 b.2.2.2.2.2.2.2.2.1 iB l h sB sL sH) (fun o => Ok (g_X12_typedShare th tk sp ms so' s nu sg l' h' jB sL' sH' kB) (fun o' => o.1 = o'.2.1 ∧ (o.1 = 0 → n64 (FP.f2d o'.1) = true ∧ o.2.1 = vf_upd ansD 0 (FP.f2d o'.1)) ∧ (o.1 ≠ 0 → o.2.1 = ansD))) := by
  have hgc : inb 0 n4 = true := decide_eq_true ⟨by decide, by show (0 : Int) < n4; omega⟩
  obtain ⟨nc, ns, X, h6, h4, e1, e2, h0, h1, -, -, hX, hS, hT⟩ := hB
  have hbo := CX_bo hX
  have hXi : ∀ i, i < ns → OKT nc (X i) ∧ SPM s i (X i) := fun i hi => ⟨(hT.1 i hi).2.1, (hT.1 i hi).2.2.1⟩
  unfold g_L_typedShare g_X11_typedShare g_X12_typedShare
  rw [e2]
  by_cases hz : ns = 0
  · subst hz
    refine ok_be (if_pos rfl) (ok_f (show ¬ (6 : Int32) = 0 by decide) (ok_t rfl (ok_s ?_)))
    refine ok_c rfl (ok_l ?_)
    refine ok_t h1 ?_
    unfold g_X12_typedShare_b17
    exact ok_f (by decide) (ok_s ⟨rfl, fun z => absurd z (show ¬ (1 : Int32) = 0 by decide), fun _ => rfl⟩)
  · have hcle := CT_le b.2.2.2.2.2.2.1 b.2.2.2.2.2.2.2.1 b.2.2.2.2.2.2.2.2.1 X ns
    obtain ⟨m1, m2⟩ := share_n (CT b.2.2.2.2.2.2.1 b.2.2.2.2.2.2.2.1 b.2.2.2.2.2.2.2.2.1 X ns) (by omega) ns (by omega) hz
    have hnz : ¬ nI ns = 0 := fun z => hz (nI_inj (by omega) (by omega) (show nI ns = nI 0 from z))
    refine ok_b (R := fun r => r.1 = 0 ∧ r.2.1 = FP.fdiv (FP.i2f (nI (CT b.2.2.2.2.2.2.1 b.2.2.2.2.2.2.2.1 b.2.2.2.2.2.2.2.2.1 X ns))) (FP.i2f (nI ns))) (ok_f hnz (ok_b (k_countTyped h6 h4 hbo hT fa so sps iB sB l h sL sH) (fun r hr => ?_))) (fun r hr => ?_)
    · rw [hr]
      exact ok_c m1 (ok_l (ok_s ⟨rfl, rfl⟩))
    · obtain ⟨r1, r2⟩ := hr
      rw [r2]
      refine ok_t r1 (ok_c m2 (ok_c hgc (ok_s ?_)))
      refine ok_c rfl (ok_l ?_)
      refine ok_f (show ¬ s 1 = 0 by rw [h1]; exact hnz) ?_
      unfold g_X12_typedShare_b17
      refine ok_t (by decide) (ok_b (k_typedMany h4 hbo h1 (CS_SB hS) hXi tk sp ms so' nu sg jB kB l' h' sL' sH') (fun u hu => ?_))
      rw [hu, show s (1 : Int32).toNatClampNeg = nI ns from h1]
      exact ok_c m1 (ok_l (ok_s ⟨rfl, fun _ => ⟨m2, rfl⟩, fun z => absurd rfl z⟩))
end SPELLQ3
