/-! LINES: the calls (gen/lines.py) -/
def HCc (n : Nat) (f : Nat → Int32) (p2 r code : Int32) : Prop := (p2 < 0 ∧ code = 3) ∨ (0 ≤ p2 ∧ nI n ≤ p2 ∧ code = 3) ∨ (∃ k, k < n ∧ p2 = nI k ∧ code = 0 ∧ r = ((f (nI k).toNatClampNeg &&& 255).toUInt32 % 65536).toInt32)
def HCt (LS : List Nat) (SE : Nat → SV) (p1_book_spells : Int32) (p1_book_texts : Nat → Option Nat) (p2 code : Int32) (dd : List Nat) : Prop := (g_X11_needSpell LS SE p1_book_spells p1_book_texts p2 = some (2, none) ∧ code = 2) ∨ (∃ y0, y0 ∈ LS ∧ g_X11_needSpell LS SE p1_book_spells p1_book_texts p2 = some (0, some y0) ∧ code = 0 ∧ (SE y0).1 ≤ 60 ∧ (∀ j, j < (SE y0).1 → ∃ c, c < 128 ∧ (SE y0).2.1 j = nI c) ∧ dd = txl (SE y0).2.1 (SE y0).1)
def HCq (p1_book_cauldrons : Int32) (p1_book_isBroth p1_book_low p1_book_high p1_book_contents_many : Nat → Int32) (p1_book_contents_much : Nat → UInt32) (p2 code : Int32) (dd : List Nat) : Prop := (g_X11_needCauldron p1_book_cauldrons p2 = some 2 ∧ code = 2) ∨ (∃ (k : Nat) (neg : Bool) (w : Nat), p2 = nI k ∧ k < 6 ∧ g_X11_needCauldron p1_book_cauldrons (nI k) = some 0 ∧ g_X0_cutContent p1_book_isBroth p1_book_contents_many p1_book_contents_much (nI k) = some (SG neg w) ∧ w < 10000 ∧ (neg = true → 0 < w) ∧ code = 0 ∧ ¬ p1_book_isBroth (nI k).toNatClampNeg = 0 ∧ dd = ((([] ++ [97 + k]) ++ [58]) ++ dl neg w) ++ [126]) ∨ (∃ (k : Nat) (neg : Bool) (w : Nat) (n1 : Bool) (w1 : Nat) (n2 : Bool) (w2 : Nat), p2 = nI k ∧ k < 6 ∧ g_X11_needCauldron p1_book_cauldrons (nI k) = some 0 ∧ g_X0_cutContent p1_book_isBroth p1_book_contents_many p1_book_contents_much (nI k) = some (SG neg w) ∧ w < 10000 ∧ (neg = true → 0 < w) ∧ code = 0 ∧ p1_book_isBroth (nI k).toNatClampNeg = 0 ∧ p1_book_low (nI k).toNatClampNeg = SG n1 w1 ∧ p1_book_high (nI k).toNatClampNeg = SG n2 w2 ∧ w1 < 100 ∧ (n1 = true → 0 < w1) ∧ w2 < 100 ∧ (n2 = true → 0 < w2) ∧ dd = (((((((([] ++ [97 + k]) ++ [58]) ++ dl neg w) ++ [91]) ++ dl n1 w1) ++ [44]) ++ dl n2 w2) ++ [93]))
section LINES
variable {LS : List Nat} {SE : Nat → SV} {b : BK} {s ml : Nat → Int32} {f : Nat → UInt32} {th lm p : Int32} {uU : BU} {nN : Nat} {dD : List Nat}
theorem and255 : ∀ d, d < 128 → nI d &&& 255 = nI d := by decide
theorem op_character (hL : LI uU nN dD lm ml) : (∃ r, HCc nN uU.2.2.1 p r 0 ∧ Ok (g_X12_character th lm ml p) (fun o => o.1 = r ∧ o.2 = 0)) ∨ (HCc nN uU.2.2.1 p 0 3 ∧ Ok (g_X12_character th lm ml p) (fun o => o.2 = 1)) := by
  obtain ⟨hN, h7, rfl, hm⟩ := hL
  unfold g_X12_character g_X12_character_b22
  rw [k_in_idx (by omega)]
  rcases idx p nN (by omega) with ⟨i, hi, rfl⟩ | ho
  · left
    obtain ⟨m1, m2⟩ := hm i hi
    refine ⟨nI (dD.getD i 0), Or.inr (Or.inr ⟨i, hi, rfl, rfl, ?_⟩), ?_⟩
    · rw [x_cl (by omega), hN.2.2.2.1 i hi, and255 _ m2, i2c_at (by omega)]
    · rw [if_pos (by rw [nI_toInt (by omega)]; omega), e_gbS, if_neg (by decide), if_pos (by decide)]
      refine ok_c (x_inb (by omega) (by omega)) (ok_l (ok_c ?_ (ok_s ⟨?_, rfl⟩)))
      · rw [x_cl (by omega), m1]; exact x_cho (by omega)
      · rw [x_cl (by omega), m1]
  · right
    have hout : ¬ (0 ≤ p.toInt ∧ p.toInt < nN) := fun z => by
      rcases ho with ho | ho
      · rw [Int32.lt_iff_toInt_lt] at ho
        have : (0 : Int32).toInt = 0 := rfl
        omega
      · rw [Int32.le_iff_toInt_le, nI_toInt (by omega)] at ho
        omega
    refine ⟨?_, ?_⟩
    · by_cases c : p < 0
      · exact Or.inl ⟨c, rfl⟩
      · refine Or.inr (Or.inl ⟨?_, ho.resolve_left c, rfl⟩)
        rw [Int32.lt_iff_toInt_lt] at c
        rw [Int32.le_iff_toInt_le]
        omega
    · rw [if_neg hout, e_gbS, if_pos rfl, if_neg (by decide)]
      exact ok_s rfl
theorem l_tell {i : Nat} {x : TX} {tx : Nat → Int32} (hi : i < 4) (hx : x.1 ≤ 60) (hs : SPM s i x) (ht : ∀ j, j < x.1 → tx j = nI (x.2 j) ∧ x.2 j < 128) : ∀ (n j : Nat) (lm : Int32) (ml : Nat → Int32), j ≤ x.1 → x.1 - j < n → LR (txl tx j) lm ml → Ok (g_X12_tell_b41 s n ml 0 lm (nI (34 + 62 * i)) (nI j)) (fun o => o.1 = nI x.1 ∧ o.2.1 = 0 ∧ LR (txl tx x.1) o.2.2.1 o.2.2.2)
  | 0, j, _, _, _, h, _ => absurd h (Nat.not_lt_zero _)
  | n + 1, j, lm, ml, hj, hn, hR => by
    unfold g_X12_tell_b41
    have e1 : nI (34 + 62 * i) + 1 = nI (34 + 62 * i + 1) := nI_1 _
    have e2 : nI (34 + 62 * i) + 2 + nI j = nI (34 + 62 * i + 2 + j) := by
      rw [show (2 : Int32) = nI 2 from rfl, nI_add, nI_add]
    rw [e1, e2]
    refine ok_c (x_inb (by omega) (by omega)) ?_
    rw [x_cl (by omega), hs.1]
    by_cases e : j = x.1
    · subst e
      refine ok_t (nI_le (Nat.le_refl _) (by omega)) (ok_s ⟨?_, rfl, hR⟩)
      rw [hR.1, txl_len]
    · have hlt : j < x.1 := by omega
      obtain ⟨t1, t2⟩ := ht j hlt
      refine ok_f (nI_ge hlt (by omega)) (ok_c (x_inb (by omega) (by omega)) ?_)
      rw [x_cl (by omega), hs.2 j hlt, i2c_at (by omega), nI_1]
      obtain ⟨o, h1, h2⟩ := k_says hR (c := x.2 j) (by rw [txl_len]; omega) (by omega)
      refine ok_be h1 (ok_l (l_tell hi hx hs ht n (j + 1) o.1 o.2 (by omega) (by omega) ?_))
      rw [txl_s, t1, x_cl (by omega)]
      exact h2
theorem txl_S7 {tx : Nat → Int32} : ∀ n, (∀ j, j < n → ∃ c, c < 128 ∧ tx j = nI c) → S7 (txl tx n)
  | 0, _ => fun d hd => by cases hd
  | n + 1, h => by
    rw [txl_s]
    exact S7_app (txl_S7 n (fun j hj => h j (by omega))) (S7_one (tx_lt (h n (by omega))))
theorem op_tell (hB : BR LS SE b s f) (hSI : SI LS SE) : (∃ dd, HCt LS SE b.2.1 b.2.2.2.2.2.2.2.2.2.2.1 p 0 dd ∧ dd.length ≤ 70 ∧ S7 dd ∧ Ok (g_X12_tell th lm s ml p) (fun o => o.1 = nI dd.length ∧ o.2.1 = 0 ∧ LR dd o.2.2.1 o.2.2.2)) ∨ (HCt LS SE b.2.1 b.2.2.2.2.2.2.2.2.2.2.1 p 2 [] ∧ Ok (g_X12_tell th lm s ml p) (fun o => o.2.1 = 1 ∧ o.2.2.1 = lm ∧ o.2.2.2 = ml)) := by
  obtain ⟨nc, ns, X, h6, h4, e1, e2, h0, h1, -, -, hX, hS, hT⟩ := hB
  unfold g_X12_tell g_X12_tell_b14
  rw [e2]
  rcases idx p ns (by omega) with ⟨i, hi, rfl⟩ | ho
  · left
    obtain ⟨⟨a, a1, a2⟩, a3, a4, a5⟩ := hT.1 i hi
    obtain ⟨b1, b2, b3, -⟩ := id a2
    have haL := inl9_in b1
    obtain ⟨s1, s2⟩ := hSI a haL
    refine ⟨txl (SE a).2.1 (SE a).1, Or.inr ⟨a, haL, k_needSpell_in hi h4 a1 a2, rfl, s1, s2, rfl⟩, by rw [txl_len]; omega, txl_S7 _ s2, ?_⟩
    refine ok_be (k_X12_isSpell_in h1 hi h4) (ok_f (by decide) (ok_t (by decide) (ok_l ?_)))
    rw [show (34 : Int32) + 62 * nI i = nI (34 + 62 * i) by rw [show (62 : Int32) = nI 62 from rfl, show (34 : Int32) = nI 34 from rfl, pk_mul, nI_add]]
    refine ok_m (l_tell (tx := (SE a).2.1) (by omega) a3.1 a4 (fun j hj => ?_) 100 0 0 ml (Nat.zero_le _) (by have := a3.1; omega) (LR_0 ml)) (fun o ho => ?_)
    · obtain ⟨ch, c1, c2⟩ := s2 j (by rw [b2]; exact hj)
      have c3 := b3 j hj
      have hfit := a3.2.1 j
      refine ⟨c3, ?_⟩
      have : ch = (X i).2 j := nI_inj (by omega) (by omega) (c2.symm.trans c3)
      omega
    · rw [txl_len, b2]
      exact ho
  · right
    refine ⟨Or.inl ⟨k_needSpell_out ho, rfl⟩, ?_⟩
    refine ok_be (k_X12_isSpell_out h1 ho h4) (ok_t rfl (ok_f (by decide) (ok_s ⟨rfl, rfl, rfl⟩)))
theorem op_tellCauldron (hB : BR LS SE b s f) : (∃ dd, HCq b.1 b.2.2.2.2.2.2.1 b.2.2.2.2.2.2.2.1 b.2.2.2.2.2.2.2.2.1 b.2.2.2.2.1 b.2.2.2.2.2.1 p 0 dd ∧ dd.length ≤ 70 ∧ S7 dd ∧ Ok (g_X12_tellCauldron th lm s ml f p) (fun o => o.1 = nI dd.length ∧ o.2.1 = 0 ∧ LR dd o.2.2.1 o.2.2.2)) ∨ (HCq b.1 b.2.2.2.2.2.2.1 b.2.2.2.2.2.2.2.1 b.2.2.2.2.2.2.2.2.1 b.2.2.2.2.1 b.2.2.2.2.2.1 p 2 [] ∧ Ok (g_X12_tellCauldron th lm s ml f p) (fun o => o.2.1 = 1 ∧ o.2.2.1 = lm ∧ o.2.2.2 = ml)) := by
  obtain ⟨nc, ns, X, h6, h4, e1, e2, h0, h1, -, -, hX, hS, hT⟩ := hB
  unfold g_X12_tellCauldron g_X12_tellCauldron_b14
  rw [e1]
  rcases idx p nc (by omega) with ⟨c, hc, rfl⟩ | ho
  · left
    have hc6 : c < 6 := by omega
    obtain ⟨⟨a1, a2, a3, a4⟩, l1, l2, l3, l4⟩ := hX c hc6
    obtain ⟨s1, s2, s3, s4, s5, s6⟩ := hS c hc6
    have hcl : (nI c).toNatClampNeg = c := x_cl (by omega)
    have hbr : g_X12_isBroth s (nI c) = some (b.2.2.2.2.2.2.1 c) := by rw [← s1]; exact k_X12_isBroth hc6 (by rw [s1]; exact a1)
    have hof : ∀ j, j < 5 → g_X12_of s (nI c) (nI j) = some (s (4 + 5 * c + j)) := fun j hj => k_X12_of hc6 hj
    have hcon := k_X12_content (mn := b.2.2.2.2.1) (kd := b.2.2.2.2.2.2.1) (mu := b.2.2.2.2.2.1) hc6 a1 s1 s4 s6
    have hcc : g_X0_cutContent b.2.2.2.2.2.2.1 b.2.2.2.2.1 b.2.2.2.2.2.1 (nI c) = _ := k_X0_cutContent hc6
    have hnc : g_X11_needCauldron (nI nc) (nI c) = some 0 := k_needCauldron_in hc h6
    have hbd : -((9999 : Nat) : Int) ≤ (if b.2.2.2.2.2.2.1 c = 0 then b.2.2.2.2.1 c else FP.f2i (b.2.2.2.2.2.1 c)).toInt ∧ (if b.2.2.2.2.2.2.1 c = 0 then b.2.2.2.2.1 c else FP.f2i (b.2.2.2.2.2.1 c)).toInt ≤ ((9999 : Nat) : Int) := by
      split
      · rename_i hz
        have := l4 hz
        omega
      · have := a4.2
        unfold HBd at this
        exact ⟨this.1, this.2⟩
    obtain ⟨neg, w, v1, v2, v3, v4⟩ := SG_of 9999 hbd.1 hbd.2
    have hw : w < 10000 := by omega
    obtain ⟨o1, q1, r1⟩ := k_says (LR_0 ml) (c := 97 + c) (show (0 : Nat) < 80 by omega) (by omega)
    obtain ⟨o2, q2, r2⟩ := k_says r1 (c := 58) (show (1 : Nat) < 80 by omega) (by omega)
    obtain ⟨o3, q3, r3⟩ := k_num hw v3 v4 r2 (show (2 : Nat) ≤ 60 by omega)
    have ln := dl_len neg w
    have sl := dl_lt (neg := neg) hw
    have S2 : S7 (([] ++ [97 + c]) ++ [58]) := S7_app (S7_app (fun d hd => by cases hd) (S7_one (by omega))) (S7_one (by omega))
    have start : ∀ {k : Int32 × (Nat → Int32) → Option (Int32 × Int32 × Int32 × (Nat → Int32))} {P : Int32 × Int32 × Int32 × (Nat → Int32) → Prop}, Ok (k o3) P → Ok (gb (g_X12_says 0 ml (((97 + nI c).toUInt32 % 65536).toInt32)) fun r2 => gb (g_X12_says r2.1 r2.2 (58 : Int32)) fun r3 => gb (g_X12_content s f (nI c)) fun r4 => gb (g_X12_saysNumber 12 r3.1 r3.2 r4.toInt64) k) P := by
      intro k P hk
      rw [show (97 : Int32) + nI c = nI (97 + c) by rw [c_97, nI_add], i2c_at (by omega)]
      exact ok_be q1 (ok_be q2 (ok_be hcon (ok_be q3 hk)))
    by_cases hz : b.2.2.2.2.2.2.1 c = 0
    · have m4 := l4 hz
      obtain ⟨n1, w1, x1, x2, x3, x4⟩ := SG_of (v := b.2.2.2.2.2.2.2.1 c) 99 (by omega) (by omega)
      obtain ⟨n2, w2, y1, y2, y3, y4⟩ := SG_of (v := b.2.2.2.2.2.2.2.2.1 c) 99 (by omega) (by omega)
      have ln1 := dl_len n1 w1
      have ln2 := dl_len n2 w2
      obtain ⟨o4, q4, r4⟩ := k_says r3 (c := 91) (by simp only [List.length_append, List.length_cons, List.length_nil]; omega) (by omega)
      obtain ⟨o5, q5, r5⟩ := k_num (show w1 < 10000 by omega) x3 x4 r4 (by simp only [List.length_append, List.length_cons, List.length_nil]; omega)
      obtain ⟨o6, q6, r6⟩ := k_says r5 (c := 44) (by simp only [List.length_append, List.length_cons, List.length_nil]; omega) (by omega)
      obtain ⟨o7, q7, r7⟩ := k_num (show w2 < 10000 by omega) y3 y4 r6 (by simp only [List.length_append, List.length_cons, List.length_nil]; omega)
      obtain ⟨o8, q8, r8⟩ := k_says r7 (c := 93) (by simp only [List.length_append, List.length_cons, List.length_nil]; omega) (by omega)
      refine ⟨_, Or.inr (Or.inr ⟨c, neg, w, n1, w1, n2, w2, rfl, hc6, hnc, hcc.trans (congrArg some v1), hw, v3, rfl, by rw [hcl]; exact hz, by rw [hcl]; exact x1, by rw [hcl]; exact y1, by omega, x3, by omega, y3, rfl⟩), by simp only [List.length_append, List.length_cons, List.length_nil]; omega, ?_, ?_⟩
      · exact S7_app (S7_app (S7_app (S7_app (S7_app (S7_app S2 sl) (S7_one (by omega))) (dl_lt (by omega))) (S7_one (by omega))) (dl_lt (by omega))) (S7_one (by omega))
      · refine ok_be (k_X12_isCauldron_in h0 hc h6) (ok_f (by decide) (ok_t (by decide) (start ?_)))
        refine ok_be hbr (ok_t hz (ok_be q4 (ok_be (hof 1 (by omega)) ?_)))
        rw [s2]
        refine ok_be q5 (ok_be q6 (ok_be (hof 2 (by omega)) ?_))
        rw [s3]
        exact ok_be q7 (ok_be q8 (ok_s ⟨r8.1, rfl, r8⟩))
    · obtain ⟨o4, q4, r4⟩ := k_says r3 (c := 126) (by simp only [List.length_append, List.length_cons, List.length_nil]; omega) (by omega)
      refine ⟨_, Or.inr (Or.inl ⟨c, neg, w, rfl, hc6, hnc, hcc.trans (congrArg some v1), hw, v3, rfl, by rw [hcl]; exact hz, rfl⟩), by simp only [List.length_append, List.length_cons, List.length_nil]; omega, S7_app (S7_app S2 sl) (S7_one (by omega)), ?_⟩
      refine ok_be (k_X12_isCauldron_in h0 hc h6) (ok_f (by decide) (ok_t (by decide) (start ?_)))
      exact ok_be hbr (ok_f hz (ok_be q4 (ok_s ⟨r4.1, rfl, r4⟩)))
  · right
    refine ⟨Or.inl ⟨k_needCauldron_out ho, rfl⟩, ?_⟩
    refine ok_be (k_X12_isCauldron_out h0 ho h6) (ok_t rfl (ok_f (by decide) (ok_s ⟨rfl, rfl, rfl⟩)))
/-- the line that comes -/
theorem LI_new {u : BU} {dd : List Nat} {lm : Int32} {ml : Nat → Int32} (h : LN dd.length dd u) (h7 : dd.length ≤ 70) (hs : S7 dd) (hR : LR dd lm ml) : LI u dd.length dd lm ml := ⟨h, h7, hR.1, fun j hj => ⟨hR.2 j hj, S7_at hs hj⟩⟩
end LINES
