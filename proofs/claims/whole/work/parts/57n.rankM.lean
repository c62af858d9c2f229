/-! RANKS: the reference's -/
section RANKM
variable {nc ns : Nat} {X : Nat → TX} {s : Nat → Int32} {i j : Nat}
theorem sub_to {a b : Nat} (ha : a < 2147483648) (hb : b < 2147483648) : (nI a - nI b).toInt = (a : Int) - b := by
  rw [Int32.toInt_sub, nI_toInt ha, nI_toInt hb, Int.bmod_eq_of_le] <;> omega
theorem l_storesOf {T : Nat} {k w f : Nat → Nat} {nu sg : Nat → Int32} {sp ms : Int32} (hsh : SH T k) (hT : TK T k w f sg nu) : ∀ (n p : Nat), p ≤ T → T - p < n → g_X12_storesOf_b9 n nu sg (nI T) sp ms (nI (NS k p)) (nI p) = some (nI (NS k T), nI T, sp, ms, nu, sg)
  | 0, p, _, h => absurd h (Nat.not_lt_zero _)
  | n + 1, p, hp, hm => by
    have hTT := hsh.1
    unfold g_X12_storesOf_b9 g_X12_storesOf_b34
    by_cases e : p = T
    · subst e
      exact if_pos (nI_le (Nat.le_refl _) (by omega))
    · have hp' : p < T := by omega
      obtain ⟨hsg, hnu, hF⟩ := hT p hp'
      have ih := l_storesOf (sp := sp) (ms := ms) hsh hT n (p + 1) (by omega) (by omega)
      have hns := NS_s k p
      rw [if_neg (nI_ge hp' (by omega)), e_gc (x_inb (by omega) (by omega)), x_cl (by omega), hsg]
      by_cases e7 : k p = 7
      · have hf : f p = 61 := by unfold FSk at hF; omega
        rw [if_pos e7] at hns
        rw [if_pos (by rw [hf]; rfl), e_gl, e_gl, nI_1, nI_1, ← hns]
        exact ih
      · have hf : f p ≠ 61 ∧ f p < 65536 := by unfold FSk at hF; omega
        rw [if_neg e7] at hns
        have hns' : NS k (p + 1) = NS k p := hns
        rw [if_neg (show ¬ nI (f p) = (61 : Int32) from fun z => hf.1 (nI_inj (by omega) (by omega) (show nI (f p) = nI 61 from z))), e_gl, e_gl, nI_1, show nI (NS k p) + 0 = nI (NS k p) from nI_add _ 0, ← hns']
        exact ih
theorem k_storesOf {x : TX} (hi : i < 4) (hx : OKT nc x) (hs : SPM s i x) (tk sp ms : Int32) (nu sg : Nat → Int32) :
    Ok (g_X12_storesOf tk sp ms s nu sg (nI i)) (fun o => o.1 = nI (NS (rT x).2.1 (rT x).1) ∧ o.2.1 = nI (rT x).1 ∧ o.2.2.2.1 = nI (MS (rT x).2.1 (rT x).1) ∧ TK (rT x).1 (rT x).2.1 (rT x).2.2.1 (rT x).2.2.2.1 o.2.2.2.2.2 o.2.2.2.2.1) := by
  unfold g_X12_storesOf
  have hsh := OKT_SH hx
  have hTT := hsh.1
  refine ok_b (k_X12_tells hi hx hs tk sp ms nu sg) (fun o ho => ?_)
  obtain ⟨o1, o2, o3⟩ := ho
  rw [o1]
  exact ok_e (l_storesOf hsh o3 100 0 (Nat.zero_le _) (by omega)) ⟨rfl, rfl, o2, o3⟩
theorem k_isAhead (hn4 : ns ≤ 4) (hX : ∀ i, i < ns → OKT nc (X i) ∧ SPM s i (X i)) (hi : i < ns) (hj : j < ns) (tk sp ms : Int32) (nu sg : Nat → Int32) : Ok (g_X12_isAhead tk sp ms s nu sg (nI i) (nI j)) (fun o => o.1 = bI (AHb X i j)) := by
  obtain ⟨a3, a4⟩ := hX i hi
  obtain ⟨b3, b4⟩ := hX j hj
  obtain ⟨t1, t2⟩ := T_b a3
  obtain ⟨t3, t4⟩ := T_b b3
  unfold g_X12_isAhead
  refine ok_b (k_storesOf (by omega) a3 a4 tk sp ms nu sg) (fun o ho => ok_b (k_storesOf (by omega) b3 b4 _ _ _ _ _) (fun u hu => ?_))
  rw [ho.1, ho.2.1, hu.1, hu.2.1]
  unfold g_X12_isAhead_b42 AHb bI
  have z0 : (0 : Int32).toInt = 0 := rfl
  by_cases h1 : (rT (X i)).1 = (rT (X j)).1
  · rw [if_pos h1]
    refine ok_t (by rw [h1]) ?_
    have hs := sub_to (a := NS (rT (X i)).2.1 (rT (X i)).1) (b := NS (rT (X j)).2.1 (rT (X j)).1) (by omega) (by omega)
    by_cases h2 : NS (rT (X i)).2.1 (rT (X i)).1 = NS (rT (X j)).2.1 (rT (X j)).1
    · rw [if_pos h2]
      refine ok_f (fun z => by rw [Int32.lt_iff_toInt_lt, hs] at z; omega) (ok_t (Int32.toInt_inj.mp (by rw [hs, z0]; omega)) ?_)
      by_cases h3 : i < j
      · rw [decide_eq_true h3, if_pos rfl]
        exact ok_f (nI_ge h3 (by omega)) (ok_s rfl)
      · rw [decide_eq_false h3, if_neg Bool.false_ne_true]
        exact ok_t (nI_le (by omega) (by omega)) (ok_s rfl)
    · rw [if_neg h2]
      by_cases h3 : NS (rT (X j)).2.1 (rT (X j)).1 < NS (rT (X i)).2.1 (rT (X i)).1
      · rw [decide_eq_true h3, if_pos rfl]
        exact ok_t (by rw [Int32.lt_iff_toInt_lt, hs]; omega) (ok_s rfl)
      · rw [decide_eq_false h3, if_neg Bool.false_ne_true]
        exact ok_f (fun z => by rw [Int32.lt_iff_toInt_lt, hs] at z; omega) (ok_f (fun z => by have := congrArg Int32.toInt z; rw [hs, z0] at this; omega) (ok_s rfl))
  · rw [if_neg h1]
    refine ok_f (fun z => h1 (nI_inj (by omega) (by omega) z).symm) ?_
    have hs := sub_to (a := (rT (X j)).1) (b := (rT (X i)).1) (by omega) (by omega)
    by_cases h3 : (rT (X i)).1 < (rT (X j)).1
    · rw [decide_eq_true h3, if_pos rfl]
      exact ok_t (by rw [Int32.lt_iff_toInt_lt, hs]; omega) (ok_s rfl)
    · rw [decide_eq_false h3, if_neg Bool.false_ne_true]
      exact ok_f (fun z => by rw [Int32.lt_iff_toInt_lt, hs] at z; omega) (ok_f (fun z => by have := congrArg Int32.toInt z; rw [hs, z0] at this; omega) (ok_s rfl))
abbrev KR : Type := (Nat → Int32) → (Nat → Int32) → Int32 → Int32 → Int32 → Int32 → Int32 → Int32 → Option (Int32 × Int32 × Int32 × Int32 × Int32 × (Nat → Int32) × (Nat → Int32))
theorem l_r44 (hn4 : ns ≤ 4) (h1 : s 1 = nI ns) (hX : ∀ i, i < ns → OKT nc (X i) ∧ SPM s i (X i)) (hi : i < ns) {p x2 th : Int32} {K : KR} {P : Int32 × Int32 × Int32 × Int32 × Int32 × (Nat → Int32) × (Nat → Int32) → Prop}
    (hK : ∀ nu sg tk sp ms, Ok (K nu sg th tk sp ms (if nI (RK (AHb X) i ns) = p then nI i else x2) (nI (i + 1))) P) :
    ∀ (n o : Nat) (nu sg : Nat → Int32) (tk sp ms : Int32), o ≤ ns → ns - o < n → Ok (g_X12_ranked_b44 s p K n nu sg th tk sp ms x2 (nI i) (nI (RK (AHb X) i o)) (nI o)) P
  | 0, o, _, _, _, _, _, _, h => absurd h (Nat.not_lt_zero _)
  | n + 1, o, nu, sg, tk, sp, ms, ho, hm => by
    unfold g_X12_ranked_b44 g_X12_ranked_b92 g_X12_ranked_b72
    refine ok_c rfl ?_
    show Ok (if s 1 ≤ nI o then _ else _) _
    rw [h1]
    by_cases e : o = ns
    · subst e
      refine ok_t (nI_le (Nat.le_refl _) (by omega)) ?_
      have := hK nu sg tk sp ms
      by_cases g : nI (RK (AHb X) i o) = p
      · rw [if_pos g] at this
        refine ok_t g (ok_l ?_)
        rw [nI_1]; exact this
      · rw [if_neg g] at this
        refine ok_f g (ok_l ?_)
        rw [nI_1]; exact this
    · have ho' : o < ns := by omega
      refine ok_f (nI_ge ho' (by omega)) (ok_b (k_isAhead hn4 hX ho' hi tk sp ms nu sg) (fun r hr => ?_))
      have er : RK (AHb X) i (o + 1) = RK (AHb X) i o + if AHb X o i = true then 1 else 0 := rfl
      cases hA : AHb X o i with
      | true =>
        rw [hA] at hr
        rw [hA, if_pos rfl] at er
        refine ok_f (by rw [hr]; decide) (ok_l (ok_l ?_))
        rw [nI_1, nI_1, ← er]
        exact l_r44 hn4 h1 hX hi hK n (o + 1) _ _ _ _ _ (by omega) (by omega)
      | false =>
        rw [hA] at hr
        rw [hA, if_neg Bool.false_ne_true] at er
        have er' : RK (AHb X) i (o + 1) = RK (AHb X) i o := er
        refine ok_t hr (ok_l (ok_l ?_))
        rw [nI_1, show nI (RK (AHb X) i o) + 0 = nI (RK (AHb X) i o) from nI_add _ 0, ← er']
        exact l_r44 hn4 h1 hX hi hK n (o + 1) _ _ _ _ _ (by omega) (by omega)
theorem l_r21 (hn4 : ns ≤ 4) (h1 : s 1 = nI ns) (hX : ∀ i, i < ns → OKT nc (X i) ∧ SPM s i (X i)) {p q : Nat} (hp : p < ns) (hq : q < ns) (r1 : RK (AHb X) q ns = p) (r2 : ∀ j, j < ns → RK (AHb X) j ns = p → j = q) :
    ∀ (n i : Nat) (x2 : Int32) (nu sg : Nat → Int32) (tk sp ms : Int32), i ≤ ns → ns - i < n → (q < i → x2 = nI q) → Ok (g_X12_ranked_b21 s (nI p) n nu sg (nI 0) tk sp ms x2 (nI i)) (fun o => o.1 = nI q ∧ o.2.1 = nI 0)
  | 0, i, _, _, _, _, _, _, _, h, _ => absurd h (Nat.not_lt_zero _)
  | n + 1, i, x2, nu, sg, tk, sp, ms, hi, hm, hx => by
    unfold g_X12_ranked_b21
    refine ok_c rfl ?_
    show Ok (if s 1 ≤ nI i then _ else _) _
    rw [h1]
    by_cases e : i = ns
    · subst e
      exact ok_t (nI_le (Nat.le_refl _) (by omega)) (ok_s ⟨hx hq, rfl⟩)
    · have hi' : i < ns := by omega
      have hr := RK_le (AHb X) i ns
      refine ok_f (nI_ge hi' (by omega)) (ok_t rfl ?_)
      refine l_r44 hn4 h1 hX hi' (fun nu' sg' tk' sp' ms' => ?_) 100 0 nu sg tk sp ms (Nat.zero_le _) (by omega)
      refine l_r21 hn4 h1 hX hp hq r1 r2 n (i + 1) _ _ _ _ _ _ (by omega) (by omega) (fun hqi => ?_)
      by_cases g : RK (AHb X) i ns = p
      · rw [if_pos (by rw [g]), r2 i hi' g]
      · rw [if_neg (fun z => g (nI_inj (by omega) (by omega) z))]
        refine hx ?_
        rcases Nat.lt_or_ge q i with z | z
        · exact z
        · have : i = q := by omega
          rw [this] at g
          exact absurd r1 g
/-- the reference's rank -/
theorem k_X12_ranked (hn4 : ns ≤ 4) (h1 : s 1 = nI ns) (hX : ∀ i, i < ns → OKT nc (X i) ∧ SPM s i (X i)) {p q : Nat} (hp : p < ns) (hq : q < ns) (r1 : RK (AHb X) q ns = p) (r2 : ∀ j, j < ns → RK (AHb X) j ns = p → j = q) (th tk sp ms : Int32) (nu sg : Nat → Int32) :
    Ok (g_X12_ranked th tk sp ms s nu sg (nI p)) (fun o => o.1 = nI q ∧ o.2.1 = nI 0) := by
  unfold g_X12_ranked
  refine ok_be (k_X12_isSpell_in h1 hp hn4) (ok_f (by decide) ?_)
  unfold g_X12_ranked_b14
  exact l_r21 hn4 h1 hX hp hq r1 r2 100 0 _ _ _ _ _ _ (Nat.zero_le _) (by omega) (fun z => absurd z (Nat.not_lt_zero q))
theorem k_X12_rankedN (hn4 : ns ≤ 4) (h1 : s 1 = nI ns) (hX : ∀ i, i < ns → OKT nc (X i) ∧ SPM s i (X i)) {p : Int32} (hp : OUT p ns) (th tk sp ms : Int32) (nu sg : Nat → Int32) :
    Ok (g_X12_ranked th tk sp ms s nu sg p) (fun o => o.1 = nI 0 ∧ o.2.1 = nI 1) := by
  unfold g_X12_ranked
  refine ok_be (k_X12_isSpell_out h1 hp hn4) (ok_t rfl ?_)
  unfold g_X12_ranked_b14
  show Ok (g_X12_ranked_b21 s p (99 + 1) nu sg 1 tk sp ms 0 0) _
  unfold g_X12_ranked_b21
  refine ok_c rfl ?_
  exact ok_i (fun _ => ok_s ⟨rfl, rfl⟩) (fun _ => ok_f (by decide) (ok_s ⟨rfl, rfl⟩))
end RANKM
