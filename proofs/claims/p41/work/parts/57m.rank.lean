/-! rows of the whole claim that speak of the class alone (gen/pure1.py) -/
def AHb (X : Nat → TX) (i j : Nat) : Bool := if (rT (X i)).1 = (rT (X j)).1 then (if NS (rT (X i)).2.1 (rT (X i)).1 = NS (rT (X j)).2.1 (rT (X j)).1 then decide (i < j) else decide (NS (rT (X j)).2.1 (rT (X j)).1 < NS (rT (X i)).2.1 (rT (X i)).1)) else decide ((rT (X i)).1 < (rT (X j)).1)
def RK (A : Nat → Nat → Bool) (i : Nat) : Nat → Nat
  | 0 => 0
  | n + 1 => RK A i n + if A n i = true then 1 else 0
theorem RK_le (A : Nat → Nat → Bool) (i : Nat) : ∀ n, RK A i n ≤ n
  | 0 => Nat.le_refl 0
  | n + 1 => by
    have := RK_le A i n
    show RK A i n + (if A n i = true then 1 else 0) ≤ n + 1
    split <;> omega
theorem RK_cg {A B : Nat → Nat → Bool} {i : Nat} : ∀ n, (∀ o, o < n → A o i = B o i) → RK A i n = RK B i n
  | 0, _ => rfl
  | n + 1, h => by
    show RK A i n + (if A n i = true then 1 else 0) = RK B i n + (if B n i = true then 1 else 0)
    rw [RK_cg n (fun o ho => h o (by omega)), h n (by omega)]
def tab (a b c d e f : Bool) (i j : Nat) : Bool :=
  if i = 0 then (if j = 1 then a else if j = 2 then b else if j = 3 then c else false)
  else if i = 1 then (if j = 0 then !a else if j = 2 then d else if j = 3 then e else false)
  else if i = 2 then (if j = 0 then !b else if j = 1 then !d else if j = 3 then f else false)
  else (if j = 0 then !c else if j = 1 then !e else if j = 2 then !f else false)
def trB (A : Nat → Nat → Bool) (n : Nat) : Bool := (List.range n).all fun i => (List.range n).all fun j => (List.range n).all fun k => !(A i j && A j k) || A i k
def ueB (A : Nat → Nat → Bool) (n : Nat) : Bool := (List.range n).all fun p => (List.range n).any fun i => decide (RK A i n = p) && (List.range n).all fun j => !decide (RK A j n = p) || decide (j = i)
def TRn (A : Nat → Nat → Bool) (n : Nat) : Prop := ∀ i, i < n → ∀ j, j < n → ∀ k, k < n → A i j = true → A j k = true → A i k = true
def UEn (A : Nat → Nat → Bool) (n : Nat) : Prop := ∀ p, p < n → ∃ i, i < n ∧ RK A i n = p ∧ ∀ j, j < n → RK A j n = p → j = i
theorem tr_of {A : Nat → Nat → Bool} {n : Nat} (h : TRn A n) : trB A n = true := by
  refine List.all_eq_true.mpr (fun i hi => List.all_eq_true.mpr (fun j hj => List.all_eq_true.mpr (fun k hk => ?_)))
  have := h i (List.mem_range.mp hi) j (List.mem_range.mp hj) k (List.mem_range.mp hk)
  cases h1 : A i j with
  | false => rfl
  | true => cases h2 : A j k with
    | false => rfl
    | true => rw [this h1 h2]; rfl
theorem of_ue {A : Nat → Nat → Bool} {n : Nat} (h : ueB A n = true) : UEn A n := by
  intro p hp
  obtain ⟨i, hi, h1⟩ := List.any_eq_true.mp (List.all_eq_true.mp h p (List.mem_range.mpr hp))
  rw [Bool.and_eq_true, decide_eq_true_eq] at h1
  refine ⟨i, List.mem_range.mp hi, h1.1, fun j hj hjp => ?_⟩
  have := List.all_eq_true.mp h1.2 j (List.mem_range.mpr hj)
  rw [decide_eq_true hjp] at this
  exact of_decide_eq_true this
theorem ue_tab : ∀ n : Fin 5, ∀ a b c d e f : Bool, (!trB (tab a b c d e f) n.1 || ueB (tab a b c d e f) n.1) = true := by decide +kernel
theorem ue_of {A : Nat → Nat → Bool} {n : Nat} (hn : n ≤ 4) (h0 : ∀ i, i < n → A i i = false) (h1 : ∀ i j, i < n → j < n → i ≠ j → A j i = !A i j) (h2 : TRn A n) : UEn A n := by
  have e : ∀ i j, i < n → j < n → A i j = tab (A 0 1) (A 0 2) (A 0 3) (A 1 2) (A 1 3) (A 2 3) i j := by
    intro i j hi hj
    have hi4 : i = 0 ∨ i = 1 ∨ i = 2 ∨ i = 3 := by omega
    have hj4 : j = 0 ∨ j = 1 ∨ j = 2 ∨ j = 3 := by omega
    rcases hi4 with rfl | rfl | rfl | rfl <;> rcases hj4 with rfl | rfl | rfl | rfl <;> first | rfl | exact h0 _ hi | exact h1 _ _ hj hi (by decide)
  have ht0 := ue_tab ⟨n, by omega⟩ (A 0 1) (A 0 2) (A 0 3) (A 1 2) (A 1 3) (A 2 3)
  have htr := tr_of (A := tab (A 0 1) (A 0 2) (A 0 3) (A 1 2) (A 1 3) (A 2 3)) (n := n) (fun i hi j hj k hk => by
    rw [← e i j hi hj, ← e j k hj hk, ← e i k hi hk]
    exact h2 i hi j hj k hk)
  rw [htr] at ht0
  have ht := of_ue ht0
  intro p hp
  obtain ⟨i, i1, i2, i3⟩ := ht p hp
  refine ⟨i, i1, (RK_cg n (fun o ho => e o i ho i1)).trans i2, fun j hj hjp => i3 j hj ?_⟩
  rw [← RK_cg n (fun o ho => e o j ho hj)]
  exact hjp
theorem ue_AH (X : Nat → TX) {n : Nat} (hn : n ≤ 4) : UEn (AHb X) n := by
  refine ue_of hn (fun i _ => ?_) (fun i j _ _ hij => ?_) (fun i _ j _ k _ => ?_)
  · unfold AHb
    rw [if_pos rfl, if_pos rfl]
    exact decide_eq_false (Nat.lt_irrefl i)
  · unfold AHb
    generalize (rT (X i)).1 = a at *
    generalize (rT (X j)).1 = b at *
    generalize NS (rT (X i)).2.1 a = c at *
    generalize NS (rT (X j)).2.1 b = d at *
    by_cases h1 : a = b
    · rw [if_pos h1, if_pos h1.symm]
      by_cases h2 : c = d
      · rw [if_pos h2, if_pos h2.symm, ← decide_not]
        exact decide_eq_decide.mpr (by omega)
      · rw [if_neg h2, if_neg (fun z => h2 z.symm), ← decide_not]
        exact decide_eq_decide.mpr (by omega)
    · rw [if_neg h1, if_neg (fun z => h1 z.symm), ← decide_not]
      exact decide_eq_decide.mpr (by omega)
  · unfold AHb
    generalize (rT (X i)).1 = a at *
    generalize (rT (X j)).1 = b at *
    generalize (rT (X k)).1 = a' at *
    generalize NS (rT (X i)).2.1 a = c at *
    generalize NS (rT (X j)).2.1 b = d at *
    generalize NS (rT (X k)).2.1 a' = d' at *
    intro h1 h2
    split at h1 <;> split at h2 <;> (try split at h1) <;> (try split at h2) <;> (rw [decide_eq_true_eq] at h1 h2) <;> split <;> (try split) <;> (rw [decide_eq_true_eq]) <;> omega
section
variable {LS : List Nat} {SE : Nat → SV} {nc ns : Nat} {X : Nat → TX} {tx : Nat → Option Nat} {cc s : Nat → Int32} {i j : Nat}
theorem T_b {nc : Nat} {x : TX} (h : OKT nc x) : (rT x).1 ≤ 24 ∧ NS (rT x).2.1 (rT x).1 ≤ 24 := by
  have h1 := (OKT_SH h).1
  have h2 := NS_le (rT x).2.1 (rT x).1
  omega
theorem k_comesAhead (hn4 : ns ≤ 4) (hX : SX LS SE nc ns X tx cc s) (hi : i < ns) (hj : j < ns) : g_X0_comesAhead LS SE (nI ns) tx (nI i) (nI j) = some (bI (AHb X i j)) := by
  obtain ⟨⟨a, a1, a2⟩, a3, a4, a5⟩ := hX.1 i hi
  obtain ⟨⟨b, b1, b2⟩, b3, b4, b5⟩ := hX.1 j hj
  obtain ⟨t1, t2⟩ := T_b a3
  obtain ⟨t3, t4⟩ := T_b b3
  unfold g_X0_comesAhead AHb bI
  rw [k_spellAt hi hn4 a1, e_gbS]
  show gc (inl9 LS a) _ = _
  rw [e_gc a2.1, k_spellAt hj hn4 b1, e_gbS]
  show gc (inl9 LS b) _ = _
  rw [e_gc b2.1, a2.2.2.2.1, b2.2.2.2.1, a2.2.2.2.2.1, b2.2.2.2.2.1]
  by_cases h1 : (rT (X i)).1 = (rT (X j)).1
  · rw [if_pos (by rw [h1]), if_pos h1]
    by_cases h2 : NS (rT (X i)).2.1 (rT (X i)).1 = NS (rT (X j)).2.1 (rT (X j)).1
    · rw [if_pos (by rw [h2]), if_pos h2]
      by_cases h3 : i < j
      · rw [decide_eq_true h3, if_neg (nI_ge h3 (by omega)), if_pos rfl]; rfl
      · rw [decide_eq_false h3, if_pos (nI_le (by omega) (by omega)), if_neg (by decide)]; rfl
    · rw [if_neg (fun z => h2 (nI_inj (by omega) (by omega) z)), if_neg h2]
      by_cases h3 : NS (rT (X j)).2.1 (rT (X j)).1 < NS (rT (X i)).2.1 (rT (X i)).1
      · rw [decide_eq_true h3, if_neg (nI_ge h3 (by omega)), if_pos rfl]; rfl
      · rw [decide_eq_false h3, if_pos (nI_le (by omega) (by omega)), if_neg (by decide)]; rfl
  · rw [if_neg (fun z => h1 (nI_inj (by omega) (by omega) z)), if_neg h1]
    by_cases h3 : (rT (X i)).1 < (rT (X j)).1
    · rw [decide_eq_true h3, if_neg (nI_ge h3 (by omega)), if_pos rfl]; rfl
    · rw [decide_eq_false h3, if_pos (nI_le (by omega) (by omega)), if_neg (by decide)]; rfl
theorem l_spellsAhead (hn4 : ns ≤ 4) (hX : SX LS SE nc ns X tx cc s) (hj : j < ns) : ∀ (n o : Nat), o ≤ ns → ns - o < n → g_X0_spellsAhead_b4 LS SE (nI ns) tx (nI j) n (nI (RK (AHb X) j o)) (nI o) = some (nI (RK (AHb X) j ns))
  | 0, o, _, h => absurd h (Nat.not_lt_zero _)
  | n + 1, o, ho, hm => by
    unfold g_X0_spellsAhead_b4 g_X0_spellsAhead_b24
    by_cases e : o = ns
    · subst e
      exact if_pos (nI_le (Nat.le_refl _) (by omega))
    · have ho' : o < ns := by omega
      have ih := l_spellsAhead hn4 hX hj n (o + 1) (by omega) (by omega)
      have er : RK (AHb X) j (o + 1) = RK (AHb X) j o + if AHb X o j = true then 1 else 0 := rfl
      rw [if_neg (nI_ge ho' (by omega)), k_comesAhead hn4 hX ho' hj, e_gbS]
      cases hA : AHb X o j with
      | true =>
        rw [hA, if_pos rfl] at er
        rw [if_neg (show ¬ bI true = 0 by decide), e_gl, e_gl, nI_1, nI_1, ← er]
        exact ih
      | false =>
        rw [hA, if_neg Bool.false_ne_true] at er
        have er' : RK (AHb X) j (o + 1) = RK (AHb X) j o := er
        rw [if_pos (show bI false = 0 from rfl), e_gl, nI_1, ← er']
        exact ih
theorem k_spellsAhead (hn4 : ns ≤ 4) (hX : SX LS SE nc ns X tx cc s) (hj : j < ns) : g_X0_spellsAhead LS SE (nI ns) tx (nI j) = some (nI (RK (AHb X) j ns)) := by
  unfold g_X0_spellsAhead
  exact l_spellsAhead hn4 hX hj 100 0 (Nat.zero_le _) (by omega)
theorem l_rankedC (hn4 : ns ≤ 4) (hX : SX LS SE nc ns X tx cc s) {p q : Nat} (hp : p < ns) (hq : q < ns) (h1 : RK (AHb X) q ns = p) (h2 : ∀ j, j < ns → RK (AHb X) j ns = p → j = q) : ∀ (n i : Nat), i ≤ q → ns - i < n → g_X11_ranked_b2 LS SE (nI ns) tx (nI p) n (nI i) = some (nI 0, nI q)
  | 0, i, _, h => absurd h (Nat.not_lt_zero _)
  | n + 1, i, hi, hm => by
    unfold g_X11_ranked_b2
    have hi' : i < ns := by omega
    have hr := RK_le (AHb X) i ns
    rw [if_neg (nI_ge hi' (by omega)), k_spellsAhead hn4 hX hi', e_gbS]
    by_cases e : i = q
    · rw [e, h1, if_pos rfl]; rfl
    · rw [if_neg (fun z => e (h2 i hi' (nI_inj (by omega) (by omega) z))), e_gl, nI_1]
      exact l_rankedC hn4 hX hp hq h1 h2 n (i + 1) (by omega) (by omega)
theorem l_rankedN (hn4 : ns ≤ 4) (hX : SX LS SE nc ns X tx cc s) {p : Int32} (hp : OUT p ns) : ∀ (n i : Nat), i ≤ ns → ns - i < n → g_X11_ranked_b2 LS SE (nI ns) tx p n (nI i) = some (nI 3, nI 0)
  | 0, i, _, h => absurd h (Nat.not_lt_zero _)
  | n + 1, i, hi, hm => by
    unfold g_X11_ranked_b2
    by_cases e : i = ns
    · subst e
      exact if_pos (nI_le (Nat.le_refl _) (by omega))
    · have hi' : i < ns := by omega
      have hr : RK (AHb X) i ns < ns := by
        obtain ⟨q, q1, q2, q3⟩ := ue_AH X hn4 (ns - 1) (by omega)
        rcases Nat.lt_or_ge (RK (AHb X) i ns) ns with z | z
        · exact z
        · have hz : ∀ m, m ≤ ns → i < m → RK (AHb X) i m < m := by
            intro m
            induction m with
            | zero => intro _ h; omega
            | succ m ih =>
              intro hm1 hm2
              have e1 : RK (AHb X) i (m + 1) = RK (AHb X) i m + if AHb X m i = true then 1 else 0 := rfl
              by_cases g : m = i
              · have : AHb X m i = false := by
                  rw [g]
                  unfold AHb
                  rw [if_pos rfl, if_pos rfl]
                  exact decide_eq_false (Nat.lt_irrefl i)
                rw [this, if_neg (by decide)] at e1
                have := RK_le (AHb X) i m
                omega
              · have := ih (by omega) (by omega)
                split at e1 <;> omega
          exact hz ns (Nat.le_refl _) hi'
      rw [if_neg (nI_ge hi' (by omega)), k_spellsAhead hn4 hX hi', e_gbS, if_neg (fun z => by
        have := out_to (p := p) (n := ns) (by omega) hp
        rw [← z, nI_toInt (by omega)] at this
        omega), e_gl, nI_1]
      exact l_rankedN hn4 hX hp n (i + 1) (by omega) (by omega)
end
