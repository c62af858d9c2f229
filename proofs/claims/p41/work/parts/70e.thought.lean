/-! THE LAW's thought holds, further -/
section LS9
variable {kd lo hi : Nat → Int32} {x : TX}
theorem LST_succ : ∀ n D, LST kd lo hi x n D ≤ LST kd lo hi x (n + 1) D ∧ (LST kd lo hi x n D < n → LST kd lo hi x (n + 1) D = LST kd lo hi x n D) ∧ LST kd lo hi x (n + 1) D ≤ LST kd lo hi x n D + 1
  | 0, D => ⟨Nat.zero_le _, fun h => absurd h (Nat.not_lt_zero _), LST_le kd lo hi x 1 D⟩
  | n + 1, D => by
    have e1 : LST kd lo hi x (n + 1) D = match ckC kd lo hi x D with | none => 0 | some E => if DFc E.1 D.1 E.2 D.2 6 = 0 then 0 else LST kd lo hi x n E + 1 := rfl
    have e2 : LST kd lo hi x (n + 1 + 1) D = match ckC kd lo hi x D with | none => 0 | some E => if DFc E.1 D.1 E.2 D.2 6 = 0 then 0 else LST kd lo hi x (n + 1) E + 1 := rfl
    rw [e1, e2]
    cases ckC kd lo hi x D with
    | none => exact ⟨Nat.le_refl _, fun _ => rfl, Nat.zero_le _⟩
    | some E =>
      dsimp only
      by_cases c : DFc E.1 D.1 E.2 D.2 6 = 0
      · rw [if_pos c, if_pos c]
        exact ⟨Nat.le_refl _, fun _ => rfl, by omega⟩
      · rw [if_neg c, if_neg c]
        obtain ⟨h1, h2, h3⟩ := LST_succ n E
        exact ⟨by omega, fun h => by rw [h2 (by omega)], by omega⟩
end LS9
section CK9
variable {LS : List Nat} {SE : Nat → SV} {B : BB} {i c : Nat}
theorem acc6 {b9 : Int32} : f_account B b9 6 = b9 := by
  unfold f_account
  rw [if_neg (by decide), if_neg (by decide), if_neg (by decide), if_neg (by decide), if_neg (by decide), if_neg (by decide), if_pos rfl]
/-- where a spell boils over -/
def BO9 (B : BB) (i : Nat) : Option Nat := flC B.1.2.2.2.2.2.2.1 B.1.2.2.2.2.2.2.2.1 B.1.2.2.2.2.2.2.2.2.1 (CNo B) (B.2.2.2 i)
theorem boils_in (hi : i < B.2.2.1) (h4 : B.2.2.1 ≤ 4) : f_boils B (nI i) = match BO9 B i with | none => -14 | some q => nI q := by
  unfold f_boils
  rw [fx_in hi (by omega)]
  rfl
theorem boils_out {q : Int32} (h4 : B.2.2.1 ≤ 4) (ho : OUT q B.2.2.1) : f_boils B q = -11 := by
  unfold f_boils
  rw [fx_out (by omega) ho]
def LA9 (B : BB) (i : Nat) : Nat := LST B.1.2.2.2.2.2.2.1 B.1.2.2.2.2.2.2.2.1 B.1.2.2.2.2.2.2.2.2.1 (B.2.2.2 i) 50 (cutI B.1.2.2.2.2.1, cutU B.1.2.2.2.2.2.1)
theorem lasts_in (hi : i < B.2.2.1) (h4 : B.2.2.1 ≤ 4) : f_lasts B (nI i) = nI (LA9 B i) := by
  unfold f_lasts
  rw [fx_in hi (by omega)]
  rfl
theorem lasts_out {q : Int32} (h4 : B.2.2.1 ≤ 4) (ho : OUT q B.2.2.1) : f_lasts B q = -11 := by
  unfold f_lasts
  rw [fx_out (by omega) ho]
theorem LA9_le : LA9 B i ≤ 50 := LST_le _ _ _ _ _ _
theorem would_boil (hi : i < B.2.2.1) (h4 : B.2.2.1 ≤ 4) (hc : c < B.2.1) (h6 : B.2.1 ≤ 6) (hb : BO9 B i ≠ none) : f_would B (nI i) (nI c) = -100004 := by
  unfold f_would
  rw [fx_in hi (by omega)]
  dsimp only
  rw [fx_in hc (by omega)]
  exact if_neg hb
theorem would_out {q w : Int32} (h4 : B.2.2.1 ≤ 4) (ho : OUT q B.2.2.1) : f_would B q w = -100001 := by
  unfold f_would
  rw [fx_out (by omega) ho]
theorem would_out2 {q w : Int32} (h6 : B.2.1 ≤ 6) (ho : OUT w B.2.1) : f_would B q w = -100001 := by
  unfold f_would
  cases fx q B.2.2.1 with
  | none => rfl
  | some i =>
    dsimp only
    rw [fx_out (by omega) ho]
theorem LA9_boil (hB : BOK LS SE B) (hi : i < B.2.2.1) (hb : BO9 B i ≠ none) : LA9 B i = 0 := by
  unfold LA9
  have h := ckC_none (okt hB hi) hB.1 (nm := B.1.2.2.2.2.1) (nu := B.1.2.2.2.2.2.1) hb
  show (match ckC _ _ _ _ _ with | none => 0 | some D => _) = 0
  rw [h]
theorem bt9_is (h6 : B.2.1 ≤ 6) (hc : c < B.2.1) : bt9 B c = (if B.1.2.2.2.2.2.2.1 c = 0 then FP.i2f (B.1.2.2.2.2.1 c) else B.1.2.2.2.2.2.1 c).toInt32 := by
  unfold bt9 f_bits
  rw [nI_clamp (by omega)]
theorem bt9_beb {C : BB} (h6 : B.2.1 ≤ 6) (h : BEB B C) (hc : c < B.2.1) : bt9 B c = bt9 C c := by
  obtain ⟨h1, h2, h3, h4, h5, h6', h7, h8⟩ := h.1
  have e : C.2.1 = B.2.1 := by rw [h.2]
  rw [bt9_is h6 hc, bt9_is (by omega) (by omega), h5 c (by omega), h6' c (by omega), h7 c (by omega)]
/-- what cooking a spell brings, by the class's own asking -/
theorem cooked_is (hB : BOK LS SE B) (hi : i < B.2.2.1) (hb : BO9 B i = none) {r : Int32} {b' : BK} (hB' : BOK LS SE (b', B.2)) (hc : COOKED B i r b') :
    r = nI (UNL (bt9 B) (bt9 (b', B.2)) B.2.1) ∧ (∀ c, c < B.2.1 → f_of (b', B.2) (nI c) 3 = f_would B (nI i) (nI c)) ∧ (r = 0 ↔ LA9 B i = 0) ∧ (LA9 B i = 0 → LA9 (b', B.2) i = 0) ∧ (LA9 B i = 50 → 49 ≤ LA9 (b', B.2) i) ∧ (LA9 B i ≠ 0 → LA9 B i ≠ 50 → LA9 (b', B.2) i = LA9 B i - 1) := by
  have h6 := hB.1
  have h4 := hB.2.1
  have hX := hB.2.2.2.2.1
  have hX' := hB'.2.2.2.2.1
  have ho := okt hB hi
  obtain ⟨nm, nu, c1, c2, c3, c4, c5, c6, c7, c8, c9, c10, c11⟩ := hc
  have hN : NWR B.1.2.2.2.2.2.2.1 B.1.2.2.2.2.2.2.2.1 B.1.2.2.2.2.2.2.2.2.1 (fun c => (B.1.2.2.2.2.2.2.1 c, B.1.2.2.2.2.1 c, B.1.2.2.2.2.2.1 c)) (rT (B.2.2.2 i)).2.1 (rT (B.2.2.2 i)).2.2.1 (rT (B.2.2.2 i)).1 nm nu := c1
  -- the contents beyond the cauldrons stay
  have hfar : ∀ c, B.2.1 ≤ c → c < B.2.1 + (6 - B.2.1) → nm c = B.1.2.2.2.2.1 c ∧ nu c = B.1.2.2.2.2.2.1 c := fun c g1 g2 => NWR_far rfl hN (by omega) (fun p hp h7 e => by
    have := ho.2.2.2.2 p hp (Or.inr h7)
    omega)
  have hD6 : DFc nm B.1.2.2.2.2.1 nu B.1.2.2.2.2.2.1 6 = DFc nm B.1.2.2.2.2.1 nu B.1.2.2.2.2.2.1 B.2.1 := by
    have := DF_far (nc := B.2.1) (6 - B.2.1) hfar
    rwa [show B.2.1 + (6 - B.2.1) = 6 by omega] at this
  have hone : ∀ c, c < B.2.1 → (bt9 B c = bt9 (b', B.2) c ↔ nm c = B.1.2.2.2.2.1 c ∧ nu c = B.1.2.2.2.2.2.1 c) := by
    intro c hc
    have hc6 : c < 6 := by omega
    obtain ⟨⟨k1, k2, k3, k4⟩, k5, k6, k7, k8⟩ := hX c hc6
    obtain ⟨⟨l1, l2, l3, l4⟩, l5, l6, l7, l8⟩ := hX' c hc6
    have e1 : b'.2.2.2.2.1 c = nm c := c3 c hc6
    have e2 : b'.2.2.2.2.2.1 c = nu c := c4 c hc6
    have e3 : b'.2.2.2.2.2.2.1 c = B.1.2.2.2.2.2.2.1 c := by rw [c7]
    have k2 : B.1.2.2.2.2.2.2.1 c = 0 → B.1.2.2.2.2.2.1 c = 0 := k2
    have k3 : B.1.2.2.2.2.2.2.1 c ≠ 0 → B.1.2.2.2.2.1 c = 0 := k3
    have l2 : b'.2.2.2.2.2.2.1 c = 0 → b'.2.2.2.2.2.1 c = 0 := l2
    have l3 : b'.2.2.2.2.2.2.1 c ≠ 0 → b'.2.2.2.2.1 c = 0 := l3
    have l8 : b'.2.2.2.2.2.2.1 c = 0 → (b'.2.2.2.2.2.2.2.1 c).toInt ≤ (b'.2.2.2.2.1 c).toInt ∧ (b'.2.2.2.2.1 c).toInt ≤ (b'.2.2.2.2.2.2.2.2.1 c).toInt := l8
    have l5 : -99 ≤ (b'.2.2.2.2.2.2.2.1 c).toInt := l5
    have l6 : (b'.2.2.2.2.2.2.2.2.1 c).toInt ≤ 99 := l6
    rw [e1, e3] at l8 l3
    rw [e2, e3] at l2
    rw [bt9_is h6 hc, bt9_is (B := (b', B.2)) h6 hc]
    show ((if B.1.2.2.2.2.2.2.1 c = 0 then FP.i2f (B.1.2.2.2.2.1 c) else B.1.2.2.2.2.2.1 c).toInt32 = (if b'.2.2.2.2.2.2.1 c = 0 then FP.i2f (b'.2.2.2.2.1 c) else b'.2.2.2.2.2.1 c).toInt32) ↔ _
    rw [e1, e2, e3]
    by_cases z : B.1.2.2.2.2.2.2.1 c = 0
    · rw [if_pos z, if_pos z]
      have k8 := k8 z
      have l8 := l8 z
      constructor
      · intro h
        have h := u32_inj h
        have h := congrArg FP.f2i h
        rw [f2i_i2f (by omega) (by omega), f2i_i2f (by omega) (by omega)] at h
        exact ⟨h.symm, by rw [l2 z, k2 z]⟩
      · intro h
        rw [h.1]
    · rw [if_neg z, if_neg z]
      constructor
      · intro h
        exact ⟨by rw [l3 z, k3 z], (u32_inj h).symm⟩
      · intro h
        rw [h.2]
  have hU : ∀ n, n ≤ B.2.1 → UNL (bt9 B) (bt9 (b', B.2)) n = DFc nm B.1.2.2.2.2.1 nu B.1.2.2.2.2.2.1 n := by
    intro n
    induction n with
    | zero => intro _; rfl
    | succ n ih =>
      intro hn
      show UNL (bt9 B) (bt9 (b', B.2)) n + (if bt9 B n = bt9 (b', B.2) n then 0 else 1) = DFc nm B.1.2.2.2.2.1 nu B.1.2.2.2.2.2.1 n + (if nm n = B.1.2.2.2.2.1 n ∧ nu n = B.1.2.2.2.2.2.1 n then 0 else 1)
      rw [ih (by omega)]
      by_cases z : bt9 B n = bt9 (b', B.2) n
      · rw [if_pos z, if_pos ((hone n (by omega)).mp z)]
      · rw [if_neg z, if_neg (fun y => z ((hone n (by omega)).mpr y))]
  have hle := DF_le nm B.1.2.2.2.2.1 nu B.1.2.2.2.2.2.1 6
  -- the rounds
  have hs := ckC_some ho h6 (nm := B.1.2.2.2.2.1) (nu := B.1.2.2.2.2.2.1) hb hN
  have hdf : DFc (cutI nm) (cutI B.1.2.2.2.2.1) (cutU nu) (cutU B.1.2.2.2.2.2.1) 6 = DFc nm B.1.2.2.2.2.1 nu B.1.2.2.2.2.2.1 6 := DF_cg 6 (fun c hc => ⟨cutI_ag _ c hc, cutI_ag _ c hc, cutU_ag _ c hc, cutU_ag _ c hc⟩)
  have hL : LA9 B i = if DFc nm B.1.2.2.2.2.1 nu B.1.2.2.2.2.2.1 6 = 0 then 0 else LST B.1.2.2.2.2.2.2.1 B.1.2.2.2.2.2.2.2.1 B.1.2.2.2.2.2.2.2.2.1 (B.2.2.2 i) 49 (cutI nm, cutU nu) + 1 := by
    unfold LA9
    show (match ckC B.1.2.2.2.2.2.2.1 B.1.2.2.2.2.2.2.2.1 B.1.2.2.2.2.2.2.2.2.1 (B.2.2.2 i) (cutI B.1.2.2.2.2.1, cutU B.1.2.2.2.2.2.1) with | none => 0 | some D => if DFc D.1 (cutI B.1.2.2.2.2.1) D.2 (cutU B.1.2.2.2.2.2.1) 6 = 0 then 0 else LST B.1.2.2.2.2.2.2.1 B.1.2.2.2.2.2.2.2.1 B.1.2.2.2.2.2.2.2.2.1 (B.2.2.2 i) 49 D + 1) = _
    rw [hs]
    show (if DFc (cutI nm) (cutI B.1.2.2.2.2.1) (cutU nu) (cutU B.1.2.2.2.2.2.1) 6 = 0 then 0 else _) = _
    rw [hdf]
  have hL' : LA9 (b', B.2) i = LST B.1.2.2.2.2.2.2.1 B.1.2.2.2.2.2.2.2.1 B.1.2.2.2.2.2.2.2.2.1 (B.2.2.2 i) 50 (cutI nm, cutU nu) := by
    unfold LA9
    show LST b'.2.2.2.2.2.2.1 b'.2.2.2.2.2.2.2.1 b'.2.2.2.2.2.2.2.2.1 (B.2.2.2 i) 50 (cutI b'.2.2.2.2.1, cutU b'.2.2.2.2.2.1) = _
    rw [c7, c8, c9, cutI_eq c3, cutU_eq c4]
  have hsame : DFc nm B.1.2.2.2.2.1 nu B.1.2.2.2.2.2.1 6 = 0 → LA9 (b', B.2) i = LA9 B i := by
    intro z
    have hz : ∀ n, n ≤ 6 → DFc nm B.1.2.2.2.2.1 nu B.1.2.2.2.2.2.1 n = 0 → ∀ c, c < n → nm c = B.1.2.2.2.2.1 c ∧ nu c = B.1.2.2.2.2.2.1 c := by
      intro n
      induction n with
      | zero => intro _ _ c h; omega
      | succ n ih =>
        intro hn z c hc
        have z : DFc nm B.1.2.2.2.2.1 nu B.1.2.2.2.2.2.1 n + (if nm n = B.1.2.2.2.2.1 n ∧ nu n = B.1.2.2.2.2.2.1 n then 0 else 1) = 0 := z
        by_cases y : nm n = B.1.2.2.2.2.1 n ∧ nu n = B.1.2.2.2.2.2.1 n
        · rw [if_pos y] at z
          by_cases e : c = n
          · rw [e]; exact y
          · exact ih (by omega) (by omega) c (by omega)
        · rw [if_neg y] at z; omega
    have hz := hz 6 (Nat.le_refl _) z
    rw [hL']
    unfold LA9
    rw [cutI_eq (fun c hc => (hz c hc).1), cutU_eq (fun c hc => (hz c hc).2)]
  obtain ⟨s1, s2, s3⟩ := LST_succ (kd := B.1.2.2.2.2.2.2.1) (lo := B.1.2.2.2.2.2.2.2.1) (hi := B.1.2.2.2.2.2.2.2.2.1) (x := B.2.2.2 i) 49 (cutI nm, cutU nu)
  have s1 : LST B.1.2.2.2.2.2.2.1 B.1.2.2.2.2.2.2.2.1 B.1.2.2.2.2.2.2.2.2.1 (B.2.2.2 i) 49 (cutI nm, cutU nu) ≤ LA9 (b', B.2) i := by rw [hL']; exact s1
  have s2 : LST B.1.2.2.2.2.2.2.1 B.1.2.2.2.2.2.2.2.1 B.1.2.2.2.2.2.2.2.2.1 (B.2.2.2 i) 49 (cutI nm, cutU nu) < 49 → LA9 (b', B.2) i = LST B.1.2.2.2.2.2.2.1 B.1.2.2.2.2.2.2.2.1 B.1.2.2.2.2.2.2.2.2.1 (B.2.2.2 i) 49 (cutI nm, cutU nu) := by rw [hL']; exact s2
  have hl49 := LST_le B.1.2.2.2.2.2.2.1 B.1.2.2.2.2.2.2.2.1 B.1.2.2.2.2.2.2.2.2.1 (B.2.2.2 i) 49 (cutI nm, cutU nu)
  refine ⟨?_, ?_, ?_, ?_, ?_, ?_⟩
  · rw [c2, hD6, hU _ (Nat.le_refl _)]
  · intro c hc
    have hc6 : c < 6 := by omega
    obtain ⟨a, a1, a2, a3, a4, a5⟩ := hN c hc6
    have ew : f_would B (nI i) (nI c) = CUT a := by
      unfold f_would
      rw [fx_in hi (by omega)]
      dsimp only
      rw [fx_in hc (by omega)]
      refine (if_pos hb).trans ?_
      have a1 : nwO B.1.2.2.2.2.2.2.1 B.1.2.2.2.2.2.2.2.1 B.1.2.2.2.2.2.2.2.2.1 (CNo B) (rT (B.2.2.2 i)).2.1 (rT (B.2.2.2 i)).2.2.1 (rT (B.2.2.2 i)).1 c = some a := a1
      rw [a1]
    rw [of3 (B := (b', B.2)) hc h6, ew]
    show (if b'.2.2.2.2.2.2.1 c = 0 then b'.2.2.2.2.1 c else FP.f2i (b'.2.2.2.2.2.1 c)) = CUT a
    unfold CUT
    rw [c7, c3 c hc6, c4 c hc6, a3, a4, a5]
  · rw [c2, hL]
    by_cases z : DFc nm B.1.2.2.2.2.1 nu B.1.2.2.2.2.2.1 6 = 0
    · rw [if_pos z, z]
      exact ⟨fun _ => rfl, fun _ => rfl⟩
    · rw [if_neg z]
      constructor
      · intro y
        have := nI_inj (b := 0) (by omega) (by omega) y
        omega
      · intro y; omega
  · intro z
    by_cases y : DFc nm B.1.2.2.2.2.1 nu B.1.2.2.2.2.2.1 6 = 0
    · rw [hsame y]; exact z
    · rw [hL, if_neg y] at z; omega
  · intro z
    by_cases y : DFc nm B.1.2.2.2.2.1 nu B.1.2.2.2.2.2.1 6 = 0
    · rw [hL, if_pos y] at z; omega
    · rw [hL, if_neg y] at z; omega
  · intro z z2
    by_cases y : DFc nm B.1.2.2.2.2.1 nu B.1.2.2.2.2.2.1 6 = 0
    · rw [hL, if_pos y] at z; omega
    · rw [hL, if_neg y] at z2 ⊢
      rw [s2 (by omega)]
      omega
end CK9
