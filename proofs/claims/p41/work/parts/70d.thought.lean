/-! THE LAW's thought holds -/
theorem BE_sy {b b' : BK} (h : BE b b') : BE b' b := by
  obtain ⟨h1, h2, h3, h4, h5, h6, h7, h8, h9, h10, h11, h12⟩ := h
  exact ⟨h1.symm, h2.symm, h3.symm, h4.symm, AG_y h5, AG_y h6, AG_y h7, AG_y h8, AG_y h9, AG_y h10, AG_y h11, AG_y h12⟩
theorem BE_tr {b b' b'' : BK} (h : BE b b') (g : BE b' b'') : BE b b'' := by
  obtain ⟨h1, h2, h3, h4, h5, h6, h7, h8, h9, h10, h11, h12⟩ := h
  obtain ⟨g1, g2, g3, g4, g5, g6, g7, g8, g9, g10, g11, g12⟩ := g
  exact ⟨h1.trans g1, h2.trans g2, h3.trans g3, h4.trans g4, AG_t h5 g5, AG_t h6 g6, AG_t h7 g7, AG_t h8 g8, AG_t h9 g9, AG_t h10 g10, AG_t h11 g11, AG_t h12 g12⟩
theorem BEB_r {B : BB} : BEB B B := ⟨BE_r _, rfl⟩
theorem BEB_sy {B C : BB} (h : BEB B C) : BEB C B := ⟨BE_sy h.1, h.2.symm⟩
theorem BEB_tr {B C D : BB} (h : BEB B C) (g : BEB C D) : BEB B D := ⟨BE_tr h.1 g.1, h.2.trans g.2⟩
/-- the bits of cauldrons' contents -/
def bt9 (B : BB) (c : Nat) : Int32 := f_bits B (nI c)
theorem i2f_inj_all : ∀ a : Fin 200, FP.f2i (FP.i2f (Int32.ofInt ((a.1 : Int) - 100))) = Int32.ofInt ((a.1 : Int) - 100) := by decide +kernel
theorem f2i_i2f {v : Int32} (h1 : -99 ≤ v.toInt) (h2 : v.toInt ≤ 99) : FP.f2i (FP.i2f v) = v := by
  have e : v = Int32.ofInt (((v.toInt + 100).toNat : Int) - 100) := by
    apply Int32.toInt_inj.mp
    have t2 : (Int32.size : Nat) = 4294967296 := rfl
    rw [Int32.toInt_ofInt, t2]
    rw [Int.bmod_eq_of_le] <;> omega
  have h := i2f_inj_all ⟨(v.toInt + 100).toNat, by omega⟩
  rw [e]
  exact h
theorem u32_inj {a b : UInt32} (h : a.toInt32 = b.toInt32) : a = b := by
  have := congrArg Int32.toUInt32 h
  rwa [UInt32.toUInt32_toInt32, UInt32.toUInt32_toInt32] at this
/-- how many are unlike -/
def UNL (f g : Nat → Int32) : Nat → Nat
  | 0 => 0
  | c + 1 => UNL f g c + if f c = g c then 0 else 1
theorem UNL_le (f g : Nat → Int32) : ∀ n, UNL f g n ≤ n
  | 0 => Nat.le_refl 0
  | n + 1 => by
    have := UNL_le f g n
    show UNL f g n + (if f n = g n then 0 else 1) ≤ n + 1
    split <;> omega
theorem UNL_same {f g : Nat → Int32} : ∀ n, (∀ c, c < n → f c = g c) → UNL f g n = 0
  | 0, _ => rfl
  | n + 1, h => by
    show UNL f g n + (if f n = g n then 0 else 1) = 0
    rw [UNL_same n (fun c hc => h c (by omega)), if_pos (h n (by omega))]
theorem UNL_cg {f g f' g' : Nat → Int32} : ∀ n, (∀ c, c < n → f c = f' c ∧ g c = g' c) → UNL f g n = UNL f' g' n
  | 0, _ => rfl
  | n + 1, h => by
    show UNL f g n + (if f n = g n then 0 else 1) = UNL f' g' n + (if f' n = g' n then 0 else 1)
    rw [UNL_cg n (fun c hc => h c (by omega)), (h n (by omega)).1, (h n (by omega)).2]
section PT9
variable {σ : AB} {KA : Nat → (Nat → Int32) → AB → Prop} {K : Int32 → AB → Prop}
theorem up_same {f : Nat → Int32} {i : Nat} {v : Int32} : upd f i v i = v := x_us
theorem pt_bits (h6 : σ.1.2.1 ≤ 6) (hK : ∀ f, (∀ c, c < σ.1.2.1 → f c = bt9 σ.1 c) → KA σ.1.2.1 f σ) : wp_L_bits KA σ := by
  have hloop : ∀ n c f, c ≤ σ.1.2.1 → σ.1.2.1 - c < n → (∀ d, d < c → f d = bt9 σ.1 d) → wp_L_bits_b10 KA n (nI c) σ.1.2.1 f σ := by
    intro n
    induction n with
    | zero => intro c f _ h; omega
    | succ n ih =>
      intro c f hc hm hf
      unfold wp_L_bits_b10
      refine ⟨fun q => ?_, fun q => ?_⟩
      · rw [nI_le9 (by omega) (by omega)] at q
        obtain rfl : c = σ.1.2.1 := by omega
        exact hK f hf
      · rw [nI_le9 (by omega) (by omega)] at q
        have hc' : c < σ.1.2.1 := by omega
        refine ⟨⟨c, hc', rfl⟩, fun r e => ?_⟩
        refine ⟨x_inb hc' (by omega), fun f2 e2 v ev => ?_⟩
        rw [ev, nI_1, e2, nI_clamp (by omega), e]
        refine ih (c + 1) _ (by omega) (by omega) (fun d hd => ?_)
        by_cases z : d = c
        · rw [z]; exact x_us
        · rw [x_un z]
          exact hf d (by omega)
  refine ⟨n8 (n := 0) (by decide), fun r e => ?_⟩
  rw [acc0] at e
  rw [e]
  exact ⟨σ.1.2.1, by omega, rfl, hloop 8 0 _ (Nat.zero_le _) (by omega) (fun d hd => absurd hd (Nat.not_lt_zero d))⟩
theorem pt_unlike {m : Nat} {f g : Nat → Int32} (h6 : m ≤ 6) (hK : K (nI (UNL f g m)) σ) : wp_L_unlike K m f m g σ := by
  have hloop : ∀ n c, c ≤ m → m - c < n → wp_L_unlike_b4 K m f m g n (nI (UNL f g c)) (nI c) σ := by
    intro n
    induction n with
    | zero => intro c _ h; omega
    | succ n ih =>
      intro c hc hm
      have hu := UNL_le f g c
      unfold wp_L_unlike_b4
      refine ⟨fun q => ?_, fun q => ?_⟩
      · rw [nI_le9 (by omega) (by omega)] at q
        obtain rfl : c = m := by omega
        exact hK
      · rw [nI_le9 (by omega) (by omega)] at q
        have hc' : c < m := by omega
        have ih := ih (c + 1) (by omega) (by omega)
        refine ⟨x_inb hc' (by omega), x_inb hc' (by omega), ?_⟩
        rw [nI_clamp (by omega)]
        refine ⟨fun z => ?_, fun z => ?_⟩
        · intro v e w e2
          rw [e2, nI_1, e]
          have : UNL f g (c + 1) = UNL f g c := by
            show UNL f g c + (if f c = g c then 0 else 1) = _
            rw [if_pos z]
            rfl
          rw [this] at ih
          first | exact ih | (rw [show (nI (UNL f g c) + 0 : Int32) = nI (UNL f g c) from Int32.add_zero _]; exact ih)
        · intro v e w e2
          rw [e2, nI_1, e]
          have : UNL f g (c + 1) = UNL f g c + 1 := by
            show UNL f g c + (if f c = g c then 0 else 1) = _
            rw [if_neg z]
          rw [this] at ih
          first | exact ih | (rw [nI_1]; exact ih)
  exact hloop 8 0 (Nat.zero_le _) (by omega)
end PT9
