/-! THE LAW's drawn: what it leaves -/
theorem rm9 (x y : Int32) : (x - x / y * y).toInt = x.toInt.tmod y.toInt := by
  have h1 := Int32.le_toInt (x % y)
  have h2 := Int32.toInt_lt (x % y)
  rw [Int32.toInt_mod] at h1 h2
  rw [Int32.toInt_sub, Int32.toInt_mul, Int32.toInt_div, Int.bmod_mul_bmod, Int.sub_bmod_bmod, Int.mul_comm (x.toInt.tdiv y.toInt), ← Int.tmod_def]
  exact Int.bmod_eq_of_le_mul_two (by omega) (by omega)
theorem neg9 {a : Nat} (h : a < 2147483648) : (-(nI a)).toInt = -(a : Int) := by
  rw [Int32.toInt_neg, nI_toInt h]
  rw [Int.bmod_eq_of_le] <;> omega
theorem low9 {x : Int32} {a : Nat} (hx : x = nI a) (h : a < 2147483648) : ((-x) - (-x) / (30 : Int32) * (30 : Int32)).toInt = -((a % 30 : Nat) : Int) := by
  rw [rm9, hx, neg9 h, show (30 : Int32).toInt = 30 from rfl, Int.neg_tmod, Int.tmod_eq_emod_of_nonneg (by omega)]
  omega
/-- what is so while the book is drawn -/
def D9 (k s : Nat) (σ : AB) : Prop := GOK σ ∧ σ.2.2.2.2.1 = [] ∧ σ.1.2.1 = k ∧ σ.1.2.2.1 = s ∧ (∀ j, j < 4 → σ.1.1.2.2.2.2.2.2.2.2.2.2.2 j = 0) ∧ ∀ c, c < 6 → σ.1.1.2.2.2.2.2.2.2.2.2.1 c = 0
theorem D9_0 : D9 0 0 σ0 := ⟨⟨⟨[], SE9, BOK_0, fun r hr => absurd hr (Nat.not_lt_zero r)⟩, by decide, by decide, by decide⟩, rfl, rfl, rfl, fun _ _ => rfl, fun _ _ => rfl⟩
section DRW
variable {K : AB → Prop} {sn : Nat} {sg : Nat → Int32} {n : Nat} {x2 : Int32}
/-! the spells -/
theorem dr_245 (hn : sn < 2147483648) (h2 : 2 ≤ n) (h5 : n ≤ 5) {N a : Nat} (ha : a < 2147483648) (ex : (x2.toUInt32 >>> ((4 : Int32).toUInt32 &&& Int32.toUInt32 31)).toInt32 = nI a) (eN : N = 1 + a % 4) (hK : ∀ σ s, D9 n s σ → K σ) : ∀ m i σ, i ≤ N → N - i < m → D9 n i σ → wp_L_drawn_b245 K sn sg m x2 (nI n) (nI i) σ := by
  intro m
  induction m with
  | zero => intro i σ _ h; omega
  | succ m ih =>
    intro i σ hi hm hD
    unfold wp_L_drawn_b245
    refine ⟨by decide, fun v4 e4 => ?_⟩
    have e4 : v4 = nI (a % 4) := e4.trans (rem9 (d := 4) ex ha (by omega) (by omega))
    have e1 : (1 : Int32) + v4 = nI N := by rw [e4, eN]; exact nI_add 1 _
    rw [e1]
    refine ⟨fun _ => hK σ i hD, fun q => ?_⟩
    rw [nI_le9 (by omega) (by omega)] at q
    have hi' : i < N := by omega
    -- behind the text
    have go : ∀ t σ', σ' = σ → t.length ≤ 14 → S7o t → OKT n (tx9 t) → wp_L_drawn_b320 K sn sg (wp_L_drawn_b245 K sn sg m) x2 (nI n) (nI i) t σ' := by
      intro t σ' es hl h7 hok
      subst es
      refine pt_writeD hD.2.1 (by omega) h7 (fun r σ2 hG2 hr => ?_)
      obtain ⟨⟨a1, -, -⟩, hr⟩ := hr
      obtain ⟨d1, d2, d3, d4, d5, d6⟩ := hD
      have hw : WOK (σ'.1, σ'.2.1, σ'.2.2.1, σ'.2.2.2.1, t, σ'.2.2.2.2.2) := ⟨by rw [← d3] at hok; exact hok, by show σ'.1.2.2.1 < 4; omega⟩
      rcases hr with ⟨hnw, -⟩ | ⟨-, hr, w1, w2, w3, w4, w5, w6, w7, w8, w9, w10⟩
      · exact absurd hw hnw
      · have hr : r = nI i := by rw [hr, d4]
        refine ⟨fun _ v3 e3 => ?_, fun z => absurd hr z⟩
        rw [e3, nI_1]
        refine ih (i + 1) σ2 (by omega) (by omega) ⟨hG2, a1, ?_, ?_, fun j hj => ?_, fun c hc => ?_⟩
        · rw [w1]; exact d3
        · rw [w1]; show σ'.1.2.2.1 + 1 = i + 1; rw [d4]
        · rw [w10 j hj]
          show (if j = σ'.1.2.2.1 then 0 else σ'.1.1.2.2.2.2.2.2.2.2.2.2.2 j) = 0
          rw [d5 j hj]
          split <;> rfl
        · rw [w9]; exact d6 c hc
    rw [show (13 : Int32) + nI i = nI (13 + i) from nI_add 13 i, show (17 : Int32) + nI i = nI (17 + i) from nI_add 17 i]
    refine pt_cell hn (by omega) (fun r6 v7 e7 => ?_)
    refine pt_store (by omega) (by omega) (fun t ht => ⟨by decide, fun v10 e10 => ⟨fun _ => ?_, fun _ => ?_⟩⟩)
    · have hl := ht.1
      refine ⟨by show (0 : Nat) + t.length ≤ 16; omega, pt_cell hn (by omega) (fun r14 => ?_)⟩
      refine pt_store (by omega) (by omega) (fun t2 ht2 => ?_)
      have hl2 := ht2.1
      refine ⟨by show t.length + t2.length ≤ 16; omega, ?_, ?_⟩
      · show (t ++ t2).length < 16
        rw [List.length_append]
        omega
      · exact go (t ++ t2) σ rfl (by rw [List.length_append]; omega) (S7_app ht.2.1 ht2.2.1) (okt_2 ht ht2)
    · exact go t σ rfl (by have := ht.1; omega) ht.2.1 (okt_1 ht)
/-! what is poured -/
theorem dr_130 (hn : sn < 2147483648) (h5 : n ≤ 5) (hgo : ∀ σ, D9 n 0 σ → wp_L_drawn_b245 K sn sg 6 x2 (nI n) (0 : Int32) σ) : ∀ m k σ, k ≤ n → n - k < m → D9 n 0 σ → wp_L_drawn_b130 K sn sg m x2 (nI n) (nI k) σ := by
  intro m
  induction m with
  | zero => intro k σ _ h; omega
  | succ m ih =>
    intro k σ hk hm hD
    unfold wp_L_drawn_b130
    refine ⟨fun _ => hgo σ hD, fun q => ?_⟩
    rw [nI_le9 (by omega) (by omega)] at q
    have hk' : k < n := by omega
    obtain ⟨d1, d2, d3, d4, d5, d6⟩ := id hD
    obtain ⟨⟨LS, SE, hB, -⟩, -⟩ := id d1
    have h6 := hB.1
    have hkc : k < σ.1.2.1 := by omega
    obtain ⟨⟨b1, b2, b3, b4⟩, b5, b6, b7, b8⟩ := hB.2.2.2.2.1 k (by omega)
    rw [show (7 : Int32) + nI k = nI (7 + k) from nI_add 7 k]
    refine pt_cell hn (by omega) (fun r29 v30 e30 r31 e31 => ?_)
    obtain ⟨y, hy, ey⟩ := us9 r29 1 1 (by decide) (by decide)
    have ey : v30 = nI y := e30.trans ey
    rw [of0 hkc h6] at e31
    have h224 : ∀ r σ', -1000 ≤ r → D9 n 0 σ' → wp_L_drawn_b224 K sn sg (wp_L_drawn_b130 K sn sg m) x2 (nI n) (nI k) r σ' := fun r σ' hr hD' => by
      refine ⟨fun _ v19 e19 => ?_, fun z => absurd hr z⟩
      rw [e19, nI_1]
      exact ih (k + 1) σ' (by omega) (by omega) hD'
    refine ⟨fun c => ?_, fun c => ?_⟩
    · intro r20 e20
      refine ⟨fun z => absurd z (by decide), fun _ => ⟨by decide, fun v25 e25 r26 σ27 hr hG => ?_⟩⟩
      have e25 : v25 = nI (y % 2000) := e25.trans (rem9 (d := 2000) ey hy (by omega) (by omega))
      have hm2 : y % 2000 < 2000 := Nat.mod_lt _ (by omega)
      have et : (v25 - 1000).toInt = (y % 2000 : Nat) - 1000 := by
        rw [e25]
        exact pk_sub_toInt (b := 1000) (by omega) (by omega)
      have hok : OKladle σ.1 (nI k) (v25 - 1000) k := by
        refine ⟨hkc, rfl, fun z => by rw [e31, z] at c; exact absurd c (by decide), ?_, ?_⟩
        · rw [Int32.lt_iff_toInt_lt, et]
          have : (-9999 : Int32).toInt = -9999 := rfl
          omega
        · rw [Int32.le_iff_toInt_le, et]
          have : (9999 : Int32).toInt = 9999 := rfl
          omega
      rcases hr with ⟨hno, -⟩ | ⟨c9, hc9, hr, hs, -, hkp⟩
      · exact absurd ⟨k, hok⟩ hno
      · refine h224 _ _ (by rcases hr with z | z <;> rw [z] <;> decide) ⟨hG, by rw [hkp.2.1]; exact d2, by rw [hs]; exact d3, by rw [hs]; exact d4, fun j hj => by rw [hs]; exact d5 j hj, fun c hc => by rw [hs]; exact d6 c hc⟩
    · intro r20 e20
      rw [of1 hkc h6] at e20
      refine ⟨fun _ r21 e21 => ?_, fun z => absurd rfl z⟩
      rw [of2 hkc h6] at e21
      have hz : σ.1.1.2.2.2.2.2.2.1 k = 0 := (bo_cases b1).resolve_right (fun z => c (e31.trans z))
      obtain ⟨b9, b10⟩ := b8 hz
      rw [← e20] at b5 b7 b9
      rw [← e21] at b6 b7 b10
      obtain ⟨w, hw⟩ : ∃ w : Nat, (w : Int) = r21.toInt - r20.toInt := ⟨(r21.toInt - r20.toInt).toNat, by omega⟩
      have hw9 : w ≤ 198 := by omega
      have e9 : (r21 - r20) + 1 = nI (w + 1) := by
        have : r21 - r20 = nI w := by
          apply Int32.toInt_inj.mp
          rw [Int32.toInt_sub, nI_toInt (by omega), hw]
          rw [Int.bmod_eq_of_le] <;> omega
        rw [this, nI_1]
      rw [e9]
      refine ⟨nI_ne0 (by omega) (by omega), fun v22 e22 r23 σ24 hr hG => ?_⟩
      have e22 : v22 = nI (y % (w + 1)) := e22.trans (rem9 ey hy (by omega) (by omega))
      have hm2 : y % (w + 1) < w + 1 := Nat.mod_lt _ (by omega)
      have et : (r20 + v22).toInt = r20.toInt + (y % (w + 1) : Nat) := by
        rw [Int32.toInt_add, e22, nI_toInt (by omega)]
        rw [Int.bmod_eq_of_le] <;> omega
      have hok : OKpour σ.1 (nI k) (r20 + v22) k := by
        refine ⟨hkc, rfl, hz, ?_, ?_⟩
        · rw [et, ← e20]; omega
        · rw [et, ← e21]; omega
      rcases hr with ⟨hno, -⟩ | ⟨c9, hc9, hr, hs, -, hkp⟩
      · exact absurd ⟨k, hok⟩ hno
      · have ec : c9 = k := (nI_inj (by omega) (by have := hc9.1; omega) hc9.2.1).symm
        subst ec
        refine h224 _ _ ?_ ⟨hG, by rw [hkp.2.1]; exact d2, by rw [hs]; exact d3, by rw [hs]; exact d4, fun j hj => by rw [hs]; exact d5 j hj, fun c hc => by rw [hs]; exact d6 c hc⟩
        rw [Int32.le_iff_toInt_le, hr]
        have : (-1000 : Int32).toInt = -1000 := rfl
        omega
/-! the cauldrons -/
theorem D9_new {k : Nat} {σ σ' : AB} (hD : D9 k 0 σ) (h6 : k < 6) {kn l h v : Int32} (hG : GOK σ') (hs : σ'.1 = (bNew σ.1.1 σ.1.2.1 kn l h v, σ.1.2.1 + 1, σ.1.2.2)) (hkp : KEPTR σ σ') : D9 (k + 1) 0 σ' := by
  obtain ⟨d1, d2, d3, d4, d5, d6⟩ := hD
  refine ⟨hG, by rw [hkp.2.1]; exact d2, by rw [hs]; show σ.1.2.1 + 1 = k + 1; rw [d3], by rw [hs]; exact d4, fun j hj => by rw [hs]; exact d5 j hj, fun c hc => ?_⟩
  rw [hs]
  show upd σ.1.1.2.2.2.2.2.2.2.2.2.1 σ.1.2.1 0 c = 0
  by_cases z : c = σ.1.2.1
  · rw [z]; exact x_us
  · rw [x_un z]; exact d6 c hc
theorem dr_85 {k m : Nat} {x5 l h : Int32} (hk6 : k < 6) (hb : BNDS l h) {σ : AB} (hD : D9 k 0 σ) (hgo : ∀ σ', D9 (k + 1) 0 σ' → wp_L_drawn_b25 K sn sg m x2 (nI n) (nI (k + 1)) σ') : wp_L_drawn_b85 K sn sg (wp_L_drawn_b25 K sn sg m) x2 (nI n) (nI k) x5 l h σ := by
  have d3 := hD.2.2.1
  have h110 : ∀ r σ', r = nI k → D9 (k + 1) 0 σ' → wp_L_drawn_b110 K sn sg (wp_L_drawn_b25 K sn sg m) x2 (nI n) (nI k) r σ' := fun r σ' hr hD' => by
    refine ⟨fun _ v32 e32 => ?_, fun z => absurd hr z⟩
    rw [e32, nI_1]
    exact hgo σ' hD'
  refine ⟨by decide, fun v33 _ => ⟨fun _ r36 σ37 hr hG => ?_, fun _ r34 σ35 hr hG => ?_⟩⟩
  · rcases hr with ⟨hno, -⟩ | ⟨-, hr, hs, -, hkp⟩
    · exact absurd (by omega) hno
    · exact h110 _ _ (by rw [hr, d3]) (D9_new hD hk6 hG hs hkp)
  · rcases hr with ⟨hno, -⟩ | ⟨-, hr, hs, -, hkp⟩
    · exact absurd ⟨hb, by omega⟩ hno
    · exact h110 _ _ (by rw [hr, d3]) (D9_new hD hk6 hG hs hkp)
theorem dr_63 {k m y : Nat} {x5 l : Int32} (hk6 : k < 6) (ey : x5 = nI y) (hy : y < 2147483648) (hl : -99 ≤ l.toInt ∧ l.toInt ≤ 0) {σ : AB} (hD : D9 k 0 σ) (hgo : ∀ σ', D9 (k + 1) 0 σ' → wp_L_drawn_b25 K sn sg m x2 (nI n) (nI (k + 1)) σ') : wp_L_drawn_b63 K sn sg (wp_L_drawn_b25 K sn sg m) x2 (nI n) (nI k) x5 l σ := by
  refine ⟨by decide, fun v38 _ => ⟨fun _ => ?_, fun _ => ⟨by decide, fun v39 e39 => ?_⟩⟩⟩
  · have e99 : (99 : Int32).toInt = 99 := rfl
    exact dr_85 hk6 ⟨hl.1, by omega, by omega⟩ hD hgo
  · obtain ⟨u, hu, eu⟩ := us9 x5 9 9 (by decide) (by decide)
    have e39 : v39 = nI (u % 30) := e39.trans (rem9 (d := 30) eu hu (by omega) (by omega))
    have hm : u % 30 < 30 := Nat.mod_lt _ (by omega)
    have ev : v39.toInt = (u % 30 : Nat) := by rw [e39]; exact nI_toInt (by omega)
    exact dr_85 hk6 ⟨hl.1, by omega, by omega⟩ hD hgo
theorem dr_25 (hn : sn < 2147483648) (h5 : n ≤ 5) (hgo : ∀ σ, D9 n 0 σ → wp_L_drawn_b130 K sn sg 7 x2 (nI n) (0 : Int32) σ) : ∀ m k σ, k ≤ n → n - k < m → D9 k 0 σ → wp_L_drawn_b25 K sn sg m x2 (nI n) (nI k) σ := by
  intro m
  induction m with
  | zero => intro k σ _ h; omega
  | succ m ih =>
    intro k σ hk hm hD
    unfold wp_L_drawn_b25
    refine ⟨fun q => ?_, fun q => ?_⟩
    · rw [nI_le9 (by omega) (by omega)] at q
      obtain rfl : k = n := by omega
      exact hgo σ hD
    · rw [nI_le9 (by omega) (by omega)] at q
      rw [show (1 : Int32) + nI k = nI (1 + k) from nI_add 1 k]
      refine pt_cell hn (by omega) (fun r41 v42 e42 => ⟨by decide, fun v43 e43 => ?_⟩)
      obtain ⟨y, hy, ey⟩ := us9 r41 1 1 (by decide) (by decide)
      have ey : v42 = nI y := e42.trans ey
      have hnext : ∀ σ', D9 (k + 1) 0 σ' → wp_L_drawn_b25 K sn sg m x2 (nI n) (nI (k + 1)) σ' := fun σ' hD' => ih (k + 1) σ' (by omega) (by omega) hD'
      refine ⟨fun _ => ?_, fun _ => ⟨by decide, fun v44 e44 => ?_⟩⟩
      · exact dr_63 (by omega) ey hy (by decide) hD hnext
      · obtain ⟨u, hu, eu⟩ := us9 v42 3 3 (by decide) (by decide)
        have el := low9 eu hu
        rw [← e44] at el
        have hm : u % 30 < 30 := Nat.mod_lt _ (by omega)
        exact dr_63 (by omega) ey hy (by omega) hD hnext
/-- what drawn leaves -/
def DR9 (σ : AB) : Prop := GOK σ ∧ 2 ≤ σ.1.2.1 ∧ (∀ j, j < 4 → σ.1.1.2.2.2.2.2.2.2.2.2.2.2 j = 0) ∧ ∀ c, c < σ.1.2.1 → σ.1.1.2.2.2.2.2.2.2.2.2.1 c = 0
theorem pt_drawn (hn : sn < 2147483648) (hK : ∀ σ, DR9 σ → K σ) : wp_L_drawn K sn sg σ0 := by
  refine pt_cell (q := 0) hn (by omega) (fun r46 v47 e47 => ⟨by decide, fun v48 e48 v49 e49 => ?_⟩)
  obtain ⟨y, hy, ey⟩ := us9 r46 1 1 (by decide) (by decide)
  have ey : v47 = nI y := e47.trans ey
  have e48 : v48 = nI (y % 4) := e48.trans (rem9 (d := 4) ey hy (by omega) (by omega))
  have e49 : v49 = nI (2 + y % 4) := by rw [e49, e48]; exact nI_add 2 _
  have h5 : 2 + y % 4 ≤ 5 := by omega
  obtain ⟨a, ha, ea⟩ := us9 v47 4 4 (by decide) (by decide)
  rw [e49]
  refine dr_25 hn h5 (fun σ1 h1 => dr_130 hn h5 (fun σ2 h2 => dr_245 hn (by omega) h5 ha ea rfl (fun σ s hD => hK σ ?_) 6 0 σ2 (Nat.zero_le _) (by omega) h2) 7 0 σ1 (Nat.zero_le _) (by omega) h1) 7 0 σ0 (Nat.zero_le _) (by omega) D9_0
  obtain ⟨d1, d2, d3, d4, d5, d6⟩ := hD
  obtain ⟨⟨LS, SE, hB, -⟩, -⟩ := id d1
  exact ⟨d1, by omega, d5, fun c hc => d6 c (by have := hB.1; omega)⟩
end DRW
