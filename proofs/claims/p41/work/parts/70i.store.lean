/-! THE LAW's store: its texts are what the reader takes -/
theorem us9 (p s : Int32) (k : Nat) (hs : ((s.toUInt32 &&& Int32.toUInt32 31).toBitVec % 32).toNat = k) (h1 : 1 ≤ k) : ∃ a : Nat, a < 2147483648 ∧ (p.toUInt32 >>> (s.toUInt32 &&& Int32.toUInt32 31)).toInt32 = nI a := by
  have h := pk_ushr p s k hs
  have h2 : p.toBitVec.toNat < 2 ^ 32 := p.toBitVec.isLt
  have h3 : p.toBitVec.toNat / 2 ^ k < 2147483648 := by
    have h4 : 2 ^ 1 ≤ 2 ^ k := Nat.pow_le_pow_right (by decide) h1
    have h5 : p.toBitVec.toNat / 2 ^ k ≤ p.toBitVec.toNat / 2 ^ 1 := Nat.div_le_div_left h4 (by decide)
    omega
  refine ⟨p.toBitVec.toNat / 2 ^ k, h3, ?_⟩
  apply Int32.toBitVec_inj.mp
  apply BitVec.eq_of_toNat_eq
  rw [h, pk_tn (by omega)]
theorem rem9 {x : Int32} {a d : Nat} (hx : x = nI a) (ha : a < 2147483648) (h0 : 0 < d) (hd : d < 2147483648) : x - x / nI d * nI d = nI (a % d) := by
  rw [hx]
  exact pk_rem ha h0 hd
section PST
variable {nc : Nat} {σ : AB} {K : List Nat → AB → Prop} {x0 : Int32} {a b : List Nat}
theorem let9 {v : Nat} (hv : v < nc) (h6 : nc ≤ 6) : (((97 : Int32) + nI v).toUInt32 % 65536).toInt32 = nI (97 + v) := i2c97 ⟨v, by omega⟩
theorem pt_132 (h1 : 1 ≤ nc) (h6 : nc ≤ 6) (hl : a.length + b.length ≤ 3) (sa : S7o a) (sb : S7o b) (ha : UNT nc a) (hp : PR9 nc a b) (hK : ∀ t, GT9 nc t → K t σ) : wp_L_store_b132 K x0 (nI nc) a b σ := by
  have hla : a.length ≤ 3 := by omega
  obtain ⟨y, hy, ey⟩ := us9 x0 12 12 (by decide) (by decide)
  refine ⟨by decide, nI_ne0 (by omega) (by omega), fun v4 e4 => ?_⟩
  have e4 : v4 = nI (y % nc) := e4.trans (rem9 ey hy (by omega) (by omega))
  have hv : y % nc < nc := Nat.mod_lt _ (by omega)
  refine ⟨97 + y % nc, by omega, by rw [e4]; exact let9 hv h6, by decide, by show (2 : Nat) < 16; decide, by decide, fun v8 _ => ?_⟩
  refine ⟨fun _ => ⟨?_, ?_, ?_, ?_, ?_, hK _ (gt_op h6 hv hl sa sb hp (Or.inl rfl))⟩, fun _ => ⟨fun _ => ⟨?_, ?_, ?_, ?_, ?_, hK _ (gt_op h6 hv hl sa sb hp (Or.inr (Or.inl rfl)))⟩, fun _ => ⟨fun _ => ⟨?_, ?_, ?_, ?_, ?_, hK _ (gt_op h6 hv hl sa sb hp (Or.inr (Or.inr rfl)))⟩, fun _ => ⟨fun _ => ⟨?_, ?_, ?_, ?_, hK _ (gt_cast h6 hv hla sa ha (Or.inl rfl))⟩, fun _ => ⟨fun _ => ⟨?_, ?_, ?_, ?_, hK _ (gt_cast h6 hv hla sa ha (Or.inr rfl))⟩, fun _ => ⟨fun _ => ⟨?_, ?_, ?_, ?_, ?_, hK _ (gt_bop h6 hv hl sa sb hp)⟩, fun _ => ⟨?_, ?_, ?_, hK _ (gt_one h6 hv hla sa ha)⟩⟩⟩⟩⟩⟩⟩
  all_goals
    simp only [List.length_append, List.length_nil, List.length_cons]
    omega
/-- the first of a store: a letter, or a number where the draw says so -/
def ONE9 (nc : Nat) (x0 : Int32) (a : List Nat) : Prop := a.length ≤ 2 ∧ S7o a ∧ UNT nc a ∧ ((a.length ≤ 1 ∧ UNX nc a) ∨ x0 - x0 / (3 : Int32) * (3 : Int32) = 0)
theorem pt_104 (h1 : 1 ≤ nc) (h6 : nc ≤ 6) (ha : ONE9 nc x0 a) (hK : ∀ t, GT9 nc t → K t σ) : wp_L_store_b104 K x0 (nI nc) a σ := by
  obtain ⟨y, hy, ey⟩ := us9 x0 8 8 (by decide) (by decide)
  refine ⟨by decide, nI_ne0 (by omega) (by omega), fun v4 e4 => ?_⟩
  have e4 : v4 = nI (y % nc) := e4.trans (rem9 ey hy (by omega) (by omega))
  have hv : y % nc < nc := Nat.mod_lt _ (by omega)
  refine ⟨97 + y % nc, by omega, by rw [e4]; exact let9 hv h6, by decide, by show (1 : Nat) < 16; decide, ?_⟩
  exact pt_132 (b := [97 + y % nc]) h1 h6 (by have := ha.1; simp only [List.length_cons, List.length_nil]; omega) ha.2.1 (S7_1 (by omega)) ha.2.2.1 (PR_l ha.2.2.1 (UNX_let hv h6)) hK
theorem pt_60 (h1 : 1 ≤ nc) (h6 : nc ≤ 6) (ha : ONE9 nc x0 a) (hK : ∀ t, GT9 nc t → K t σ) : wp_L_store_b60 K x0 (nI nc) a σ := by
  refine ⟨by decide, fun v60 e60 => ⟨fun _ => pt_104 h1 h6 ha hK, fun c60 => ⟨by decide, fun v61 _ => ⟨fun _ => ?_, fun _ => pt_104 h1 h6 ha hK⟩⟩⟩⟩
  obtain ⟨y, hy, ey⟩ := us9 x0 8 8 (by decide) (by decide)
  refine ⟨by decide, by decide, fun v65 e65 => ?_⟩
  have e65 : v65 = nI (y % 9) := e65.trans (rem9 (d := 9) ey hy (by omega) (by omega))
  have hv : y % 9 < 9 := Nat.mod_lt _ (by omega)
  have hr : v65.toInt = (y % 9 : Nat) := by rw [e65]; exact nI_toInt (by omega)
  have ed : dgs v65 = dg9 (y % 9) := by rw [e65]; exact dgs_12 ⟨y % 9, by omega⟩
  have e1 : dg9 (y % 9) = [48 + y % 9] := if_pos (by omega)
  have hun : a.length ≤ 1 ∧ UNX nc a := ha.2.2.2.resolve_right (fun z => c60 (by rw [e60, z]; decide))
  refine ⟨by omega, by rw [ed, e1]; show (1 : Nat) ≤ 16; decide, by rw [ed, e1]; show (1 : Nat) < 16; decide, ?_⟩
  refine pt_132 (b := dgs v65) h1 h6 ?_ ha.2.1 ?_ ha.2.2.1 (PR_r hun.2 ?_) hK
  · rw [ed, e1]
    have := hun.1
    simp only [List.length_cons, List.length_nil]
    omega
  · rw [ed]; exact S7_num (by omega)
  · rw [ed]; exact UNT_num (by omega)
theorem pt_store (h1 : 1 ≤ nc) (h6 : nc ≤ 6) (hK : ∀ t, GT9 nc t → K t σ) : wp_L_store K x0 (nI nc) σ := by
  refine ⟨by decide, fun v69 e69 => ⟨fun c69 => ?_, fun _ => ?_⟩⟩
  · obtain ⟨y, hy, ey⟩ := us9 x0 2 2 (by decide) (by decide)
    refine ⟨by decide, by decide, fun v80 e80 => ?_⟩
    have e80 : v80 = nI (y % 12) := e80.trans (rem9 (d := 12) ey hy (by omega) (by omega))
    have hv : y % 12 < 12 := Nat.mod_lt _ (by omega)
    have hr : v80.toInt = (y % 12 : Nat) := by rw [e80]; exact nI_toInt (by omega)
    have ed : dgs v80 = dg9 (y % 12) := by rw [e80]; exact dgs_12 ⟨y % 12, hv⟩
    have hlen := dg9_len (y % 12)
    refine ⟨by omega, by rw [ed]; show (0 : Nat) + _ ≤ 16; omega, by rw [ed]; show (dg9 (y % 12)).length < 16; omega, ?_⟩
    refine pt_60 (a := dgs v80) h1 h6 ⟨by rw [ed]; exact hlen, by rw [ed]; exact S7_num hv, by rw [ed]; exact UNT_num hv, Or.inr (by rw [← e69]; exact c69)⟩ hK
  · obtain ⟨y, hy, ey⟩ := us9 x0 2 2 (by decide) (by decide)
    refine ⟨by decide, nI_ne0 (by omega) (by omega), fun v73 e73 => ?_⟩
    have e73 : v73 = nI (y % nc) := e73.trans (rem9 ey hy (by omega) (by omega))
    have hv : y % nc < nc := Nat.mod_lt _ (by omega)
    refine ⟨97 + y % nc, by omega, by rw [e73]; exact let9 hv h6, by decide, by show (1 : Nat) < 16; decide, ?_⟩
    exact pt_60 (a := [97 + y % nc]) h1 h6 ⟨by show (1 : Nat) ≤ 2; decide, S7_1 (by omega), UNT_let hv h6, Or.inl ⟨Nat.le_refl 1, UNX_let hv h6⟩⟩ hK
end PST
