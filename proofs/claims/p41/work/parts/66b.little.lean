/-! THE LAW's methods (gen/laws41.py) -/
def wp_L_isDigit_b17 (K : (Int32 → AB → Prop))  (s0_17 : Int32) (σ : AB) : Prop :=
(bo s0_17 = true) ∧
K s0_17 σ
def wp_L_isDigit_b16 (K : (Int32 → AB → Prop))   (σ : AB) : Prop :=
wp_L_isDigit_b17 K (0 : Int32) σ
def wp_L_isDigit (K : (Int32 → AB → Prop)) (p1 : Int32) (σ : AB) : Prop :=
(p1 < 48 →
wp_L_isDigit_b16 K σ) ∧
(¬ p1 < 48 →
(57 < p1 →
wp_L_isDigit_b16 K σ) ∧
(¬ 57 < p1 →
wp_L_isDigit_b17 K (1 : Int32) σ))
def wp_L_cell_b16 (K : (Int32 → AB → Prop)) (sn : Nat) (sg : Nat → Int32)  (s0_16 : Int32) (σ : AB) : Prop :=
K s0_16 σ
def wp_L_cell (K : (Int32 → AB → Prop)) (sn : Nat) (sg : Nat → Int32) (p1 : Int32) (σ : AB) : Prop :=
((nI sn) ≤ p1 →
wp_L_cell_b16 K sn sg ((40503 : Int32) * p1) σ) ∧
(¬ (nI sn) ≤ p1 →
(inb p1 sn = true) ∧
wp_L_cell_b16 K sn sg (sg p1.toNatClampNeg) σ)
def wp_L_unlike_b25 (K : (Int32 → AB → Prop)) (mp1 : Nat) (fp1 : Nat → Int32) (mp2 : Nat) (fp2 : Nat → Int32) (k_4 : Int32 → Int32 → AB → Prop) (x3_25 : Int32) (s0_25 : Int32) (s1_25 : Int32) (σ : AB) : Prop :=
∀ v1 : Int32, v1 = (s1_25 + s0_25) →
∀ v2 : Int32, v2 = x3_25 + 1 →
k_4 v1 v2 σ
def wp_L_unlike_b4 (K : (Int32 → AB → Prop)) (mp1 : Nat) (fp1 : Nat → Int32) (mp2 : Nat) (fp2 : Nat → Int32)  : Nat → Int32 → Int32 → AB → Prop
  | 0, _, _, _ => False
  | n + 1, x2_4, x3_4, σ =>
    ((nI mp1) ≤ x3_4 →
    K x2_4 σ) ∧
    (¬ (nI mp1) ≤ x3_4 →
    (inb x3_4 mp1 = true) ∧
    (inb x3_4 mp2 = true) ∧
    ((fp1 x3_4.toNatClampNeg) = (fp2 x3_4.toNatClampNeg) →
    wp_L_unlike_b25 K mp1 fp1 mp2 fp2 (wp_L_unlike_b4 K mp1 fp1 mp2 fp2 n) x3_4 (0 : Int32) x2_4 σ) ∧
    (¬ (fp1 x3_4.toNatClampNeg) = (fp2 x3_4.toNatClampNeg) →
    wp_L_unlike_b25 K mp1 fp1 mp2 fp2 (wp_L_unlike_b4 K mp1 fp1 mp2 fp2 n) x3_4 (1 : Int32) x2_4 σ))
def wp_L_unlike (K : (Int32 → AB → Prop)) (mp1 : Nat) (fp1 : Nat → Int32) (mp2 : Nat) (fp2 : Nat → Int32) (σ : AB) : Prop :=
wp_L_unlike_b4 K mp1 fp1 mp2 fp2 8 (0 : Int32) (0 : Int32) σ
def wp_L_bits_b10 (K : (Nat → (Nat → Int32) → AB → Prop))  : Nat → Int32 → Nat → (Nat → Int32) → AB → Prop
  | 0, _, _, _, _ => False
  | n + 1, x2_10, mr1_10, fr1_10, σ =>
    ((nI mr1_10) ≤ x2_10 →
    K mr1_10 fr1_10 σ) ∧
    (¬ (nI mr1_10) ≤ x2_10 →
    (∃ n, n < σ.1.2.1 ∧ x2_10 = nI n) ∧
    ∀ r1 : Int32, r1 = f_bits σ.1 x2_10 →
    (inb x2_10 mr1_10 = true) ∧
    ∀ f2 : Nat → Int32, f2 = (upd fr1_10 x2_10.toNatClampNeg r1) →
    ∀ v3 : Int32, v3 = x2_10 + 1 →
    wp_L_bits_b10 K n v3 mr1_10 f2 σ)
def wp_L_bits (K : (Nat → (Nat → Int32) → AB → Prop))  (σ : AB) : Prop :=
(∃ n, n < 8 ∧ (0 : Int32) = nI n) ∧
∀ r4 : Int32, r4 = f_account σ.1 σ.2.2.2.2.2.2 (0 : Int32) →
∃ m5 : Nat, m5 ≤ 6 ∧ r4 = nI m5 ∧
wp_L_bits_b10 K 8 (0 : Int32) m5 (fun _ => 0) σ
def wp_L_text_b10 (K : (Nat → (Nat → Int32) → AB → Prop))  : Nat → Int32 → Nat → (Nat → Int32) → AB → Prop
  | 0, _, _, _, _ => False
  | n + 1, x3_10, mr2_10, fr2_10, σ =>
    ((nI mr2_10) ≤ x3_10 →
    K mr2_10 fr2_10 σ) ∧
    (¬ (nI mr2_10) ≤ x3_10 →
    ∀ (r1 : Int32) (σ2 : AB), (σ2 = σ ∧ r1 = (match fx x3_10 σ.2.2.2.1.length with | none => -14 | some k => nI (σ.2.2.2.1.getD k 0))) →
    (inb x3_10 mr2_10 = true) ∧
    ∀ v3 : Int32, v3 = (r1.toUInt32 % 65536).toInt32 →
    ∀ f4 : Nat → Int32, f4 = (upd fr2_10 x3_10.toNatClampNeg (vp_nar .char v3)) →
    ∀ v5 : Int32, v5 = x3_10 + 1 →
    wp_L_text_b10 K n v5 mr2_10 f4 σ2)
def wp_L_text (K : (Nat → (Nat → Int32) → AB → Prop)) (p1 : Int32) (σ : AB) : Prop :=
∀ (r6 : Int32) (σ7 : AB), ((OUT p1 σ.1.2.2.1 ∧ r6 = -11 ∧ σ7 = σ) ∨ (∃ i, i < σ.1.2.2.1 ∧ p1 = nI i ∧ r6 = nI (σ.1.2.2.2 i).1 ∧ σ7 = (σ.1, σ.2.1, σ.2.2.1, txC (σ.1.2.2.2 i), σ.2.2.2.2))) →
∃ m8 : Nat, m8 ≤ 60 ∧ r6 = nI m8 ∧
wp_L_text_b10 K 62 (0 : Int32) m8 (fun _ => 0) σ7
set_option maxHeartbeats 4000000 in
set_option maxRecDepth 100000 in
theorem lc_L_isDigit (l : Launch) (hl9 : l.stackTraces = false) (dC : Nat → ClassId) (dI : Nat → Nat → Nat) (cT : Nat → ClassId) {Hh : Heap} {a0 : Nat} {σ : AB} {W0 : va_W} {p1 : Int32} {K : (Int32 → AB → Prop)} (h : wp_L_isDigit K p1 σ) (hO : OB cT a0 σ W0) (hP0 : va_P (dC, dI) vwCl W0 Hh) (hD0 : va_D (fun _ => True) W0) : Met l yL_isDigit (wA yL_isDigit cL_isDigit 1 (some .boolean)) ({ frames := 0, cells := 0, slots := 0, locals := 0 } : Room) (PU dC dI cT [.int p1] Hh (va_A W0 Hh.size)) (QEI dC dI (fun r W1 => ∃ σ9, K r σ9 ∧ OB cT a0 σ9 W1) (va_A W0 Hh.size)) 0 0 (va_A W0 Hh.size) := by
  refine Met.ofW (cc := cL_isDigit) (maxL := 1) (ret := (some .boolean)) (by decide) rfl ?_
  intro p e s m args below meth c s₁ B hml hv
  obtain ⟨rfl, hH, hK, hX, hN, hZ, hT⟩ := hv
  subst hH
  have hx := B.exec
  have hb := B.bytes
  have hr := B.returns
  have hta : ∀ w ∈ ALLW, w.before [.int p1].toArray s = true := fun w hw => atoms_spec (ws := wA yL_isDigit cL_isDigit 1 (some .boolean)) B.pre w (List.mem_cons_of_mem _ hw)
  have hown : s.vm.findClass RL = some m.cls := findClass_of_methodNamed B.named
  have hlocks := B.notSynchronized
  have hD : va_D (va_A W0 s.heap.size) (([] : va_W) ++ W0) := hD0.self (sz := s.heap.size)
  generalize hAe : va_A W0 s.heap.size = A at hD hX hZ hT ⊢
  have hP : va_P (dC, dI) vwCl (([] : va_W) ++ W0) s.heap := hP0
  have hA : ∀ q : Nat, s.heap.size ≤ q → A q := fun q h => by rw [← hAe]; exact Or.inr h
  have hS : va_S A s.heap s.heap [] := va_S.rf
  have hl := lv_entry [.int p1] (n := 1) (Nat.le_of_ble_eq_true rfl)
  rw [lg_entry_eq]
  generalize (lg_sl [.int p1] ++ List.replicate (1 - (lg_sl [.int p1]).length) Slot.unset).toArray = ls at hl ⊢
  have hl : lv_has ls 1 [(0, .int p1)] := hl
  obtain ⟨Q, hQ⟩ : ∃ Q, Q = MQ below (QEI dC dI (fun r W1 => ∃ σ9, K r σ9 ∧ OB cT a0 σ9 W1) A) [.int p1].toArray s 0 0 A := ⟨_, rfl⟩
  rw [← hQ]
  have wB_17 : ∀ (s0_17 : Int32) (σ : AB) (wo : va_W) (H : Heap) (locs : List Loc) (ls : Array Slot) (cells slots : Nat), wp_L_isDigit_b17 K s0_17 σ → OB cT a0 σ wo → va_P (dC, dI) vwCl (([] : va_W) ++ wo) H → va_D A (([] : va_W) ++ wo) → va_S A s.heap H locs → lv_has ls 1 [] → cells + (0) ≤ 0 → slots + (0) ≤ 0 → W p l e ({ frames := 0, cells := 0, slots := 0, locals := 0 } : Room) s m [.int p1].toArray below meth c H locs cells slots Q (F0 m 17 ls [.int s0_17]) := by
    intro s0_17 σ wo H locs ls cells slots h hO hP hD hS hl hc1 hc2
    unfold wp_L_isDigit_b17 at h
    obtain ⟨hbz, h⟩ := h
    refine W.widen (k := 0) (n := 0) (by omega) (by omega) ?_
    rw [hQ]
    exact W.zret (ty := .boolean) (v := s0_17) hx hb hr (bo_n (v := s0_17) hbz) (fun t ht hW => ⟨⟨s0_17, wo, rfl, ⟨_, h, hO⟩, by rw [ht]; exact P_r hP, D_r hD⟩, hS.F ht⟩) hS.2.2 dL_isDigit_17
  have wB_16 : ∀  (σ : AB) (wo : va_W) (H : Heap) (locs : List Loc) (ls : Array Slot) (cells slots : Nat), wp_L_isDigit_b16 K  σ → OB cT a0 σ wo → va_P (dC, dI) vwCl (([] : va_W) ++ wo) H → va_D A (([] : va_W) ++ wo) → va_S A s.heap H locs → lv_has ls 1 [] → cells + (0) ≤ 0 → slots + (0) ≤ 0 → W p l e ({ frames := 0, cells := 0, slots := 0, locals := 0 } : Room) s m [.int p1].toArray below meth c H locs cells slots Q (F0 m 16 ls []) := by
    intro  σ wo H locs ls cells slots h hO hP hD hS hl hc1 hc2
    unfold wp_L_isDigit_b16 at h
    refine lv_iconst (v := 0) hx hb dL_isDigit_16 (by decide) ?_
    exact wB_17 (0 : Int32) σ _ _ _ _ _ _ h hO hP hD hS (lv_sub hl [] rfl) (by omega) (by omega)
  unfold wp_L_isDigit at h
  have hc1 : (0 : Nat) + 0 ≤ 0 := Nat.le_of_eq (Nat.zero_add _)
  have hc2 : (0 : Nat) + 0 ≤ 0 := Nat.le_of_eq (Nat.zero_add _)
  clear hP0 hD0 hAe
  obtain ⟨wo, e_w⟩ : ∃ z, z = W0 := ⟨W0, rfl⟩
  rw [← e_w] at hO hP hD
  clear e_w
  refine lv_iload_n hx hb dL_isDigit_0 rfl (lv_at hl 0 rfl) ?_
  refine lv_bipush (v := 48) hx hb dL_isDigit_1 (by decide) ?_
  refine lv_icmp_lt (tgt := 16) hx hb dL_isDigit_3 (by decide) (fun c0 => ?_) (fun c0 => ?_)
  · have h := h.1 c0
    exact wB_16 σ _ _ _ _ _ _ h hO hP hD hS (lv_sub hl [] rfl) (by omega) (by omega)
  · have h := h.2 c0
    refine lv_iload_n hx hb dL_isDigit_6 rfl (lv_at hl 0 rfl) ?_
    refine lv_bipush (v := 57) hx hb dL_isDigit_7 (by decide) ?_
    refine lv_icmp_gt (tgt := 16) hx hb dL_isDigit_9 (by decide) (fun c0 => ?_) (fun c0 => ?_)
    · have h := h.1 c0
      exact wB_16 σ _ _ _ _ _ _ h hO hP hD hS (lv_sub hl [] rfl) (by omega) (by omega)
    · have h := h.2 c0
      refine lv_iconst (v := 1) hx hb dL_isDigit_12 (by decide) ?_
      refine lv_goto (tgt := 17) hx hb dL_isDigit_13 (by decide) ?_
      exact wB_17 (1 : Int32) σ _ _ _ _ _ _ h hO hP hD hS (lv_sub hl [] rfl) (by omega) (by omega)
set_option maxHeartbeats 4000000 in
set_option maxRecDepth 100000 in
theorem lc_L_cell (l : Launch) (hl9 : l.stackTraces = false) (dC : Nat → ClassId) (dI : Nat → Nat → Nat) (cT : Nat → ClassId) {Hh : Heap} {a0 : Nat} {σ : AB} {W0 : va_W} {b9 sn : Nat} {sg : Nat → Int32} {p1 : Int32} {K : (Int32 → AB → Prop)} (h : wp_L_cell K sn sg p1 σ) (hO : OB cT a0 σ W0) (hP0 : va_P (dC, dI) vwCl W0 Hh) (hD0 : va_D (fun _ => True) W0) : Met l yL_cell (wA yL_cell cL_cell 2 (some .int)) ({ frames := 0, cells := 0, slots := 0, locals := 0 } : Room) (PUS b9 sn sg dC dI cT [.ref b9, .int p1] Hh (va_A W0 Hh.size)) (QEI dC dI (fun r W1 => ∃ σ9, K r σ9 ∧ OB cT a0 σ9 W1) (va_A W0 Hh.size)) 0 0 (va_A W0 Hh.size) := by
  refine Met.ofW (cc := cL_cell) (maxL := 2) (ret := (some .int)) (by decide) rfl ?_
  intro p e s m args below meth c s₁ B hml hv
  obtain ⟨rfl, hH, hK, hX, hN, hZ, hT, hC⟩ := hv
  subst hH
  have hx := B.exec
  have hb := B.bytes
  have hr := B.returns
  have hta : ∀ w ∈ ALLW, w.before [.ref b9, .int p1].toArray s = true := fun w hw => atoms_spec (ws := wA yL_cell cL_cell 2 (some .int)) B.pre w (List.mem_cons_of_mem _ hw)
  have hown : s.vm.findClass RL = some m.cls := findClass_of_methodNamed B.named
  have hlocks := B.notSynchronized
  have hD : va_D (va_A W0 s.heap.size) (([] : va_W) ++ W0) := hD0.self (sz := s.heap.size)
  generalize hAe : va_A W0 s.heap.size = A at hD hX hZ hT hC ⊢
  have hP : va_P (dC, dI) vwCl (([] : va_W) ++ W0) s.heap := hP0
  have hA : ∀ q : Nat, s.heap.size ≤ q → A q := fun q h => by rw [← hAe]; exact Or.inr h
  have hS : va_S A s.heap s.heap [] := va_S.rf
  have hl := lv_entry [.ref b9, .int p1] (n := 2) (Nat.le_of_ble_eq_true rfl)
  rw [lg_entry_eq]
  generalize (lg_sl [.ref b9, .int p1] ++ List.replicate (2 - (lg_sl [.ref b9, .int p1]).length) Slot.unset).toArray = ls at hl ⊢
  have hl : lv_has ls 2 [(0, .ref b9), (1, .int p1)] := hl
  obtain ⟨Q, hQ⟩ : ∃ Q, Q = MQ below (QEI dC dI (fun r W1 => ∃ σ9, K r σ9 ∧ OB cT a0 σ9 W1) A) [.ref b9, .int p1].toArray s 0 0 A := ⟨_, rfl⟩
  rw [← hQ]
  have wB_16 : ∀ (s0_16 : Int32) (σ : AB) (wo : va_W) (H : Heap) (locs : List Loc) (ls : Array Slot) (cells slots : Nat), wp_L_cell_b16 K sn sg s0_16 σ → OB cT a0 σ wo → va_P (dC, dI) vwCl (([] : va_W) ++ wo) H → va_D A (([] : va_W) ++ wo) → va_S A s.heap H locs → lv_has ls 2 [] → cells + (0) ≤ 0 → slots + (0) ≤ 0 → W p l e ({ frames := 0, cells := 0, slots := 0, locals := 0 } : Room) s m [.ref b9, .int p1].toArray below meth c H locs cells slots Q (F0 m 16 ls [.int s0_16]) := by
    intro s0_16 σ wo H locs ls cells slots h hO hP hD hS hl hc1 hc2
    unfold wp_L_cell_b16 at h
    refine W.widen (k := 0) (n := 0) (by omega) (by omega) ?_
    rw [hQ]
    exact W.iret (v := s0_16) hx hb hr (fun t ht hW => ⟨⟨s0_16, wo, rfl, ⟨_, h, hO⟩, by rw [ht]; exact P_r hP, D_r hD⟩, hS.F ht⟩) hS.2.2 dL_cell_16
  unfold wp_L_cell at h
  have hc1 : (0 : Nat) + 0 ≤ 0 := Nat.le_of_eq (Nat.zero_add _)
  have hc2 : (0 : Nat) + 0 ≤ 0 := Nat.le_of_eq (Nat.zero_add _)
  clear hP0 hD0 hAe
  obtain ⟨wo, e_w⟩ : ∃ z, z = W0 := ⟨W0, rfl⟩
  rw [← e_w] at hO hP hD
  clear e_w
  refine lv_iload_n hx hb dL_cell_0 rfl (lv_at hl 1 rfl) ?_
  refine lv_aload_n hx hb dL_cell_1 rfl (lv_at hl 0 rfl) ?_
  refine va_tlen (v := nI sn) hx hb hC hS rfl dL_cell_2 ?_
  refine lv_icmp_ge (tgt := 12) hx hb dL_cell_3 (by decide) (fun c0 => ?_) (fun c0 => ?_)
  · have h := h.1 c0
    refine lv_ldc (v := 40503) hx hb hown (hta _ kc_L_7) dL_cell_12 ?_
    refine lv_iload_n hx hb dL_cell_14 rfl (lv_at hl 1 rfl) ?_
    refine lv_imul hx hb dL_cell_15 ?_
    exact wB_16 ((40503 : Int32) * p1) σ _ _ _ _ _ _ h hO hP hD hS (lv_sub hl [] rfl) (by omega) (by omega)
  · have h := h.2 c0
    refine lv_aload_n hx hb dL_cell_6 rfl (lv_at hl 0 rfl) ?_
    refine lv_iload_n hx hb dL_cell_7 rfl (lv_at hl 1 rfl) ?_
    obtain ⟨hc, h⟩ := h
    refine va_ti hx hb hC hS (inb_in hc) rfl dL_cell_8 ?_
    refine lv_goto (tgt := 16) hx hb dL_cell_9 (by decide) ?_
    exact wB_16 (sg p1.toNatClampNeg) σ _ _ _ _ _ _ h hO hP hD hS (lv_sub hl [] rfl) (by omega) (by omega)
set_option maxHeartbeats 4000000 in
set_option maxRecDepth 100000 in
theorem lc_L_unlike (l : Launch) (hl9 : l.stackTraces = false) (dC : Nat → ClassId) (dI : Nat → Nat → Nat) (cT : Nat → ClassId) {Hh : Heap} {a0 : Nat} {σ : AB} {W0 : va_W} {mp1 : Nat} {fp1 : Nat → Int32} {mp2 : Nat} {fp2 : Nat → Int32} {ap1 : Nat} {ap2 : Nat} {K : (Int32 → AB → Prop)} (h : wp_L_unlike K mp1 fp1 mp2 fp2 σ) (hO : OB cT a0 σ W0) (hP0 : va_P (dC, dI) vwCl ([(ap1, .inl (cT 0, mp1, .inl fp1)), (ap2, .inl (cT 0, mp2, .inl fp2))] ++ W0) Hh) (hD0 : va_D (fun _ => True) ([(ap1, .inl (cT 0, mp1, .inl fp1)), (ap2, .inl (cT 0, mp2, .inl fp2))] ++ W0)) : Met l yL_unlike (wA yL_unlike cL_unlike 4 (some .int)) ({ frames := 0, cells := 0, slots := 0, locals := 0 } : Room) (PU dC dI cT [.ref ap1, .ref ap2] Hh (va_A ([(ap1, .inl (cT 0, mp1, .inl fp1)), (ap2, .inl (cT 0, mp2, .inl fp2))] ++ W0) Hh.size)) (QEI dC dI (fun r W9 => ∃ W1, W9 = ([(ap1, .inl (cT 0, mp1, .inl fp1)), (ap2, .inl (cT 0, mp2, .inl fp2))] : va_W) ++ W1 ∧ ∃ σ9, K r σ9 ∧ OB cT a0 σ9 W1) (va_A ([(ap1, .inl (cT 0, mp1, .inl fp1)), (ap2, .inl (cT 0, mp2, .inl fp2))] ++ W0) Hh.size)) 0 0 (va_A ([(ap1, .inl (cT 0, mp1, .inl fp1)), (ap2, .inl (cT 0, mp2, .inl fp2))] ++ W0) Hh.size) := by
  refine Met.ofW (cc := cL_unlike) (maxL := 4) (ret := (some .int)) (by decide) rfl ?_
  intro p e s m args below meth c s₁ B hml hv
  obtain ⟨rfl, hH, hK, hX, hN, hZ, hT⟩ := hv
  subst hH
  have hx := B.exec
  have hb := B.bytes
  have hr := B.returns
  have hta : ∀ w ∈ ALLW, w.before [.ref ap1, .ref ap2].toArray s = true := fun w hw => atoms_spec (ws := wA yL_unlike cL_unlike 4 (some .int)) B.pre w (List.mem_cons_of_mem _ hw)
  have hown : s.vm.findClass RL = some m.cls := findClass_of_methodNamed B.named
  have hlocks := B.notSynchronized
  have hD : va_D (va_A ([(ap1, .inl (cT 0, mp1, .inl fp1)), (ap2, .inl (cT 0, mp2, .inl fp2))] ++ W0) s.heap.size) (([(ap1, .inl (cT 0, mp1, .inl fp1)), (ap2, .inl (cT 0, mp2, .inl fp2))] : va_W) ++ W0) := hD0.self (sz := s.heap.size)
  generalize hAe : va_A ([(ap1, .inl (cT 0, mp1, .inl fp1)), (ap2, .inl (cT 0, mp2, .inl fp2))] ++ W0) s.heap.size = A at hD hX hZ hT ⊢
  have hP : va_P (dC, dI) vwCl (([(ap1, .inl (cT 0, mp1, .inl fp1)), (ap2, .inl (cT 0, mp2, .inl fp2))] : va_W) ++ W0) s.heap := hP0
  have hA : ∀ q : Nat, s.heap.size ≤ q → A q := fun q h => by rw [← hAe]; exact Or.inr h
  have hS : va_S A s.heap s.heap [] := va_S.rf
  have hl := lv_entry [.ref ap1, .ref ap2] (n := 4) (Nat.le_of_ble_eq_true rfl)
  rw [lg_entry_eq]
  generalize (lg_sl [.ref ap1, .ref ap2] ++ List.replicate (4 - (lg_sl [.ref ap1, .ref ap2]).length) Slot.unset).toArray = ls at hl ⊢
  have hl : lv_has ls 4 [(0, .ref ap1), (1, .ref ap2)] := hl
  obtain ⟨Q, hQ⟩ : ∃ Q, Q = MQ below (QEI dC dI (fun r W9 => ∃ W1, W9 = ([(ap1, .inl (cT 0, mp1, .inl fp1)), (ap2, .inl (cT 0, mp2, .inl fp2))] : va_W) ++ W1 ∧ ∃ σ9, K r σ9 ∧ OB cT a0 σ9 W1) A) [.ref ap1, .ref ap2].toArray s 0 0 A := ⟨_, rfl⟩
  rw [← hQ]
  have wB_4 : ∀ (n_4 : Nat), ∀ (x2_4 : Int32) (x3_4 : Int32) (σ : AB) (wo : va_W) (H : Heap) (locs : List Loc) (ls : Array Slot) (cells slots : Nat), wp_L_unlike_b4 K mp1 fp1 mp2 fp2 n_4 x2_4 x3_4 σ → OB cT a0 σ wo → va_P (dC, dI) vwCl (([(ap1, .inl (cT 0, mp1, .inl fp1)), (ap2, .inl (cT 0, mp2, .inl fp2))] : va_W) ++ wo) H → va_D A (([(ap1, .inl (cT 0, mp1, .inl fp1)), (ap2, .inl (cT 0, mp2, .inl fp2))] : va_W) ++ wo) → va_S A s.heap H locs → lv_has ls 4 [(0, .ref ap1), (1, .ref ap2), (2, .int x2_4), (3, .int x3_4)] → cells + (0) ≤ 0 → slots + (0) ≤ 0 → W p l e ({ frames := 0, cells := 0, slots := 0, locals := 0 } : Room) s m [.ref ap1, .ref ap2].toArray below meth c H locs cells slots Q (F0 m 4 ls []) := by
    intro n_4
    induction n_4 with
    | zero =>
      intro x2_4 x3_4 σ wo H locs ls cells slots h hO hP hD hS hl hc1 hc2
      exact False.elim h
    | succ n_4 ih_4 =>
      have wB_25 : ∀ (x3_25 : Int32) (s0_25 : Int32) (s1_25 : Int32) (σ : AB) (wo : va_W) (H : Heap) (locs : List Loc) (ls : Array Slot) (cells slots : Nat), wp_L_unlike_b25 K mp1 fp1 mp2 fp2 (wp_L_unlike_b4 K mp1 fp1 mp2 fp2 n_4) x3_25 s0_25 s1_25 σ → OB cT a0 σ wo → va_P (dC, dI) vwCl (([(ap1, .inl (cT 0, mp1, .inl fp1)), (ap2, .inl (cT 0, mp2, .inl fp2))] : va_W) ++ wo) H → va_D A (([(ap1, .inl (cT 0, mp1, .inl fp1)), (ap2, .inl (cT 0, mp2, .inl fp2))] : va_W) ++ wo) → va_S A s.heap H locs → lv_has ls 4 [(0, .ref ap1), (1, .ref ap2), (3, .int x3_25)] → cells + (0) ≤ 0 → slots + (0) ≤ 0 → W p l e ({ frames := 0, cells := 0, slots := 0, locals := 0 } : Room) s m [.ref ap1, .ref ap2].toArray below meth c H locs cells slots Q (F0 m 25 ls [.int s0_25, .int s1_25]) := by
        intro x3_25 s0_25 s1_25 σ wo H locs ls cells slots h hO hP hD hS hl hc1 hc2
        unfold wp_L_unlike_b25 at h
        refine lv_iadd hx hb dL_unlike_25 ?_
        refine lv_topi (fun v1 e_v => ?_)
        have h := h v1 e_v
        refine lv_istore_n (lv' := [(2, .int v1), (0, .ref ap1), (1, .ref ap2), (3, .int x3_25)]) hx hb dL_unlike_26 rfl hl (by decide) rfl (fun ls hl => ?_)
        obtain ⟨v2, e_v⟩ : ∃ y : Int32, y = x3_25 + 1 := ⟨_, rfl⟩
        have h := h v2 e_v
        refine lv_iinc (v := v2) (lv' := [(3, .int v2), (2, .int v1), (0, .ref ap1), (1, .ref ap2)]) hx hb dL_unlike_27 hl (k := 3) rfl (by rw [e_v]; rfl) (by decide) rfl (fun ls hl => ?_)
        refine lv_goto (tgt := 4) hx hb dL_unlike_30 (by decide) ?_
        exact ih_4 v1 v2 σ _ _ _ _ _ _ h hO hP hD hS (lv_sub hl [2, 3, 1, 0] rfl) (by omega) (by omega)
      intro x2_4 x3_4 σ wo H locs ls cells slots h hO hP hD hS hl hc1 hc2
      rw [wp_L_unlike_b4] at h
      refine lv_iload_n hx hb dL_unlike_4 rfl (lv_at hl 3 rfl) ?_
      refine lv_aload_n hx hb dL_unlike_5 rfl (lv_at hl 0 rfl) ?_
      refine va_alen hx hb hK hP 0 0 rfl rfl rfl dL_unlike_6 ?_
      refine lv_icmp_ge (tgt := 33) hx hb dL_unlike_7 (by decide) (fun c0 => ?_) (fun c0 => ?_)
      · have h := h.1 c0
        refine lv_iload_n hx hb dL_unlike_33 rfl (lv_at hl 2 rfl) ?_
        refine W.widen (k := 0) (n := 0) (by omega) (by omega) ?_
        rw [hQ]
        exact W.iret (v := x2_4) hx hb hr (fun t ht hW => ⟨⟨x2_4, ([(ap1, .inl (cT 0, mp1, .inl fp1)), (ap2, .inl (cT 0, mp2, .inl fp2))] ++ wo), rfl, ⟨wo, rfl, _, h, hO⟩, by rw [ht]; exact P_perm (X' := [(ap1, .inl (cT 0, mp1, .inl fp1)), (ap2, .inl (cT 0, mp2, .inl fp2))]) hP [0, 1] rfl, D_perm (X' := [(ap1, .inl (cT 0, mp1, .inl fp1)), (ap2, .inl (cT 0, mp2, .inl fp2))]) hD [0, 1] (by decide) rfl⟩, hS.F ht⟩) hS.2.2 dL_unlike_34
      · have h := h.2 c0
        refine lv_iload_n hx hb dL_unlike_10 rfl (lv_at hl 2 rfl) ?_
        refine lv_aload_n hx hb dL_unlike_11 rfl (lv_at hl 0 rfl) ?_
        refine lv_iload_n hx hb dL_unlike_12 rfl (lv_at hl 3 rfl) ?_
        obtain ⟨hc, h⟩ := h
        refine va_iald hx hb hK hP 0 0 rfl rfl (inb_in hc) dL_unlike_13 ?_
        refine lv_aload_n hx hb dL_unlike_14 rfl (lv_at hl 1 rfl) ?_
        refine lv_iload_n hx hb dL_unlike_15 rfl (lv_at hl 3 rfl) ?_
        obtain ⟨hc, h⟩ := h
        refine va_iald hx hb hK hP 1 0 rfl rfl (inb_in hc) dL_unlike_16 ?_
        refine lv_icmp_ne (tgt := 24) hx hb dL_unlike_17 (by decide) (fun c0 => ?_) (fun c0 => ?_)
        · have h := h.2 c0
          refine lv_iconst (v := 1) hx hb dL_unlike_24 (by decide) ?_
          exact wB_25 x3_4 (1 : Int32) x2_4 σ _ _ _ _ _ _ h hO hP hD hS (lv_sub hl [0, 1, 3] rfl) (by omega) (by omega)
        · have h := h.1 c0
          refine lv_iconst (v := 0) hx hb dL_unlike_20 (by decide) ?_
          refine lv_goto (tgt := 25) hx hb dL_unlike_21 (by decide) ?_
          exact wB_25 x3_4 (0 : Int32) x2_4 σ _ _ _ _ _ _ h hO hP hD hS (lv_sub hl [0, 1, 3] rfl) (by omega) (by omega)
  unfold wp_L_unlike at h
  have hc1 : (0 : Nat) + 0 ≤ 0 := Nat.le_of_eq (Nat.zero_add _)
  have hc2 : (0 : Nat) + 0 ≤ 0 := Nat.le_of_eq (Nat.zero_add _)
  clear hP0 hD0 hAe
  obtain ⟨wo, e_w⟩ : ∃ z, z = W0 := ⟨W0, rfl⟩
  rw [← e_w] at hO hP hD
  clear e_w
  refine lv_iconst (v := 0) hx hb dL_unlike_0 (by decide) ?_
  refine lv_istore_n (lv' := [(2, .int 0), (0, .ref ap1), (1, .ref ap2)]) hx hb dL_unlike_1 rfl hl (by decide) rfl (fun ls hl => ?_)
  refine lv_iconst (v := 0) hx hb dL_unlike_2 (by decide) ?_
  refine lv_istore_n (lv' := [(3, .int 0), (2, .int 0), (0, .ref ap1), (1, .ref ap2)]) hx hb dL_unlike_3 rfl hl (by decide) rfl (fun ls hl => ?_)
  exact wB_4 8 (0 : Int32) (0 : Int32) σ _ _ _ _ _ _ h hO hP hD hS (lv_sub hl [2, 3, 1, 0] rfl) (by omega) (by omega)
set_option maxHeartbeats 4000000 in
set_option maxRecDepth 100000 in
theorem lc_L_bits (l : Launch) (hl9 : l.stackTraces = false) (dC : Nat → ClassId) (dI : Nat → Nat → Nat) (cT : Nat → ClassId) {Hh : Heap} {a0 : Nat} {σ : AB} {W0 : va_W} {K : (Nat → (Nat → Int32) → AB → Prop)} (h : wp_L_bits K σ) (hO : OB cT a0 σ W0) (hP0 : va_P (dC, dI) vwCl W0 Hh) (hD0 : va_D (fun _ => True) W0) : Met l yL_bits (wA yL_bits cL_bits 3 (some (.array .int))) ({ frames := 8, cells := 10, slots := 60, locals := 166 } : Room) (PU dC dI cT [.ref a0] Hh (va_A W0 Hh.size)) (QEA dC dI cT 0 (fun r g W1 => ∃ σ9, K r g σ9 ∧ OB cT a0 σ9 W1) (va_A W0 Hh.size)) 10 60 (va_A W0 Hh.size) := by
  refine Met.ofW (cc := cL_bits) (maxL := 3) (ret := (some (.array .int))) (by decide) rfl ?_
  intro p e s m args below meth c s₁ B hml hv
  obtain ⟨rfl, hH, hK, hX, hN, hZ, hT⟩ := hv
  subst hH
  have hx := B.exec
  have hb := B.bytes
  have hr := B.returns
  have hta : ∀ w ∈ ALLW, w.before [.ref a0].toArray s = true := fun w hw => atoms_spec (ws := wA yL_bits cL_bits 3 (some (.array .int))) B.pre w (List.mem_cons_of_mem _ hw)
  have hown : s.vm.findClass RL = some m.cls := findClass_of_methodNamed B.named
  have hlocks := B.notSynchronized
  have hD : va_D (va_A W0 s.heap.size) (([] : va_W) ++ W0) := hD0.self (sz := s.heap.size)
  generalize hAe : va_A W0 s.heap.size = A at hD hX hZ hT ⊢
  have hP : va_P (dC, dI) vwCl (([] : va_W) ++ W0) s.heap := hP0
  have hA : ∀ q : Nat, s.heap.size ≤ q → A q := fun q h => by rw [← hAe]; exact Or.inr h
  have hS : va_S A s.heap s.heap [] := va_S.rf
  have hl := lv_entry [.ref a0] (n := 3) (Nat.le_of_ble_eq_true rfl)
  rw [lg_entry_eq]
  generalize (lg_sl [.ref a0] ++ List.replicate (3 - (lg_sl [.ref a0]).length) Slot.unset).toArray = ls at hl ⊢
  have hl : lv_has ls 3 [(0, .ref a0)] := hl
  obtain ⟨Q, hQ⟩ : ∃ Q, Q = MQ below (QEA dC dI cT 0 (fun r g W1 => ∃ σ9, K r g σ9 ∧ OB cT a0 σ9 W1) A) [.ref a0].toArray s 10 60 A := ⟨_, rfl⟩
  rw [← hQ]
  have wB_10 : ∀ (n_10 : Nat), ∀ (x2_10 : Int32) (mr1_10 : Nat) (fr1_10 : Nat → Int32) (ar1_10 : Nat) (σ : AB) (wo : va_W) (H : Heap) (locs : List Loc) (ls : Array Slot) (cells slots : Nat), wp_L_bits_b10 K n_10 x2_10 mr1_10 fr1_10 σ → OB cT a0 σ wo → va_P (dC, dI) vwCl (([(ar1_10, .inl (cT 0, mr1_10, .inl fr1_10))] : va_W) ++ wo) H → va_D A (([(ar1_10, .inl (cT 0, mr1_10, .inl fr1_10))] : va_W) ++ wo) → va_S A s.heap H locs → lv_has ls 3 [(0, .ref a0), (1, .ref ar1_10), (2, .int x2_10)] → cells + (0 + n_10 * 1) ≤ 10 → slots + (0 + n_10 * 6) ≤ 60 → W p l e ({ frames := 8, cells := 10, slots := 60, locals := 166 } : Room) s m [.ref a0].toArray below meth c H locs cells slots Q (F0 m 10 ls []) := by
    intro n_10
    induction n_10 with
    | zero =>
      intro x2_10 mr1_10 fr1_10 ar1_10 σ wo H locs ls cells slots h hO hP hD hS hl hc1 hc2
      exact False.elim h
    | succ n_10 ih_10 =>
      intro x2_10 mr1_10 fr1_10 ar1_10 σ wo H locs ls cells slots h hO hP hD hS hl hc1 hc2
      rw [wp_L_bits_b10] at h
      refine lv_iload_n hx hb dL_bits_10 rfl (lv_at hl 2 rfl) ?_
      refine lv_aload_n hx hb dL_bits_11 rfl (lv_at hl 1 rfl) ?_
      refine va_alen hx hb hK hP 0 0 rfl rfl rfl dL_bits_12 ?_
      refine lv_icmp_ge (tgt := 30) hx hb dL_bits_13 (by decide) (fun c0 => ?_) (fun c0 => ?_)
      · have h := h.1 c0
        refine lv_aload_n hx hb dL_bits_30 rfl (lv_at hl 1 rfl) ?_
        refine W.widen (k := 10) (n := 60) (by omega) (by omega) ?_
        rw [hQ]
        exact W.aret (v := .ref ar1_10) hx hb hr (Or.inr ⟨_, rfl⟩) (Or.inr ⟨_, rfl⟩) (fun t ht hW => ⟨⟨(mr1_10, fr1_10, wo), ar1_10, rfl, ⟨_, h, hO⟩, by rw [ht]; exact hP, hD⟩, hS.F ht⟩) hS.2.2 dL_bits_31
      · have h := h.2 c0
        refine lv_aload_n hx hb dL_bits_16 rfl (lv_at hl 1 rfl) ?_
        refine lv_iload_n hx hb dL_bits_17 rfl (lv_at hl 2 rfl) ?_
        refine lv_aload_n hx hb dL_bits_18 rfl (lv_at hl 0 rfl) ?_
        refine lv_iload_n hx hb dL_bits_19 rfl (lv_at hl 2 rfl) ?_
        obtain ⟨hq, h⟩ := h
        refine coI (va_runV (As := [.int x2_10]) (rest := [.int x2_10, .ref ar1_10]) ⟨hx, hb, hml, hown, hta⟩ (oc_X11_bits l hl9 dC dI cT hO hq (P_r hP) ((D_r hD).weaken (fun _ _ _ _ => trivial))) (cV hta lm_L_266 md_X11_bits ⟨(Nat.le_of_ble_eq_true rfl), (Nat.le_of_ble_eq_true rfl)⟩) ⟨fbU, recvO hK hO (P_r hP), fun U hU hW => ⟨rfl, hU, va_K.moved hW.alike hK, XS.call hX hS hU hW (freeO hD hS hA), hN.warm hW, ZS.call hZ hS hU hW (freeO hD hS hA), LT.call hT hS hU hW (freeO hD hS hA)⟩⟩ rfl rfl hl.1 rfl (lv_room (Nat.le_of_ble_eq_true rfl)) dL_bits_20 ⟨by show _ ≤ (10 : Nat); omega, by show _ ≤ (60 : Nat); omega⟩) hS hA hP hD (fun r1 wo H locs hw hP hD hS => ?_)
        obtain ⟨hr9, hO⟩ := hw
        have h := h r1 hr9
        obtain ⟨hc, h⟩ := h
        refine va_iast hx hb hK hP hD hS 0 0 rfl rfl (inb_in hc) dL_bits_23 (fun H locs hP hD hS => ?_)
        obtain ⟨f2, e_f⟩ : ∃ y : Nat → Int32, y = (upd fr1_10 x2_10.toNatClampNeg r1) := ⟨_, rfl⟩
        have h := h f2 e_f
        have hP : va_P (dC, dI) vwCl (([(ar1_10, .inl (cT 0, mr1_10, .inl f2))] : va_W) ++ wo) H := by rw [e_f]; exact hP
        have hD : va_D A (([(ar1_10, .inl (cT 0, mr1_10, .inl f2))] : va_W) ++ wo) := by rw [e_f]; exact hD
        obtain ⟨v3, e_v⟩ : ∃ y : Int32, y = x2_10 + 1 := ⟨_, rfl⟩
        have h := h v3 e_v
        refine lv_iinc (v := v3) (lv' := [(2, .int v3), (0, .ref a0), (1, .ref ar1_10)]) hx hb dL_bits_24 hl (k := 2) rfl (by rw [e_v]; rfl) (by decide) rfl (fun ls hl => ?_)
        refine lv_goto (tgt := 10) hx hb dL_bits_27 (by decide) ?_
        exact ih_10 v3 mr1_10 f2 ar1_10 σ _ _ _ _ _ _ h hO hP hD hS (lv_sub hl [1, 2, 0] rfl) (by omega) (by omega)
  unfold wp_L_bits at h
  have hc1 : (0 : Nat) + 10 ≤ 10 := Nat.le_of_eq (Nat.zero_add _)
  have hc2 : (0 : Nat) + 60 ≤ 60 := Nat.le_of_eq (Nat.zero_add _)
  clear hP0 hD0 hAe
  obtain ⟨wo, e_w⟩ : ∃ z, z = W0 := ⟨W0, rfl⟩
  rw [← e_w] at hO hP hD
  clear e_w
  refine lv_aload_n hx hb dL_bits_0 rfl (lv_at hl 0 rfl) ?_
  refine lv_iconst (v := 0) hx hb dL_bits_1 (by decide) ?_
  obtain ⟨hq, h⟩ := h
  refine coI (va_runV (As := [.int 0]) (rest := []) ⟨hx, hb, hml, hown, hta⟩ (oc_X11_account l hl9 dC dI cT hO hq (P_r hP) ((D_r hD).weaken (fun _ _ _ _ => trivial))) (cV hta lm_L_229 md_X11_account ⟨(Nat.le_of_ble_eq_true rfl), (Nat.le_of_ble_eq_true rfl)⟩) ⟨fbU, recvO hK hO (P_r hP), fun U hU hW => ⟨rfl, hU, va_K.moved hW.alike hK, XS.call hX hS hU hW (freeO hD hS hA), hN.warm hW, ZS.call hZ hS hU hW (freeO hD hS hA), LT.call hT hS hU hW (freeO hD hS hA)⟩⟩ rfl rfl hl.1 rfl (lv_room (Nat.le_of_ble_eq_true rfl)) dL_bits_2 ⟨by show _ ≤ (10 : Nat); omega, by show _ ≤ (60 : Nat); omega⟩) hS hA hP hD (fun r4 wo H locs hw hP hD hS => ?_)
  obtain ⟨hr9, hO⟩ := hw
  have h := h r4 hr9
  obtain ⟨m5, hm, e_m, h⟩ := h
  rw [e_m]
  refine va_newaT (ty := .int) (a0 := (m5, .inl (fun _ => 0))) hx hb (hta _ ac_int) rfl (fun _ h9 => by cases h9) 0 rfl hK hP hD hS hA (fun _ => rfl) (nI_pos (by omega)) (nI_clamp (by omega)) (by show m5 * 4 ≤ _; omega) (by show _ ≤ (10 : Nat); omega) (by show _ ≤ (60 : Nat); omega) dL_bits_5 (fun aq6 H hP hD hS => ?_)
  have hP : va_P (dC, dI) vwCl (([(aq6, .inl (cT 0, m5, .inl (fun _ => 0)))] : va_W) ++ wo) H := P_mv hP
  have hD : va_D A (([(aq6, .inl (cT 0, m5, .inl (fun _ => 0)))] : va_W) ++ wo) := D_mv hD
  refine lv_astore_n (lv' := [(1, .ref aq6), (0, .ref a0)]) hx hb dL_bits_7 rfl hl (by decide) rfl (fun ls hl => ?_)
  refine lv_iconst (v := 0) hx hb dL_bits_8 (by decide) ?_
  refine lv_istore_n (lv' := [(2, .int 0), (1, .ref aq6), (0, .ref a0)]) hx hb dL_bits_9 rfl hl (by decide) rfl (fun ls hl => ?_)
  exact wB_10 8 (0 : Int32) m5 (fun _ => 0) aq6 σ _ _ _ _ _ _ h hO hP hD hS (lv_sub hl [2, 1, 0] rfl) (by omega) (by omega)
set_option maxHeartbeats 4000000 in
set_option maxRecDepth 100000 in
theorem lc_L_text (l : Launch) (hl9 : l.stackTraces = false) (dC : Nat → ClassId) (dI : Nat → Nat → Nat) (cT : Nat → ClassId) {Hh : Heap} {a0 : Nat} {σ : AB} {W0 : va_W} {p1 : Int32} {K : (Nat → (Nat → Int32) → AB → Prop)} (h : wp_L_text K p1 σ) (hO : OB cT a0 σ W0) (hP0 : va_P (dC, dI) vwCl W0 Hh) (hD0 : va_D (fun _ => True) W0) : Met l yL_text (wA yL_text cL_text 4 (some (.array .char))) ({ frames := 9, cells := 127, slots := 4832, locals := 178 } : Room) (PU dC dI cT [.ref a0, .int p1] Hh (va_A W0 Hh.size)) (QEA dC dI cT 2 (fun r g W1 => ∃ σ9, K r g σ9 ∧ OB cT a0 σ9 W1) (va_A W0 Hh.size)) 127 4832 (va_A W0 Hh.size) := by
  refine Met.ofW (cc := cL_text) (maxL := 4) (ret := (some (.array .char))) (by decide) rfl ?_
  intro p e s m args below meth c s₁ B hml hv
  obtain ⟨rfl, hH, hK, hX, hN, hZ, hT⟩ := hv
  subst hH
  have hx := B.exec
  have hb := B.bytes
  have hr := B.returns
  have hta : ∀ w ∈ ALLW, w.before [.ref a0, .int p1].toArray s = true := fun w hw => atoms_spec (ws := wA yL_text cL_text 4 (some (.array .char))) B.pre w (List.mem_cons_of_mem _ hw)
  have hown : s.vm.findClass RL = some m.cls := findClass_of_methodNamed B.named
  have hlocks := B.notSynchronized
  have hD : va_D (va_A W0 s.heap.size) (([] : va_W) ++ W0) := hD0.self (sz := s.heap.size)
  generalize hAe : va_A W0 s.heap.size = A at hD hX hZ hT ⊢
  have hP : va_P (dC, dI) vwCl (([] : va_W) ++ W0) s.heap := hP0
  have hA : ∀ q : Nat, s.heap.size ≤ q → A q := fun q h => by rw [← hAe]; exact Or.inr h
  have hS : va_S A s.heap s.heap [] := va_S.rf
  have hl := lv_entry [.ref a0, .int p1] (n := 4) (Nat.le_of_ble_eq_true rfl)
  rw [lg_entry_eq]
  generalize (lg_sl [.ref a0, .int p1] ++ List.replicate (4 - (lg_sl [.ref a0, .int p1]).length) Slot.unset).toArray = ls at hl ⊢
  have hl : lv_has ls 4 [(0, .ref a0), (1, .int p1)] := hl
  obtain ⟨Q, hQ⟩ : ∃ Q, Q = MQ below (QEA dC dI cT 2 (fun r g W1 => ∃ σ9, K r g σ9 ∧ OB cT a0 σ9 W1) A) [.ref a0, .int p1].toArray s 127 4832 A := ⟨_, rfl⟩
  rw [← hQ]
  have wB_10 : ∀ (n_10 : Nat), ∀ (x3_10 : Int32) (mr2_10 : Nat) (fr2_10 : Nat → Int32) (ar2_10 : Nat) (σ : AB) (wo : va_W) (H : Heap) (locs : List Loc) (ls : Array Slot) (cells slots : Nat), wp_L_text_b10 K n_10 x3_10 mr2_10 fr2_10 σ → OB cT a0 σ wo → va_P (dC, dI) vwCl (([(ar2_10, .inl (cT 2, mr2_10, .inl fr2_10))] : va_W) ++ wo) H → va_D A (([(ar2_10, .inl (cT 2, mr2_10, .inl fr2_10))] : va_W) ++ wo) → va_S A s.heap H locs → lv_has ls 4 [(0, .ref a0), (2, .ref ar2_10), (3, .int x3_10)] → cells + (0 + n_10 * 1) ≤ 127 → slots + (0 + n_10 * 6) ≤ 4832 → W p l e ({ frames := 9, cells := 127, slots := 4832, locals := 178 } : Room) s m [.ref a0, .int p1].toArray below meth c H locs cells slots Q (F0 m 10 ls []) := by
    intro n_10
    induction n_10 with
    | zero =>
      intro x3_10 mr2_10 fr2_10 ar2_10 σ wo H locs ls cells slots h hO hP hD hS hl hc1 hc2
      exact False.elim h
    | succ n_10 ih_10 =>
      intro x3_10 mr2_10 fr2_10 ar2_10 σ wo H locs ls cells slots h hO hP hD hS hl hc1 hc2
      rw [wp_L_text_b10] at h
      refine lv_iload_n hx hb dL_text_10 rfl (lv_at hl 2 rfl) ?_
      refine lv_aload_n hx hb dL_text_11 rfl (lv_at hl 1 rfl) ?_
      refine va_alen hx hb hK hP 0 2 rfl rfl rfl dL_text_12 ?_
      refine lv_icmp_ge (tgt := 31) hx hb dL_text_13 (by decide) (fun c0 => ?_) (fun c0 => ?_)
      · have h := h.1 c0
        refine lv_aload_n hx hb dL_text_31 rfl (lv_at hl 1 rfl) ?_
        refine W.widen (k := 127) (n := 4832) (by omega) (by omega) ?_
        rw [hQ]
        exact W.aret (v := .ref ar2_10) hx hb hr (Or.inr ⟨_, rfl⟩) (Or.inr ⟨_, rfl⟩) (fun t ht hW => ⟨⟨(mr2_10, fr2_10, wo), ar2_10, rfl, ⟨_, h, hO⟩, by rw [ht]; exact hP, hD⟩, hS.F ht⟩) hS.2.2 dL_text_32
      · have h := h.2 c0
        refine lv_aload_n hx hb dL_text_16 rfl (lv_at hl 1 rfl) ?_
        refine lv_iload_n hx hb dL_text_17 rfl (lv_at hl 2 rfl) ?_
        refine lv_aload_n hx hb dL_text_18 rfl (lv_at hl 0 rfl) ?_
        refine lv_iload_n hx hb dL_text_19 rfl (lv_at hl 2 rfl) ?_
        refine coI (vx_runSW (As := [.ref a0, .int x3_10]) (rest := [.int x3_10, .ref ar2_10]) ⟨hx, hb, hml, hown, hta⟩ (oc_L_character l hl9 dC dI cT hO (P_r hP) ((D_r hD).weaken (fun _ _ _ _ => trivial))) (cW hta lm_L_227 mw_L_character ⟨(Nat.le_of_ble_eq_true rfl), (Nat.le_of_ble_eq_true rfl)⟩) ⟨fbU, fun U hU hW => ⟨rfl, hU, va_K.moved hW.alike hK, XS.call hX hS hU hW (freeO hD hS hA), hN.warm hW, ZS.call hZ hS hU hW (freeO hD hS hA), LT.call hT hS hU hW (freeO hD hS hA)⟩⟩ rfl rfl hl.1 rfl (lv_room (Nat.le_of_ble_eq_true rfl)) dL_text_20 ⟨by show _ ≤ (127 : Nat); omega, by show _ ≤ (4832 : Nat); omega⟩) hS hA hP hD (fun r1 wo H locs hw hP hD hS => ?_)
        obtain ⟨σ2, hr9, hO⟩ := hw
        have h := h r1 σ2 hr9
        refine lv_i2c hx hb dL_text_23 rfl ?_
        obtain ⟨hc, h⟩ := h
        refine lv_topi (fun v3 e_v => ?_)
        have h := h v3 e_v
        refine va_cast hx hb hK hP hD hS 0 2 rfl rfl (inb_in hc) dL_text_24 (fun H locs hP hD hS => ?_)
        obtain ⟨f4, e_f⟩ : ∃ y : Nat → Int32, y = (upd fr2_10 x3_10.toNatClampNeg (vp_nar .char v3)) := ⟨_, rfl⟩
        have h := h f4 e_f
        have hP : va_P (dC, dI) vwCl (([(ar2_10, .inl (cT 2, mr2_10, .inl f4))] : va_W) ++ wo) H := by rw [e_f]; exact hP
        have hD : va_D A (([(ar2_10, .inl (cT 2, mr2_10, .inl f4))] : va_W) ++ wo) := by rw [e_f]; exact hD
        obtain ⟨v5, e_v⟩ : ∃ y : Int32, y = x3_10 + 1 := ⟨_, rfl⟩
        have h := h v5 e_v
        refine lv_iinc (v := v5) (lv' := [(3, .int v5), (0, .ref a0), (2, .ref ar2_10)]) hx hb dL_text_25 hl (k := 2) rfl (by rw [e_v]; rfl) (by decide) rfl (fun ls hl => ?_)
        refine lv_goto (tgt := 10) hx hb dL_text_28 (by decide) ?_
        exact ih_10 v5 mr2_10 f4 ar2_10 σ2 _ _ _ _ _ _ h hO hP hD hS (lv_sub hl [1, 2, 0] rfl) (by omega) (by omega)
  unfold wp_L_text at h
  have hc1 : (0 : Nat) + 127 ≤ 127 := Nat.le_of_eq (Nat.zero_add _)
  have hc2 : (0 : Nat) + 4832 ≤ 4832 := Nat.le_of_eq (Nat.zero_add _)
  clear hP0 hD0 hAe
  obtain ⟨wo, e_w⟩ : ∃ z, z = W0 := ⟨W0, rfl⟩
  rw [← e_w] at hO hP hD
  clear e_w
  refine lv_aload_n hx hb dL_text_0 rfl (lv_at hl 0 rfl) ?_
  refine lv_iload_n hx hb dL_text_1 rfl (lv_at hl 1 rfl) ?_
  refine coI (vx_runSW (As := [.ref a0, .int p1]) (rest := []) ⟨hx, hb, hml, hown, hta⟩ (oc_L_tell l hl9 dC dI cT hO (P_r hP) ((D_r hD).weaken (fun _ _ _ _ => trivial))) (cW hta lm_L_224 mw_L_tell ⟨(Nat.le_of_ble_eq_true rfl), (Nat.le_of_ble_eq_true rfl)⟩) ⟨fbU, fun U hU hW => ⟨rfl, hU, va_K.moved hW.alike hK, XS.call hX hS hU hW (freeO hD hS hA), hN.warm hW, ZS.call hZ hS hU hW (freeO hD hS hA), LT.call hT hS hU hW (freeO hD hS hA)⟩⟩ rfl rfl hl.1 rfl (lv_room (Nat.le_of_ble_eq_true rfl)) dL_text_2 ⟨by show _ ≤ (127 : Nat); omega, by show _ ≤ (4832 : Nat); omega⟩) hS hA hP hD (fun r6 wo H locs hw hP hD hS => ?_)
  obtain ⟨σ7, hr9, hO⟩ := hw
  have h := h r6 σ7 hr9
  obtain ⟨m8, hm, e_m, h⟩ := h
  rw [e_m]
  refine va_newaT (ty := .char) (a0 := (m8, .inl (fun _ => 0))) hx hb (hta _ ac_char) rfl (fun _ h9 => by cases h9) 2 rfl hK hP hD hS hA (fun _ => rfl) (nI_pos (by omega)) (nI_clamp (by omega)) (by show m8 * 2 ≤ _; omega) (by show _ ≤ (127 : Nat); omega) (by show _ ≤ (4832 : Nat); omega) dL_text_5 (fun aq9 H hP hD hS => ?_)
  have hP : va_P (dC, dI) vwCl (([(aq9, .inl (cT 2, m8, .inl (fun _ => 0)))] : va_W) ++ wo) H := P_mv hP
  have hD : va_D A (([(aq9, .inl (cT 2, m8, .inl (fun _ => 0)))] : va_W) ++ wo) := D_mv hD
  refine lv_astore_n (lv' := [(2, .ref aq9), (0, .ref a0), (1, .int p1)]) hx hb dL_text_7 rfl hl (by decide) rfl (fun ls hl => ?_)
  refine lv_iconst (v := 0) hx hb dL_text_8 (by decide) ?_
  refine lv_istore_n (lv' := [(3, .int 0), (2, .ref aq9), (0, .ref a0), (1, .int p1)]) hx hb dL_text_9 rfl hl (by decide) rfl (fun ls hl => ?_)
  exact wB_10 62 (0 : Int32) m8 (fun _ => 0) aq9 σ7 _ _ _ _ _ _ h hO hP hD hS (lv_sub hl [2, 1, 0] rfl) (by omega) (by omega)
