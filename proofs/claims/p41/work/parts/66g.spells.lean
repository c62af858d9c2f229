/-! THE LAW's methods (gen/laws41.py) -/
def wp_L_spells_b76 (K : (Int32 → AB → Prop)) (tp2 : List Nat)  (s0_76 : Int32) (σ : AB) : Prop :=
(bo s0_76 = true) ∧
K s0_76 σ
def wp_L_spells_b75 (K : (Int32 → AB → Prop)) (tp2 : List Nat)   (σ : AB) : Prop :=
wp_L_spells_b76 K tp2 (0 : Int32) σ
def wp_L_spells_b57 (K : (Int32 → AB → Prop)) (tp2 : List Nat)  (x1_57 : Int32) (x3_57 : Int32) (σ : AB) : Prop :=
(x3_57 = 0 →
wp_L_spells_b75 K tp2 σ) ∧
(¬ x3_57 = 0 →
∀ (r1 : Int32) (σ2 : AB), (σ2 = σ ∧ r1 = (match fx x1_57 σ.2.2.2.1.length with | none => -14 | some k => nI (σ.2.2.2.1.getD k 0))) →
(r1 = (-14) →
wp_L_spells_b76 K tp2 (1 : Int32) σ2) ∧
(¬ r1 = (-14) →
wp_L_spells_b75 K tp2 σ2))
def wp_L_spells_b50 (K : (Int32 → AB → Prop)) (tp2 : List Nat) (k_17 : Int32 → Int32 → Int32 → AB → Prop) (x1_50 : Int32) (x4_50 : Int32) (s0_50 : Int32) (σ : AB) : Prop :=
∀ v3 : Int32, v3 = x4_50 + 1 →
k_17 x1_50 s0_50 v3 σ
def wp_L_spells_b17 (K : (Int32 → AB → Prop)) (tp2 : List Nat)  : Nat → Int32 → Int32 → Int32 → AB → Prop
  | 0, _, _, _, _ => False
  | n + 1, x1_17, x3_17, x4_17, σ =>
    ((nI (tp2).length) ≤ x4_17 →
    wp_L_spells_b57 K tp2 x1_17 x3_17 σ) ∧
    (¬ (nI (tp2).length) ≤ x4_17 →
    (x3_17 = 0 →
    wp_L_spells_b57 K tp2 x1_17 x3_17 σ) ∧
    (¬ x3_17 = 0 →
    ∀ (r4 : Int32) (σ5 : AB), (σ5 = σ ∧ r4 = (match fx x4_17 σ.2.2.2.1.length with | none => -14 | some k => nI (σ.2.2.2.1.getD k 0))) →
    ∃ k6 : Nat, k6 < (tp2).length ∧ x4_17 = nI k6 ∧ (tp2).length ≤ 70 ∧
    ∀ r7 : Int32, r7 = nI ((tp2).getD k6 0) →
    (r4 = r7 →
    wp_L_spells_b50 K tp2 (wp_L_spells_b17 K tp2 n) x1_17 x4_17 (1 : Int32) σ5) ∧
    (¬ r4 = r7 →
    wp_L_spells_b50 K tp2 (wp_L_spells_b17 K tp2 n) x1_17 x4_17 (0 : Int32) σ5)))
def wp_L_spells_b13 (K : (Int32 → AB → Prop)) (tp2 : List Nat)  (x1_13 : Int32) (s0_13 : Int32) (σ : AB) : Prop :=
wp_L_spells_b17 K tp2 17 x1_13 s0_13 (0 : Int32) σ
def wp_L_spells (K : (Int32 → AB → Prop)) (p1 : Int32) (tp2 : List Nat) (σ : AB) : Prop :=
(p1 = (nI (tp2).length) →
wp_L_spells_b13 K tp2 p1 (1 : Int32) σ) ∧
(¬ p1 = (nI (tp2).length) →
wp_L_spells_b13 K tp2 p1 (0 : Int32) σ)
def wp_L_lines_b163 (K : (Int32 → AB → Prop))  (s0_163 : Int32) (σ : AB) : Prop :=
(bo s0_163 = true) ∧
K s0_163 σ
def wp_L_lines_b162 (K : (Int32 → AB → Prop))   (σ : AB) : Prop :=
wp_L_lines_b163 K (0 : Int32) σ
def wp_L_lines_b2 (K : (Int32 → AB → Prop))  : Nat → Int32 → AB → Prop
  | 0, _, _ => False
  | n + 1, x1_2, σ =>
    (∃ n, n < 8 ∧ (0 : Int32) = nI n) ∧
    ∀ r1 : Int32, r1 = f_account σ.1 σ.2.2.2.2.2.2 (0 : Int32) →
    (r1 ≤ x1_2 →
    (∃ n, n < 8 ∧ (0 : Int32) = nI n) ∧
    ∀ r2 : Int32, r2 = f_account σ.1 σ.2.2.2.2.2.2 (0 : Int32) →
    ∀ (r3 : Int32) (σ4 : AB), ((OUT r2 σ.1.2.1 ∧ r3 = -11 ∧ σ4 = σ) ∨ (∃ k, k < σ.1.2.1 ∧ r2 = nI k ∧ r3 = nI (lnC σ.1 k).length ∧ σ4 = (σ.1, σ.2.1, σ.2.2.1, lnC σ.1 k, σ.2.2.2.2))) →
    (r3 = (-11) →
    (∃ n, n < 8 ∧ (1 : Int32) = nI n) ∧
    ∀ r5 : Int32, r5 = f_account σ4.1 σ4.2.2.2.2.2.2 (1 : Int32) →
    ∀ (r6 : Int32) (σ7 : AB), ((OUT r5 σ4.1.2.2.1 ∧ r6 = -11 ∧ σ7 = σ4) ∨ (∃ i, i < σ4.1.2.2.1 ∧ r5 = nI i ∧ r6 = nI (σ4.1.2.2.2 i).1 ∧ σ7 = (σ4.1, σ4.2.1, σ4.2.2.1, txC (σ4.1.2.2.2 i), σ4.2.2.2.2))) →
    (r6 = (-11) →
    wp_L_lines_b163 K (1 : Int32) σ7) ∧
    (¬ r6 = (-11) →
    wp_L_lines_b162 K σ7)) ∧
    (¬ r3 = (-11) →
    wp_L_lines_b162 K σ4)) ∧
    (¬ r1 ≤ x1_2 →
    ∃ c10 : Nat, c10 < 128 ∧ (((97 : Int32) + x1_2).toUInt32 % 65536).toInt32 = nI c10 ∧ (([] : List Nat)).length < 16 ∧
    (((([] : List Nat) ++ [c10])).length + ([58] : List Nat).length ≤ 16) ∧
    ∀ r13 : Int32, r13 = f_of σ.1 x1_2 (3 : Int32) →
    (-9999 ≤ r13.toInt ∧ r13.toInt ≤ 9999) ∧ (((([] : List Nat) ++ [c10]) ++ [58])).length + (dgs r13).length ≤ 16 ∧
    ∀ r16 : Int32, r16 = f_of σ.1 x1_2 (0 : Int32) →
    (r16 = 1 →
    (((((([] : List Nat) ++ [c10]) ++ [58]) ++ dgs r13)).length + ([126] : List Nat).length ≤ 16) ∧
    ((((((([] : List Nat) ++ [c10]) ++ [58]) ++ dgs r13) ++ [126])).length < 16) ∧
    ∀ (r41 : Int32) (σ42 : AB), ((OUT x1_2 σ.1.2.1 ∧ r41 = -11 ∧ σ42 = σ) ∨ (∃ k, k < σ.1.2.1 ∧ x1_2 = nI k ∧ r41 = nI (lnC σ.1 k).length ∧ σ42 = (σ.1, σ.2.1, σ.2.2.1, lnC σ.1 k, σ.2.2.2.2))) →
    wp_L_spells (fun (r44 : Int32) (σ43 : AB) =>
    (r44 = 0 →
    K (0 : Int32) σ43) ∧
    (¬ r44 = 0 →
    ∀ v45 : Int32, v45 = x1_2 + 1 →
    wp_L_lines_b2 K n v45 σ43)) r41 ((((([] : List Nat) ++ [c10]) ++ [58]) ++ dgs r13) ++ [126]) σ42) ∧
    (¬ r16 = 1 →
    ((([] : List Nat)).length + ([91] : List Nat).length ≤ 16) ∧
    ∀ r20 : Int32, r20 = f_of σ.1 x1_2 (1 : Int32) →
    (-9999 ≤ r20.toInt ∧ r20.toInt ≤ 9999) ∧ ((([] : List Nat) ++ [91])).length + (dgs r20).length ≤ 16 ∧
    ((((([] : List Nat) ++ [91]) ++ dgs r20)).length + ([44] : List Nat).length ≤ 16) ∧
    ∀ r25 : Int32, r25 = f_of σ.1 x1_2 (2 : Int32) →
    (-9999 ≤ r25.toInt ∧ r25.toInt ≤ 9999) ∧ ((((([] : List Nat) ++ [91]) ++ dgs r20) ++ [44])).length + (dgs r25).length ≤ 16 ∧
    ((((((([] : List Nat) ++ [91]) ++ dgs r20) ++ [44]) ++ dgs r25)).length + ([93] : List Nat).length ≤ 16) ∧
    (((((((([] : List Nat) ++ [91]) ++ dgs r20) ++ [44]) ++ dgs r25) ++ [93])).length < 16) ∧
    (((((([] : List Nat) ++ [c10]) ++ [58]) ++ dgs r13)).length + ((((((([] : List Nat) ++ [91]) ++ dgs r20) ++ [44]) ++ dgs r25) ++ [93]) : List Nat).length ≤ 16) ∧
    ((((((([] : List Nat) ++ [c10]) ++ [58]) ++ dgs r13) ++ (((((([] : List Nat) ++ [91]) ++ dgs r20) ++ [44]) ++ dgs r25) ++ [93]))).length < 16) ∧
    ∀ (r33 : Int32) (σ34 : AB), ((OUT x1_2 σ.1.2.1 ∧ r33 = -11 ∧ σ34 = σ) ∨ (∃ k, k < σ.1.2.1 ∧ x1_2 = nI k ∧ r33 = nI (lnC σ.1 k).length ∧ σ34 = (σ.1, σ.2.1, σ.2.2.1, lnC σ.1 k, σ.2.2.2.2))) →
    wp_L_spells (fun (r36 : Int32) (σ35 : AB) =>
    (r36 = 0 →
    K (0 : Int32) σ35) ∧
    (¬ r36 = 0 →
    ∀ v37 : Int32, v37 = x1_2 + 1 →
    wp_L_lines_b2 K n v37 σ35)) r33 ((((([] : List Nat) ++ [c10]) ++ [58]) ++ dgs r13) ++ (((((([] : List Nat) ++ [91]) ++ dgs r20) ++ [44]) ++ dgs r25) ++ [93])) σ34))
def wp_L_lines (K : (Int32 → AB → Prop))  (σ : AB) : Prop :=
wp_L_lines_b2 K 7 (0 : Int32) σ
set_option maxHeartbeats 4000000 in
set_option maxRecDepth 100000 in
theorem lc_L_spells (l : Launch) (hl9 : l.stackTraces = false) (dC : Nat → ClassId) (dI : Nat → Nat → Nat) (cT : Nat → ClassId) {Hh : Heap} {a0 : Nat} {σ : AB} {W0 : va_W} {p1 : Int32} {tp2 : List Nat} {ap2 : Nat} {vp2 : Nat} {gp2 : Nat → Int32} {K : (Int32 → AB → Prop)} (h : wp_L_spells K p1 tp2 σ) (hp2 : TXT tp2 gp2) (hO : OB cT a0 σ W0) (hP0 : va_P (dC, dI) vwCl ([(ap2, .inr (0, [.ref vp2, .int 0, .int 0, .int 0])), (vp2, .inl (cT 6, (tp2).length, .inl gp2))] ++ W0) Hh) (hD0 : va_D (fun _ => True) ([(ap2, .inr (0, [.ref vp2, .int 0, .int 0, .int 0])), (vp2, .inl (cT 6, (tp2).length, .inl gp2))] ++ W0)) : Met l yL_spells (wA yL_spells cL_spells 5 (some .boolean)) ({ frames := 8, cells := 18, slots := 108, locals := 133 } : Room) (PU dC dI cT [.ref a0, .int p1, .ref ap2] Hh (va_A ([(ap2, .inr (0, [.ref vp2, .int 0, .int 0, .int 0])), (vp2, .inl (cT 6, (tp2).length, .inl gp2))] ++ W0) Hh.size)) (QEI dC dI (fun r W9 => ∃ W1, W9 = ([(ap2, .inr (0, [.ref vp2, .int 0, .int 0, .int 0])), (vp2, .inl (cT 6, (tp2).length, .inl gp2))] : va_W) ++ W1 ∧ ∃ σ9, K r σ9 ∧ OB cT a0 σ9 W1) (va_A ([(ap2, .inr (0, [.ref vp2, .int 0, .int 0, .int 0])), (vp2, .inl (cT 6, (tp2).length, .inl gp2))] ++ W0) Hh.size)) 18 108 (va_A ([(ap2, .inr (0, [.ref vp2, .int 0, .int 0, .int 0])), (vp2, .inl (cT 6, (tp2).length, .inl gp2))] ++ W0) Hh.size) := by
  refine Met.ofW (cc := cL_spells) (maxL := 5) (ret := (some .boolean)) (by decide) rfl ?_
  intro p e s m args below meth c s₁ B hml hv
  obtain ⟨rfl, hH, hK, hX, hN, hZ, hT⟩ := hv
  subst hH
  have hx := B.exec
  have hb := B.bytes
  have hr := B.returns
  have hta : ∀ w ∈ ALLW, w.before [.ref a0, .int p1, .ref ap2].toArray s = true := fun w hw => atoms_spec (ws := wA yL_spells cL_spells 5 (some .boolean)) B.pre w (List.mem_cons_of_mem _ hw)
  have hown : s.vm.findClass RL = some m.cls := findClass_of_methodNamed B.named
  have hlocks := B.notSynchronized
  have hD : va_D (va_A ([(ap2, .inr (0, [.ref vp2, .int 0, .int 0, .int 0])), (vp2, .inl (cT 6, (tp2).length, .inl gp2))] ++ W0) s.heap.size) (([(ap2, .inr (0, [.ref vp2, .int 0, .int 0, .int 0])), (vp2, .inl (cT 6, (tp2).length, .inl gp2))] : va_W) ++ W0) := hD0.self (sz := s.heap.size)
  generalize hAe : va_A ([(ap2, .inr (0, [.ref vp2, .int 0, .int 0, .int 0])), (vp2, .inl (cT 6, (tp2).length, .inl gp2))] ++ W0) s.heap.size = A at hD hX hZ hT ⊢
  have hP : va_P (dC, dI) vwCl (([(ap2, .inr (0, [.ref vp2, .int 0, .int 0, .int 0])), (vp2, .inl (cT 6, (tp2).length, .inl gp2))] : va_W) ++ W0) s.heap := hP0
  have hA : ∀ q : Nat, s.heap.size ≤ q → A q := fun q h => by rw [← hAe]; exact Or.inr h
  have hS : va_S A s.heap s.heap [] := va_S.rf
  have hl := lv_entry [.ref a0, .int p1, .ref ap2] (n := 5) (Nat.le_of_ble_eq_true rfl)
  rw [lg_entry_eq]
  generalize (lg_sl [.ref a0, .int p1, .ref ap2] ++ List.replicate (5 - (lg_sl [.ref a0, .int p1, .ref ap2]).length) Slot.unset).toArray = ls at hl ⊢
  have hl : lv_has ls 5 [(0, .ref a0), (1, .int p1), (2, .ref ap2)] := hl
  obtain ⟨Q, hQ⟩ : ∃ Q, Q = MQ below (QEI dC dI (fun r W9 => ∃ W1, W9 = ([(ap2, .inr (0, [.ref vp2, .int 0, .int 0, .int 0])), (vp2, .inl (cT 6, (tp2).length, .inl gp2))] : va_W) ++ W1 ∧ ∃ σ9, K r σ9 ∧ OB cT a0 σ9 W1) A) [.ref a0, .int p1, .ref ap2].toArray s 18 108 A := ⟨_, rfl⟩
  rw [← hQ]
  have wB_76 : ∀ (s0_76 : Int32) (σ : AB) (wo : va_W) (H : Heap) (locs : List Loc) (ls : Array Slot) (cells slots : Nat), wp_L_spells_b76 K tp2 s0_76 σ → OB cT a0 σ wo → va_P (dC, dI) vwCl (([(ap2, .inr (0, [.ref vp2, .int 0, .int 0, .int 0])), (vp2, .inl (cT 6, (tp2).length, .inl gp2))] : va_W) ++ wo) H → va_D A (([(ap2, .inr (0, [.ref vp2, .int 0, .int 0, .int 0])), (vp2, .inl (cT 6, (tp2).length, .inl gp2))] : va_W) ++ wo) → va_S A s.heap H locs → lv_has ls 5 [] → cells + (0) ≤ 18 → slots + (0) ≤ 108 → W p l e ({ frames := 8, cells := 18, slots := 108, locals := 133 } : Room) s m [.ref a0, .int p1, .ref ap2].toArray below meth c H locs cells slots Q (F0 m 76 ls [.int s0_76]) := by
    intro s0_76 σ wo H locs ls cells slots h hO hP hD hS hl hc1 hc2
    unfold wp_L_spells_b76 at h
    obtain ⟨hbz, h⟩ := h
    refine W.widen (k := 18) (n := 108) (by omega) (by omega) ?_
    rw [hQ]
    exact W.zret (ty := .boolean) (v := s0_76) hx hb hr (bo_n (v := s0_76) hbz) (fun t ht hW => ⟨⟨s0_76, ([(ap2, .inr (0, [.ref vp2, .int 0, .int 0, .int 0])), (vp2, .inl (cT 6, (tp2).length, .inl gp2))] ++ wo), rfl, ⟨wo, rfl, _, h, hO⟩, by rw [ht]; exact P_perm (X' := [(ap2, .inr (0, [.ref vp2, .int 0, .int 0, .int 0])), (vp2, .inl (cT 6, (tp2).length, .inl gp2))]) hP [0, 1] rfl, D_perm (X' := [(ap2, .inr (0, [.ref vp2, .int 0, .int 0, .int 0])), (vp2, .inl (cT 6, (tp2).length, .inl gp2))]) hD [0, 1] (by decide) rfl⟩, hS.F ht⟩) hS.2.2 dL_spells_76
  have wB_75 : ∀  (σ : AB) (wo : va_W) (H : Heap) (locs : List Loc) (ls : Array Slot) (cells slots : Nat), wp_L_spells_b75 K tp2  σ → OB cT a0 σ wo → va_P (dC, dI) vwCl (([(ap2, .inr (0, [.ref vp2, .int 0, .int 0, .int 0])), (vp2, .inl (cT 6, (tp2).length, .inl gp2))] : va_W) ++ wo) H → va_D A (([(ap2, .inr (0, [.ref vp2, .int 0, .int 0, .int 0])), (vp2, .inl (cT 6, (tp2).length, .inl gp2))] : va_W) ++ wo) → va_S A s.heap H locs → lv_has ls 5 [] → cells + (0) ≤ 18 → slots + (0) ≤ 108 → W p l e ({ frames := 8, cells := 18, slots := 108, locals := 133 } : Room) s m [.ref a0, .int p1, .ref ap2].toArray below meth c H locs cells slots Q (F0 m 75 ls []) := by
    intro  σ wo H locs ls cells slots h hO hP hD hS hl hc1 hc2
    unfold wp_L_spells_b75 at h
    refine lv_iconst (v := 0) hx hb dL_spells_75 (by decide) ?_
    exact wB_76 (0 : Int32) σ _ _ _ _ _ _ h hO hP hD hS (lv_sub hl [] rfl) (by omega) (by omega)
  have wB_57 : ∀ (x1_57 : Int32) (x3_57 : Int32) (σ : AB) (wo : va_W) (H : Heap) (locs : List Loc) (ls : Array Slot) (cells slots : Nat), wp_L_spells_b57 K tp2 x1_57 x3_57 σ → OB cT a0 σ wo → va_P (dC, dI) vwCl (([(ap2, .inr (0, [.ref vp2, .int 0, .int 0, .int 0])), (vp2, .inl (cT 6, (tp2).length, .inl gp2))] : va_W) ++ wo) H → va_D A (([(ap2, .inr (0, [.ref vp2, .int 0, .int 0, .int 0])), (vp2, .inl (cT 6, (tp2).length, .inl gp2))] : va_W) ++ wo) → va_S A s.heap H locs → lv_has ls 5 [(0, .ref a0), (1, .int x1_57), (3, .int x3_57)] → cells + (1) ≤ 18 → slots + (6) ≤ 108 → W p l e ({ frames := 8, cells := 18, slots := 108, locals := 133 } : Room) s m [.ref a0, .int p1, .ref ap2].toArray below meth c H locs cells slots Q (F0 m 57 ls []) := by
    intro x1_57 x3_57 σ wo H locs ls cells slots h hO hP hD hS hl hc1 hc2
    unfold wp_L_spells_b57 at h
    refine lv_iload_n hx hb dL_spells_57 rfl (lv_at hl 2 rfl) ?_
    refine lv_if_eq (tgt := 75) hx hb dL_spells_58 (by decide) (fun c0 => ?_) (fun c0 => ?_)
    · have h := h.1 c0
      exact wB_75 σ _ _ _ _ _ _ h hO hP hD hS (lv_sub hl [] rfl) (by omega) (by omega)
    · have h := h.2 c0
      refine lv_aload_n hx hb dL_spells_61 rfl (lv_at hl 0 rfl) ?_
      refine lv_iload_n hx hb dL_spells_62 rfl (lv_at hl 1 rfl) ?_
      refine coI (vx_runSW (As := [.ref a0, .int x1_57]) (rest := []) ⟨hx, hb, hml, hown, hta⟩ (oc_L_character l hl9 dC dI cT hO (P_r hP) ((D_r hD).weaken (fun _ _ _ _ => trivial))) (cW hta lm_L_227 mw_L_character ⟨(Nat.le_of_ble_eq_true rfl), (Nat.le_of_ble_eq_true rfl)⟩) ⟨fbU, fun U hU hW => ⟨rfl, hU, va_K.moved hW.alike hK, XS.call hX hS hU hW (freeO hD hS hA), hN.warm hW, ZS.call hZ hS hU hW (freeO hD hS hA), LT.call hT hS hU hW (freeO hD hS hA)⟩⟩ rfl rfl hl.1 rfl (lv_room (Nat.le_of_ble_eq_true rfl)) dL_spells_63 ⟨by show _ ≤ (18 : Nat); omega, by show _ ≤ (108 : Nat); omega⟩) hS hA hP hD (fun r1 wo H locs hw hP hD hS => ?_)
      obtain ⟨σ2, hr9, hO⟩ := hw
      have h := h r1 σ2 hr9
      refine lv_bipush (v := -14) hx hb dL_spells_66 (by decide) ?_
      refine lv_icmp_ne (tgt := 75) hx hb dL_spells_68 (by decide) (fun c0 => ?_) (fun c0 => ?_)
      · have h := h.2 c0
        exact wB_75 σ2 _ _ _ _ _ _ h hO hP hD hS (lv_sub hl [] rfl) (by omega) (by omega)
      · have h := h.1 c0
        refine lv_iconst (v := 1) hx hb dL_spells_71 (by decide) ?_
        refine lv_goto (tgt := 76) hx hb dL_spells_72 (by decide) ?_
        exact wB_76 (1 : Int32) σ2 _ _ _ _ _ _ h hO hP hD hS (lv_sub hl [] rfl) (by omega) (by omega)
  have wB_17 : ∀ (n_17 : Nat), ∀ (x1_17 : Int32) (x3_17 : Int32) (x4_17 : Int32) (σ : AB) (wo : va_W) (H : Heap) (locs : List Loc) (ls : Array Slot) (cells slots : Nat), wp_L_spells_b17 K tp2 n_17 x1_17 x3_17 x4_17 σ → OB cT a0 σ wo → va_P (dC, dI) vwCl (([(ap2, .inr (0, [.ref vp2, .int 0, .int 0, .int 0])), (vp2, .inl (cT 6, (tp2).length, .inl gp2))] : va_W) ++ wo) H → va_D A (([(ap2, .inr (0, [.ref vp2, .int 0, .int 0, .int 0])), (vp2, .inl (cT 6, (tp2).length, .inl gp2))] : va_W) ++ wo) → va_S A s.heap H locs → lv_has ls 5 [(0, .ref a0), (1, .int x1_17), (2, .ref ap2), (3, .int x3_17), (4, .int x4_17)] → cells + (1 + n_17 * 1) ≤ 18 → slots + (6 + n_17 * 6) ≤ 108 → W p l e ({ frames := 8, cells := 18, slots := 108, locals := 133 } : Room) s m [.ref a0, .int p1, .ref ap2].toArray below meth c H locs cells slots Q (F0 m 17 ls []) := by
    intro n_17
    induction n_17 with
    | zero =>
      intro x1_17 x3_17 x4_17 σ wo H locs ls cells slots h hO hP hD hS hl hc1 hc2
      exact False.elim h
    | succ n_17 ih_17 =>
      have wB_50 : ∀ (x1_50 : Int32) (x4_50 : Int32) (s0_50 : Int32) (σ : AB) (wo : va_W) (H : Heap) (locs : List Loc) (ls : Array Slot) (cells slots : Nat), wp_L_spells_b50 K tp2 (wp_L_spells_b17 K tp2 n_17) x1_50 x4_50 s0_50 σ → OB cT a0 σ wo → va_P (dC, dI) vwCl (([(ap2, .inr (0, [.ref vp2, .int 0, .int 0, .int 0])), (vp2, .inl (cT 6, (tp2).length, .inl gp2))] : va_W) ++ wo) H → va_D A (([(ap2, .inr (0, [.ref vp2, .int 0, .int 0, .int 0])), (vp2, .inl (cT 6, (tp2).length, .inl gp2))] : va_W) ++ wo) → va_S A s.heap H locs → lv_has ls 5 [(0, .ref a0), (1, .int x1_50), (2, .ref ap2), (4, .int x4_50)] → cells + (1 + n_17 * 1) ≤ 18 → slots + (6 + n_17 * 6) ≤ 108 → W p l e ({ frames := 8, cells := 18, slots := 108, locals := 133 } : Room) s m [.ref a0, .int p1, .ref ap2].toArray below meth c H locs cells slots Q (F0 m 50 ls [.int s0_50]) := by
        intro x1_50 x4_50 s0_50 σ wo H locs ls cells slots h hO hP hD hS hl hc1 hc2
        unfold wp_L_spells_b50 at h
        refine lv_istore_n (lv' := [(3, .int s0_50), (0, .ref a0), (1, .int x1_50), (2, .ref ap2), (4, .int x4_50)]) hx hb dL_spells_50 rfl hl (by decide) rfl (fun ls hl => ?_)
        obtain ⟨v3, e_v⟩ : ∃ y : Int32, y = x4_50 + 1 := ⟨_, rfl⟩
        have h := h v3 e_v
        refine lv_iinc (v := v3) (lv' := [(4, .int v3), (3, .int s0_50), (0, .ref a0), (1, .int x1_50), (2, .ref ap2)]) hx hb dL_spells_51 hl (k := 4) rfl (by rw [e_v]; rfl) (by decide) rfl (fun ls hl => ?_)
        refine lv_goto (tgt := 17) hx hb dL_spells_54 (by decide) ?_
        exact ih_17 x1_50 s0_50 v3 σ _ _ _ _ _ _ h hO hP hD hS (lv_sub hl [2, 3, 4, 1, 0] rfl) (by omega) (by omega)
      intro x1_17 x3_17 x4_17 σ wo H locs ls cells slots h hO hP hD hS hl hc1 hc2
      rw [wp_L_spells_b17] at h
      refine lv_iload hx hb dL_spells_17 (lv_at hl 4 rfl) ?_
      refine lv_aload_n hx hb dL_spells_19 rfl (lv_at hl 2 rfl) ?_
      refine crI (va_runV (As := []) (rest := [.int x4_17]) ⟨hx, hb, hml, hown, hta⟩ (cS_lengthM l dC dI cT rfl ((P_l hP).sub (ws' := [(ap2, .inr (0, [.ref vp2, .int 0, .int 0, .int 0])), (vp2, .inl (cT 6, (tp2).length, .inl gp2))]) [0, 1] rfl)) (cV hta lm_L_127 md_J0_length_8abf5 ⟨(Nat.le_of_ble_eq_true rfl), (Nat.le_of_ble_eq_true rfl)⟩) ⟨fbJM, va_recv hK hP (ci := 0) (q0 := 0) rfl rfl, fun U hU hW => ⟨rfl, hU, va_K.moved hW.alike hK, ZS.call hZ hS hU hW (frA hS hA), SP.warm hW hT.1⟩⟩ rfl rfl hl.1 rfl (lv_room (Nat.le_of_ble_eq_true rfl)) dL_spells_20 ⟨by show _ ≤ (18 : Nat); omega, by show _ ≤ (108 : Nat); omega⟩) hS hA (fun locs hS => ?_)
      refine lv_icmp_ge (tgt := 57) hx hb dL_spells_23 (by decide) (fun c0 => ?_) (fun c0 => ?_)
      · have h := h.1 c0
        exact wB_57 x1_17 x3_17 σ _ _ _ _ _ _ h hO hP hD hS (lv_sub hl [0, 1, 3] rfl) (by omega) (by omega)
      · have h := h.2 c0
        refine lv_iload_n hx hb dL_spells_26 rfl (lv_at hl 3 rfl) ?_
        refine lv_if_eq (tgt := 57) hx hb dL_spells_27 (by decide) (fun c0 => ?_) (fun c0 => ?_)
        · have h := h.1 c0
          exact wB_57 x1_17 x3_17 σ _ _ _ _ _ _ h hO hP hD hS (lv_sub hl [0, 1, 3] rfl) (by omega) (by omega)
        · have h := h.2 c0
          refine lv_aload_n hx hb dL_spells_30 rfl (lv_at hl 0 rfl) ?_
          refine lv_iload hx hb dL_spells_31 (lv_at hl 4 rfl) ?_
          refine coI (vx_runSW (As := [.ref a0, .int x4_17]) (rest := []) ⟨hx, hb, hml, hown, hta⟩ (oc_L_character l hl9 dC dI cT hO (P_r hP) ((D_r hD).weaken (fun _ _ _ _ => trivial))) (cW hta lm_L_227 mw_L_character ⟨(Nat.le_of_ble_eq_true rfl), (Nat.le_of_ble_eq_true rfl)⟩) ⟨fbU, fun U hU hW => ⟨rfl, hU, va_K.moved hW.alike hK, XS.call hX hS hU hW (freeO hD hS hA), hN.warm hW, ZS.call hZ hS hU hW (freeO hD hS hA), LT.call hT hS hU hW (freeO hD hS hA)⟩⟩ rfl rfl hl.1 rfl (lv_room (Nat.le_of_ble_eq_true rfl)) dL_spells_33 ⟨by show _ ≤ (18 : Nat); omega, by show _ ≤ (108 : Nat); omega⟩) hS hA hP hD (fun r4 wo H locs hw hP hD hS => ?_)
          obtain ⟨σ5, hr9, hO⟩ := hw
          have h := h r4 σ5 hr9
          refine lv_aload_n hx hb dL_spells_36 rfl (lv_at hl 2 rfl) ?_
          refine lv_iload hx hb dL_spells_37 (lv_at hl 4 rfl) ?_
          obtain ⟨k6, hc1, ec, hc3, h⟩ := h
          rw [ec]
          refine crI (va_runV (As := [.int (nI k6)]) (rest := [.int r4]) ⟨hx, hb, hml, hown, hta⟩ (cS_charAt l dC dI cT (i := k6) hc1 hc3 rfl ((P_l hP).sub (ws' := [(ap2, .inr (0, [.ref vp2, .int 0, .int 0, .int 0])), (vp2, .inl (cT 6, (tp2).length, .inl gp2))]) [0, 1] rfl)) (cV hta lm_L_132 md_J0_charAt_5068e ⟨(Nat.le_of_ble_eq_true rfl), (Nat.le_of_ble_eq_true rfl)⟩) ⟨fbJM, va_recv hK hP (ci := 0) (q0 := 0) rfl rfl, fun U hU hW => ⟨rfl, hU, va_K.moved hW.alike hK, ZS.call hZ hS hU hW (frA hS hA), SP.warm hW hT.1⟩⟩ rfl rfl hl.1 rfl (lv_room (Nat.le_of_ble_eq_true rfl)) dL_spells_39 ⟨by show _ ≤ (18 : Nat); omega, by show _ ≤ (108 : Nat); omega⟩) hS hA (fun locs hS => ?_)
          refine lv_topi (fun r7 e_v => ?_)
          have e9 : r7 = nI ((tp2).getD k6 0) := e_v.trans (txt_at hp2 hc1 (by omega))
          have h := h r7 e9
          refine lv_icmp_ne (tgt := 49) hx hb dL_spells_42 (by decide) (fun c0 => ?_) (fun c0 => ?_)
          · have h := h.2 c0
            refine lv_iconst (v := 0) hx hb dL_spells_49 (by decide) ?_
            exact wB_50 x1_17 x4_17 (0 : Int32) σ5 _ _ _ _ _ _ h hO hP hD hS (lv_sub hl [0, 1, 2, 4] rfl) (by omega) (by omega)
          · have h := h.1 c0
            refine lv_iconst (v := 1) hx hb dL_spells_45 (by decide) ?_
            refine lv_goto (tgt := 50) hx hb dL_spells_46 (by decide) ?_
            exact wB_50 x1_17 x4_17 (1 : Int32) σ5 _ _ _ _ _ _ h hO hP hD hS (lv_sub hl [0, 1, 2, 4] rfl) (by omega) (by omega)
  have wB_13 : ∀ (x1_13 : Int32) (s0_13 : Int32) (σ : AB) (wo : va_W) (H : Heap) (locs : List Loc) (ls : Array Slot) (cells slots : Nat), wp_L_spells_b13 K tp2 x1_13 s0_13 σ → OB cT a0 σ wo → va_P (dC, dI) vwCl (([(ap2, .inr (0, [.ref vp2, .int 0, .int 0, .int 0])), (vp2, .inl (cT 6, (tp2).length, .inl gp2))] : va_W) ++ wo) H → va_D A (([(ap2, .inr (0, [.ref vp2, .int 0, .int 0, .int 0])), (vp2, .inl (cT 6, (tp2).length, .inl gp2))] : va_W) ++ wo) → va_S A s.heap H locs → lv_has ls 5 [(0, .ref a0), (1, .int x1_13), (2, .ref ap2)] → cells + (18) ≤ 18 → slots + (108) ≤ 108 → W p l e ({ frames := 8, cells := 18, slots := 108, locals := 133 } : Room) s m [.ref a0, .int p1, .ref ap2].toArray below meth c H locs cells slots Q (F0 m 13 ls [.int s0_13]) := by
    intro x1_13 s0_13 σ wo H locs ls cells slots h hO hP hD hS hl hc1 hc2
    unfold wp_L_spells_b13 at h
    refine lv_istore_n (lv' := [(3, .int s0_13), (0, .ref a0), (1, .int x1_13), (2, .ref ap2)]) hx hb dL_spells_13 rfl hl (by decide) rfl (fun ls hl => ?_)
    refine lv_iconst (v := 0) hx hb dL_spells_14 (by decide) ?_
    refine lv_istore (lv' := [(4, .int 0), (3, .int s0_13), (0, .ref a0), (1, .int x1_13), (2, .ref ap2)]) hx hb dL_spells_15 hl (by decide) rfl (fun ls hl => ?_)
    exact wB_17 17 x1_13 s0_13 (0 : Int32) σ _ _ _ _ _ _ h hO hP hD hS (lv_sub hl [2, 3, 4, 1, 0] rfl) (by omega) (by omega)
  unfold wp_L_spells at h
  have hc1 : (0 : Nat) + 18 ≤ 18 := Nat.le_of_eq (Nat.zero_add _)
  have hc2 : (0 : Nat) + 108 ≤ 108 := Nat.le_of_eq (Nat.zero_add _)
  clear hP0 hD0 hAe
  obtain ⟨wo, e_w⟩ : ∃ z, z = W0 := ⟨W0, rfl⟩
  rw [← e_w] at hO hP hD
  clear e_w
  refine lv_iload_n hx hb dL_spells_0 rfl (lv_at hl 1 rfl) ?_
  refine lv_aload_n hx hb dL_spells_1 rfl (lv_at hl 2 rfl) ?_
  refine crI (va_runV (As := []) (rest := [.int p1]) ⟨hx, hb, hml, hown, hta⟩ (cS_lengthM l dC dI cT rfl ((P_l hP).sub (ws' := [(ap2, .inr (0, [.ref vp2, .int 0, .int 0, .int 0])), (vp2, .inl (cT 6, (tp2).length, .inl gp2))]) [0, 1] rfl)) (cV hta lm_L_127 md_J0_length_8abf5 ⟨(Nat.le_of_ble_eq_true rfl), (Nat.le_of_ble_eq_true rfl)⟩) ⟨fbJM, va_recv hK hP (ci := 0) (q0 := 0) rfl rfl, fun U hU hW => ⟨rfl, hU, va_K.moved hW.alike hK, ZS.call hZ hS hU hW (frA hS hA), SP.warm hW hT.1⟩⟩ rfl rfl hl.1 rfl (lv_room (Nat.le_of_ble_eq_true rfl)) dL_spells_2 ⟨by show _ ≤ (18 : Nat); omega, by show _ ≤ (108 : Nat); omega⟩) hS hA (fun locs hS => ?_)
  refine lv_icmp_ne (tgt := 12) hx hb dL_spells_5 (by decide) (fun c0 => ?_) (fun c0 => ?_)
  · have h := h.2 c0
    refine lv_iconst (v := 0) hx hb dL_spells_12 (by decide) ?_
    exact wB_13 p1 (0 : Int32) σ _ _ _ _ _ _ h hO hP hD hS (lv_sub hl [0, 1, 2] rfl) (by omega) (by omega)
  · have h := h.1 c0
    refine lv_iconst (v := 1) hx hb dL_spells_8 (by decide) ?_
    refine lv_goto (tgt := 13) hx hb dL_spells_9 (by decide) ?_
    exact wB_13 p1 (1 : Int32) σ _ _ _ _ _ _ h hO hP hD hS (lv_sub hl [0, 1, 2] rfl) (by omega) (by omega)
set_option maxHeartbeats 4000000 in
set_option maxRecDepth 100000 in
theorem lc_L_lines (l : Launch) (hl9 : l.stackTraces = false) (dC : Nat → ClassId) (dI : Nat → Nat → Nat) (cT : Nat → ClassId) {Hh : Heap} {a0 : Nat} {σ : AB} {W0 : va_W} {K : (Int32 → AB → Prop)} (h : wp_L_lines K σ) (hO : OB cT a0 σ W0) (hP0 : va_P (dC, dI) vwCl W0 Hh) (hD0 : va_D (fun _ => True) W0) : Met l yL_lines (wA yL_lines cL_lines 3 (some .boolean)) ({ frames := 9, cells := 454, slots := 16920, locals := 178 } : Room) (PU dC dI cT [.ref a0] Hh (va_A W0 Hh.size)) (QEI dC dI (fun r W1 => ∃ σ9, K r σ9 ∧ OB cT a0 σ9 W1) (va_A W0 Hh.size)) 454 16920 (va_A W0 Hh.size) := by
  refine Met.ofW (cc := cL_lines) (maxL := 3) (ret := (some .boolean)) (by decide) rfl ?_
  intro p e s m args below meth c s₁ B hml hv
  obtain ⟨rfl, hH, hK, hX, hN, hZ, hT⟩ := hv
  subst hH
  have hx := B.exec
  have hb := B.bytes
  have hr := B.returns
  have hta : ∀ w ∈ ALLW, w.before [.ref a0].toArray s = true := fun w hw => atoms_spec (ws := wA yL_lines cL_lines 3 (some .boolean)) B.pre w (List.mem_cons_of_mem _ hw)
  have hown : s.vm.findClass RL = some m.cls := findClass_of_methodNamed B.named
  have hlocks := B.notSynchronized
  have hD : va_D (va_A W0 s.heap.size) (([] : va_W) ++ W0) := hD0.self (sz := s.heap.size)
  generalize hAe : va_A W0 s.heap.size = A at hD hX hZ hT ⊢
  have hP : va_P (dC, dI) vwCl (([] : va_W) ++ W0) s.heap := hP0
  have hA : ∀ q : Nat, s.heap.size ≤ q → A q := fun q h => by rw [← hAe]; exact Or.inr h
  have hS : va_S A s.heap s.heap [] := va_S.rf
  have hl := lv_entry [.ref a0] (n := 3) (Nat.le_of_ble_eq_true rfl)
  rw [lg_entry_eq]
  generalize (lg_sl [.ref a0] ++ List.replicate (3 - (lg_sl [.ref a0]).length) Slot.unset).toArray = ls at hl ⊢
  have hl : lv_has ls 3 [(0, .ref a0)] := hl
  obtain ⟨Q, hQ⟩ : ∃ Q, Q = MQ below (QEI dC dI (fun r W1 => ∃ σ9, K r σ9 ∧ OB cT a0 σ9 W1) A) [.ref a0].toArray s 454 16920 A := ⟨_, rfl⟩
  rw [← hQ]
  have wB_163 : ∀ (s0_163 : Int32) (σ : AB) (wo : va_W) (H : Heap) (locs : List Loc) (ls : Array Slot) (cells slots : Nat), wp_L_lines_b163 K s0_163 σ → OB cT a0 σ wo → va_P (dC, dI) vwCl (([] : va_W) ++ wo) H → va_D A (([] : va_W) ++ wo) → va_S A s.heap H locs → lv_has ls 3 [] → cells + (0) ≤ 454 → slots + (0) ≤ 16920 → W p l e ({ frames := 9, cells := 454, slots := 16920, locals := 178 } : Room) s m [.ref a0].toArray below meth c H locs cells slots Q (F0 m 163 ls [.int s0_163]) := by
    intro s0_163 σ wo H locs ls cells slots h hO hP hD hS hl hc1 hc2
    unfold wp_L_lines_b163 at h
    obtain ⟨hbz, h⟩ := h
    refine W.widen (k := 454) (n := 16920) (by omega) (by omega) ?_
    rw [hQ]
    exact W.zret (ty := .boolean) (v := s0_163) hx hb hr (bo_n (v := s0_163) hbz) (fun t ht hW => ⟨⟨s0_163, wo, rfl, ⟨_, h, hO⟩, by rw [ht]; exact P_r hP, D_r hD⟩, hS.F ht⟩) hS.2.2 dL_lines_163
  have wB_162 : ∀  (σ : AB) (wo : va_W) (H : Heap) (locs : List Loc) (ls : Array Slot) (cells slots : Nat), wp_L_lines_b162 K  σ → OB cT a0 σ wo → va_P (dC, dI) vwCl (([] : va_W) ++ wo) H → va_D A (([] : va_W) ++ wo) → va_S A s.heap H locs → lv_has ls 3 [] → cells + (0) ≤ 454 → slots + (0) ≤ 16920 → W p l e ({ frames := 9, cells := 454, slots := 16920, locals := 178 } : Room) s m [.ref a0].toArray below meth c H locs cells slots Q (F0 m 162 ls []) := by
    intro  σ wo H locs ls cells slots h hO hP hD hS hl hc1 hc2
    unfold wp_L_lines_b162 at h
    refine lv_iconst (v := 0) hx hb dL_lines_162 (by decide) ?_
    exact wB_163 (0 : Int32) σ _ _ _ _ _ _ h hO hP hD hS (lv_sub hl [] rfl) (by omega) (by omega)
  have wB_2 : ∀ (n_2 : Nat), ∀ (x1_2 : Int32) (σ : AB) (wo : va_W) (H : Heap) (locs : List Loc) (ls : Array Slot) (cells slots : Nat), wp_L_lines_b2 K n_2 x1_2 σ → OB cT a0 σ wo → va_P (dC, dI) vwCl (([] : va_W) ++ wo) H → va_D A (([] : va_W) ++ wo) → va_S A s.heap H locs → lv_has ls 3 [(0, .ref a0), (1, .int x1_2)] → cells + (76 + n_2 * 54) ≤ 454 → slots + (5118 + n_2 * 1686) ≤ 16920 → W p l e ({ frames := 9, cells := 454, slots := 16920, locals := 178 } : Room) s m [.ref a0].toArray below meth c H locs cells slots Q (F0 m 2 ls []) := by
    intro n_2
    induction n_2 with
    | zero =>
      intro x1_2 σ wo H locs ls cells slots h hO hP hD hS hl hc1 hc2
      exact False.elim h
    | succ n_2 ih_2 =>
      intro x1_2 σ wo H locs ls cells slots h hO hP hD hS hl hc1 hc2
      rw [wp_L_lines_b2] at h
      refine lv_iload_n hx hb dL_lines_2 rfl (lv_at hl 1 rfl) ?_
      refine lv_aload_n hx hb dL_lines_3 rfl (lv_at hl 0 rfl) ?_
      refine lv_iconst (v := 0) hx hb dL_lines_4 (by decide) ?_
      obtain ⟨hq, h⟩ := h
      refine coI (va_runV (As := [.int 0]) (rest := [.int x1_2]) ⟨hx, hb, hml, hown, hta⟩ (oc_X11_account l hl9 dC dI cT hO hq (P_r hP) ((D_r hD).weaken (fun _ _ _ _ => trivial))) (cV hta lm_L_229 md_X11_account ⟨(Nat.le_of_ble_eq_true rfl), (Nat.le_of_ble_eq_true rfl)⟩) ⟨fbU, recvO hK hO (P_r hP), fun U hU hW => ⟨rfl, hU, va_K.moved hW.alike hK, XS.call hX hS hU hW (freeO hD hS hA), hN.warm hW, ZS.call hZ hS hU hW (freeO hD hS hA), LT.call hT hS hU hW (freeO hD hS hA)⟩⟩ rfl rfl hl.1 rfl (lv_room (Nat.le_of_ble_eq_true rfl)) dL_lines_5 ⟨by show _ ≤ (454 : Nat); omega, by show _ ≤ (16920 : Nat); omega⟩) hS hA hP hD (fun r1 wo H locs hw hP hD hS => ?_)
      obtain ⟨hr9, hO⟩ := hw
      have h := h r1 hr9
      refine lv_icmp_ge (tgt := 130) hx hb dL_lines_8 (by decide) (fun c0 => ?_) (fun c0 => ?_)
      · have h := h.1 c0
        refine lv_aload_n hx hb dL_lines_130 rfl (lv_at hl 0 rfl) ?_
        refine lv_aload_n hx hb dL_lines_131 rfl (lv_at hl 0 rfl) ?_
        refine lv_iconst (v := 0) hx hb dL_lines_132 (by decide) ?_
        obtain ⟨hq, h⟩ := h
        refine coI (va_runV (As := [.int 0]) (rest := [.ref a0]) ⟨hx, hb, hml, hown, hta⟩ (oc_X11_account l hl9 dC dI cT hO hq (P_r hP) ((D_r hD).weaken (fun _ _ _ _ => trivial))) (cV hta lm_L_229 md_X11_account ⟨(Nat.le_of_ble_eq_true rfl), (Nat.le_of_ble_eq_true rfl)⟩) ⟨fbU, recvO hK hO (P_r hP), fun U hU hW => ⟨rfl, hU, va_K.moved hW.alike hK, XS.call hX hS hU hW (freeO hD hS hA), hN.warm hW, ZS.call hZ hS hU hW (freeO hD hS hA), LT.call hT hS hU hW (freeO hD hS hA)⟩⟩ rfl rfl hl.1 rfl (lv_room (Nat.le_of_ble_eq_true rfl)) dL_lines_133 ⟨by show _ ≤ (454 : Nat); omega, by show _ ≤ (16920 : Nat); omega⟩) hS hA hP hD (fun r2 wo H locs hw hP hD hS => ?_)
        obtain ⟨hr9, hO⟩ := hw
        have h := h r2 hr9
        refine coI (vx_runSW (As := [.ref a0, .int r2]) (rest := []) ⟨hx, hb, hml, hown, hta⟩ (oc_L_tellCauldron l hl9 dC dI cT hO (P_r hP) ((D_r hD).weaken (fun _ _ _ _ => trivial))) (cW hta lm_L_320 mw_L_tellCauldron ⟨(Nat.le_of_ble_eq_true rfl), (Nat.le_of_ble_eq_true rfl)⟩) ⟨fbU, fun U hU hW => ⟨rfl, hU, va_K.moved hW.alike hK, XS.call hX hS hU hW (freeO hD hS hA), hN.warm hW, ZS.call hZ hS hU hW (freeO hD hS hA), LT.call hT hS hU hW (freeO hD hS hA)⟩⟩ rfl rfl hl.1 rfl (lv_room (Nat.le_of_ble_eq_true rfl)) dL_lines_136 ⟨by show _ ≤ (454 : Nat); omega, by show _ ≤ (16920 : Nat); omega⟩) hS hA hP hD (fun r3 wo H locs hw hP hD hS => ?_)
        obtain ⟨σ4, hr9, hO⟩ := hw
        have h := h r3 σ4 hr9
        refine lv_bipush (v := -11) hx hb dL_lines_139 (by decide) ?_
        refine lv_icmp_ne (tgt := 162) hx hb dL_lines_141 (by decide) (fun c0 => ?_) (fun c0 => ?_)
        · have h := h.2 c0
          exact wB_162 σ4 _ _ _ _ _ _ h hO hP hD hS (lv_sub hl [] rfl) (by omega) (by omega)
        · have h := h.1 c0
          refine lv_aload_n hx hb dL_lines_144 rfl (lv_at hl 0 rfl) ?_
          refine lv_aload_n hx hb dL_lines_145 rfl (lv_at hl 0 rfl) ?_
          refine lv_iconst (v := 1) hx hb dL_lines_146 (by decide) ?_
          obtain ⟨hq, h⟩ := h
          refine coI (va_runV (As := [.int 1]) (rest := [.ref a0]) ⟨hx, hb, hml, hown, hta⟩ (oc_X11_account l hl9 dC dI cT hO hq (P_r hP) ((D_r hD).weaken (fun _ _ _ _ => trivial))) (cV hta lm_L_229 md_X11_account ⟨(Nat.le_of_ble_eq_true rfl), (Nat.le_of_ble_eq_true rfl)⟩) ⟨fbU, recvO hK hO (P_r hP), fun U hU hW => ⟨rfl, hU, va_K.moved hW.alike hK, XS.call hX hS hU hW (freeO hD hS hA), hN.warm hW, ZS.call hZ hS hU hW (freeO hD hS hA), LT.call hT hS hU hW (freeO hD hS hA)⟩⟩ rfl rfl hl.1 rfl (lv_room (Nat.le_of_ble_eq_true rfl)) dL_lines_147 ⟨by show _ ≤ (454 : Nat); omega, by show _ ≤ (16920 : Nat); omega⟩) hS hA hP hD (fun r5 wo H locs hw hP hD hS => ?_)
          obtain ⟨hr9, hO⟩ := hw
          have h := h r5 hr9
          refine coI (vx_runSW (As := [.ref a0, .int r5]) (rest := []) ⟨hx, hb, hml, hown, hta⟩ (oc_L_tell l hl9 dC dI cT hO (P_r hP) ((D_r hD).weaken (fun _ _ _ _ => trivial))) (cW hta lm_L_224 mw_L_tell ⟨(Nat.le_of_ble_eq_true rfl), (Nat.le_of_ble_eq_true rfl)⟩) ⟨fbU, fun U hU hW => ⟨rfl, hU, va_K.moved hW.alike hK, XS.call hX hS hU hW (freeO hD hS hA), hN.warm hW, ZS.call hZ hS hU hW (freeO hD hS hA), LT.call hT hS hU hW (freeO hD hS hA)⟩⟩ rfl rfl hl.1 rfl (lv_room (Nat.le_of_ble_eq_true rfl)) dL_lines_150 ⟨by show _ ≤ (454 : Nat); omega, by show _ ≤ (16920 : Nat); omega⟩) hS hA hP hD (fun r6 wo H locs hw hP hD hS => ?_)
          obtain ⟨σ7, hr9, hO⟩ := hw
          have h := h r6 σ7 hr9
          refine lv_bipush (v := -11) hx hb dL_lines_153 (by decide) ?_
          refine lv_icmp_ne (tgt := 162) hx hb dL_lines_155 (by decide) (fun c0 => ?_) (fun c0 => ?_)
          · have h := h.2 c0
            exact wB_162 σ7 _ _ _ _ _ _ h hO hP hD hS (lv_sub hl [] rfl) (by omega) (by omega)
          · have h := h.1 c0
            refine lv_iconst (v := 1) hx hb dL_lines_158 (by decide) ?_
            refine lv_goto (tgt := 163) hx hb dL_lines_159 (by decide) ?_
            exact wB_163 (1 : Int32) σ7 _ _ _ _ _ _ h hO hP hD hS (lv_sub hl [] rfl) (by omega) (by omega)
      · have h := h.2 c0
        refine va_new (ci := 1) (fs := [.null, .int 0, .int 0, .int 0]) (C := RJ4) (T := TJ4) (N := 4) hx hb hta inJ4w tyJ4 tyJ4_ok hown (hta _ lc_L_144) (hta _ inst_J4) (hta _ ini_J4) hK hP hD hS hA rfl (fun j hj => by rcases (show j = 0 ∨ j = 1 ∨ j = 2 ∨ j = 3 by omega) with rfl | rfl | rfl | rfl <;> rfl) (by show _ ≤ (454 : Nat); omega) (by show _ ≤ (16920 : Nat); omega) dL_lines_11 (fun ab11_8 H hP hD hS => ?_)
        have hP : va_P (dC, dI) vwCl (([(ab11_8, .inr (1, [.null, .int 0, .int 0, .int 0]))] : va_W) ++ wo) H := P_mv hP
        have hD : va_D A (([(ab11_8, .inr (1, [.null, .int 0, .int 0, .int 0]))] : va_W) ++ wo) := D_mv hD
        refine lv_dup hx hb dL_lines_14 rfl ?_
        refine cvX (wr := []) (va_runI (As := []) (rest := [.ref ab11_8]) ⟨hx, hb, hml, hown, hta⟩ (cJ_init l dC dI cT rfl ((P_l hP).sub (ws' := [(ab11_8, .inr (1, [.null, .int 0, .int 0, .int 0]))]) [0] rfl) (ds (D_l hD) [0] (by decide) rfl)) (cI hta lm_L_146 md_J4_init_da8c8 ⟨(Nat.le_of_ble_eq_true rfl), (Nat.le_of_ble_eq_true rfl)⟩) ⟨fbJ, fun U hU hW => ⟨rfl, hU, va_K.moved hW.alike hK, ZS.call hZ hS hU hW (va_free (D_l hD) hS hA [0] rfl)⟩⟩ rfl rfl hl.1 rfl (lv_room (Nat.le_of_ble_eq_true rfl)) dL_lines_15 ⟨by show _ ≤ (454 : Nat); omega, by show _ ≤ (16920 : Nat); omega⟩) hS hA hP hD [0] [] rfl rfl (by decide) (by decide) (fun v9 H locs _ hP hD hS => ?_)
        obtain ⟨ub11_8, e9⟩ : ∃ y : BU, y = (v9 0, 16, (fun _ => 0), 0) := ⟨_, rfl⟩
        have hxb11_8 : LX [] ub11_8 := by rw [e9]; exact lx_0
        have hP : va_P (dC, dI) vwCl (([(ab11_8, .inr (1, [.ref ub11_8.1, .int 0, .int ub11_8.2.2.2, .int (nI (([] : List Nat)).length)])), (ub11_8.1, .inl (cT 6, ub11_8.2.1, .inl ub11_8.2.2.1))] : va_W) ++ wo) H := by rw [e9]; exact hP
        have hD : va_D A (([(ab11_8, .inr (1, [.ref ub11_8.1, .int 0, .int ub11_8.2.2.2, .int (nI (([] : List Nat)).length)])), (ub11_8.1, .inl (cT 6, ub11_8.2.1, .inl ub11_8.2.2.1))] : va_W) ++ wo) := by rw [e9]; exact hD
        refine lv_bipush (v := 97) hx hb dL_lines_18 (by decide) ?_
        refine lv_iload_n hx hb dL_lines_20 rfl (lv_at hl 1 rfl) ?_
        refine lv_iadd hx hb dL_lines_21 ?_
        refine lv_i2c hx hb dL_lines_22 rfl ?_
        obtain ⟨c10, hc1, ec, hc2, h⟩ := h
        rw [ec]
        refine cqX (wr := []) (va_runV (As := [.int (nI c10)]) (rest := []) ⟨hx, hb, hml, hown, hta⟩ (cJ_appC l dC dI cT (n := (([] : List Nat)).length) (c255 hc1) hxb11_8.1.2.1 (by omega) hxb11_8.1.2.2.1 hxb11_8.1.2.2.2.2 rfl ((P_l hP).sub (ws' := [(ab11_8, .inr (1, [.ref ub11_8.1, .int 0, .int ub11_8.2.2.2, .int (nI (([] : List Nat)).length)])), (ub11_8.1, .inl (cT 6, ub11_8.2.1, .inl ub11_8.2.2.1))]) [0, 1] rfl) (ds (D_l hD) [0, 1] (by decide) rfl)) (cV hta lm_L_159 md_J4_append_cf468 ⟨(Nat.le_of_ble_eq_true rfl), (Nat.le_of_ble_eq_true rfl)⟩) ⟨fbJ, va_recv hK hP (ci := 1) (q0 := 0) rfl rfl, fun U hU hW => ⟨rfl, hU, va_K.moved hW.alike hK, ZS.call hZ hS hU hW (va_free (D_l hD) hS hA [0, 1] rfl)⟩⟩ rfl rfl hl.1 rfl (lv_room (Nat.le_of_ble_eq_true rfl)) dL_lines_23 ⟨by show _ ≤ (454 : Nat); omega, by show _ ≤ (16920 : Nat); omega⟩) hS hA hP hD [0, 1] [] rfl rfl (by decide) (by decide) (fun r9 u9 H locs hu hP hD hS => ?_)
        obtain ⟨rfl, hu⟩ := hu
        have hxb11_8u9 : LX (([] : List Nat) ++ [c10]) u9 := lx_app hxb11_8 hu hc1
        have el : ((([] : List Nat) ++ [c10])).length = (([] : List Nat)).length + 1 := (by rw [List.length_append]; rfl)
        have hP : va_P (dC, dI) vwCl (([(ab11_8, .inr (1, [.ref u9.1, .int 0, .int u9.2.2.2, .int (nI ((([] : List Nat) ++ [c10])).length)])), (u9.1, .inl (cT 6, u9.2.1, .inl u9.2.2.1))] : va_W) ++ wo) H := by rw [el]; exact hP
        have hD : va_D A (([(ab11_8, .inr (1, [.ref u9.1, .int 0, .int u9.2.2.2, .int (nI ((([] : List Nat) ++ [c10])).length)])), (u9.1, .inl (cT 6, u9.2.1, .inl u9.2.2.1))] : va_W) ++ wo) := by rw [el]; exact hD
        refine W.eq (g2 := F0 m 26 ls [.ref ab11_8]) rfl ?_
        obtain ⟨sa26_11, sv26_11, hz26_11, hks26_11⟩ := hT.2 _ (List.mem_of_getElem? (i := 8) rfl)
        refine va_ldcSW hx hb hown hz26_11 dL_lines_26 ?_
        obtain ⟨hc, h⟩ := h
        refine cqX (wr := []) (va_runV (As := [.ref sa26_11]) (rest := []) ⟨hx, hb, hml, hown, hta⟩ (cS_appK l dC dI cT (n := ((([] : List Nat) ++ [c10])).length) (sn := ([58] : List Nat).length) (txt_lit (t := [58]) (by decide)).2.2 hxb11_8u9.1.2.1 (Nat.le_trans hc (cap16 hxb11_8u9.1.2.2.1)) hxb11_8u9.1.2.2.1 hxb11_8u9.1.2.2.2.2 rfl ((P_l hP).sub (ws' := [(ab11_8, .inr (1, [.ref u9.1, .int 0, .int u9.2.2.2, .int (nI ((([] : List Nat) ++ [c10])).length)])), (u9.1, .inl (cT 6, u9.2.1, .inl u9.2.2.1))]) [0, 1] rfl) (ds (D_l hD) [0, 1] (by decide) rfl)) (cV hta lm_L_149 md_J4_append_15ec4 ⟨(Nat.le_of_ble_eq_true rfl), (Nat.le_of_ble_eq_true rfl)⟩) ⟨fbJK, va_recv hK hP (ci := 1) (q0 := 0) rfl rfl, fun U hU hW => ⟨rfl, hU, va_K.moved hW.alike hK, ZS.call hZ hS hU hW (va_free (D_l hD) hS hA [0, 1] rfl), SP.warm hW hT.1, KS.call hks26_11 hS hU hW (va_free (D_l hD) hS hA [0, 1] rfl)⟩⟩ rfl rfl hl.1 rfl (lv_room (Nat.le_of_ble_eq_true rfl)) dL_lines_29 ⟨by show _ ≤ (454 : Nat); omega, by show _ ≤ (16920 : Nat); omega⟩) hS hA hP hD [0, 1] [] rfl rfl (by decide) (by decide) (fun r9 u12 H locs hu hP hD hS => ?_)
        obtain ⟨rfl, hu⟩ := hu
        have hxb11_8u12 : LX ((([] : List Nat) ++ [c10]) ++ [58]) u12 := lx_aps hxb11_8u9 (txt_lit (t := [58]) (by decide)) hu
        have el : (((([] : List Nat) ++ [c10]) ++ [58])).length = ((([] : List Nat) ++ [c10])).length + ([58] : List Nat).length := (by rw [List.length_append])
        have hP : va_P (dC, dI) vwCl (([(ab11_8, .inr (1, [.ref u12.1, .int 0, .int u12.2.2.2, .int (nI (((([] : List Nat) ++ [c10]) ++ [58])).length)])), (u12.1, .inl (cT 6, u12.2.1, .inl u12.2.2.1))] : va_W) ++ wo) H := by rw [el]; exact hP
        have hD : va_D A (([(ab11_8, .inr (1, [.ref u12.1, .int 0, .int u12.2.2.2, .int (nI (((([] : List Nat) ++ [c10]) ++ [58])).length)])), (u12.1, .inl (cT 6, u12.2.1, .inl u12.2.2.1))] : va_W) ++ wo) := by rw [el]; exact hD
        refine W.eq (g2 := F0 m 32 ls [.ref ab11_8]) rfl ?_
        refine lv_aload_n hx hb dL_lines_32 rfl (lv_at hl 0 rfl) ?_
        refine lv_iload_n hx hb dL_lines_33 rfl (lv_at hl 1 rfl) ?_
        refine lv_iconst (v := 3) hx hb dL_lines_34 (by decide) ?_
        refine coI (vx_runSW (As := [.ref a0, .int x1_2, .int 3]) (rest := [.ref ab11_8]) ⟨hx, hb, hml, hown, hta⟩ (oc_L_of l hl9 dC dI cT hO (P_r hP) ((D_r hD).weaken (fun _ _ _ _ => trivial))) (cW hta lm_L_186 mw_L_of ⟨(Nat.le_of_ble_eq_true rfl), (Nat.le_of_ble_eq_true rfl)⟩) ⟨fbU, fun U hU hW => ⟨rfl, hU, va_K.moved hW.alike hK, XS.call hX hS hU hW (freeO hD hS hA), hN.warm hW, ZS.call hZ hS hU hW (freeO hD hS hA), LT.call hT hS hU hW (freeO hD hS hA)⟩⟩ rfl rfl hl.1 rfl (lv_room (Nat.le_of_ble_eq_true rfl)) dL_lines_35 ⟨by show _ ≤ (454 : Nat); omega, by show _ ≤ (16920 : Nat); omega⟩) hS hA hP hD (fun r13 wo H locs hw hP hD hS => ?_)
        obtain ⟨hr9, hO⟩ := hw
        have h := h r13 hr9
        obtain ⟨hc1, hc2, h⟩ := h
        obtain ⟨nq15, wq15, e1, e2, e3, -⟩ := dg_SG hc1.1 hc1.2
        have e4 : dgs r13 = dl nq15 wq15 := dgs_is e1 e2 e3
        refine lv_topi (fun v9 e_v => ?_)
        have e5 : v9 = SG nq15 wq15 := e_v.trans e1
        subst e5
        refine cqX (wr := []) (va_runV (As := [.int (SG nq15 wq15)]) (rest := []) ⟨hx, hb, hml, hown, hta⟩ (cJ_appI l dC dI cT (n := (((([] : List Nat) ++ [c10]) ++ [58])).length) e2 e3 (by rw [e4] at hc2; have := cap16 hxb11_8u12.1.2.2.1; omega) hxb11_8u12.1.2.2.1 hxb11_8u12.1.2.2.2.2 rfl ((P_l hP).sub (ws' := [(ab11_8, .inr (1, [.ref u12.1, .int 0, .int u12.2.2.2, .int (nI (((([] : List Nat) ++ [c10]) ++ [58])).length)])), (u12.1, .inl (cT 6, u12.2.1, .inl u12.2.2.1))]) [0, 1] rfl) (ds (D_l hD) [0, 1] (by decide) rfl)) (cV hta lm_L_152 md_J4_append_bf812 ⟨(Nat.le_of_ble_eq_true rfl), (Nat.le_of_ble_eq_true rfl)⟩) ⟨fbJ, va_recv hK hP (ci := 1) (q0 := 0) rfl rfl, fun U hU hW => ⟨rfl, hU, va_K.moved hW.alike hK, ZS.call hZ hS hU hW (va_free (D_l hD) hS hA [0, 1] rfl)⟩⟩ rfl rfl hl.1 rfl (lv_room (Nat.le_of_ble_eq_true rfl)) dL_lines_38 ⟨by show _ ≤ (454 : Nat); omega, by show _ ≤ (16920 : Nat); omega⟩) hS hA hP hD [0, 1] [] rfl rfl (by decide) (by decide) (fun r9 u14 H locs hu hP hD hS => ?_)
        obtain ⟨rfl, hu⟩ := hu
        have hxb11_8u14 : LX (((([] : List Nat) ++ [c10]) ++ [58]) ++ dgs r13) u14 := by rw [e4]; exact lx_api hxb11_8u12 hu (dl_128 _ e2)
        have el : ((((([] : List Nat) ++ [c10]) ++ [58]) ++ dgs r13)).length = (((([] : List Nat) ++ [c10]) ++ [58])).length + (dl nq15 wq15).length := (by rw [List.length_append, e4])
        have hP : va_P (dC, dI) vwCl (([(ab11_8, .inr (1, [.ref u14.1, .int 0, .int u14.2.2.2, .int (nI ((((([] : List Nat) ++ [c10]) ++ [58]) ++ dgs r13)).length)])), (u14.1, .inl (cT 6, u14.2.1, .inl u14.2.2.1))] : va_W) ++ wo) H := by rw [el]; exact hP
        have hD : va_D A (([(ab11_8, .inr (1, [.ref u14.1, .int 0, .int u14.2.2.2, .int (nI ((((([] : List Nat) ++ [c10]) ++ [58]) ++ dgs r13)).length)])), (u14.1, .inl (cT 6, u14.2.1, .inl u14.2.2.1))] : va_W) ++ wo) := by rw [el]; exact hD
        refine W.eq (g2 := F0 m 41 ls [.ref ab11_8]) rfl ?_
        refine lv_aload_n hx hb dL_lines_41 rfl (lv_at hl 0 rfl) ?_
        refine lv_iload_n hx hb dL_lines_42 rfl (lv_at hl 1 rfl) ?_
        refine lv_iconst (v := 0) hx hb dL_lines_43 (by decide) ?_
        refine coI (vx_runSW (As := [.ref a0, .int x1_2, .int 0]) (rest := [.ref ab11_8]) ⟨hx, hb, hml, hown, hta⟩ (oc_L_of l hl9 dC dI cT hO (P_r hP) ((D_r hD).weaken (fun _ _ _ _ => trivial))) (cW hta lm_L_186 mw_L_of ⟨(Nat.le_of_ble_eq_true rfl), (Nat.le_of_ble_eq_true rfl)⟩) ⟨fbU, fun U hU hW => ⟨rfl, hU, va_K.moved hW.alike hK, XS.call hX hS hU hW (freeO hD hS hA), hN.warm hW, ZS.call hZ hS hU hW (freeO hD hS hA), LT.call hT hS hU hW (freeO hD hS hA)⟩⟩ rfl rfl hl.1 rfl (lv_room (Nat.le_of_ble_eq_true rfl)) dL_lines_44 ⟨by show _ ≤ (454 : Nat); omega, by show _ ≤ (16920 : Nat); omega⟩) hS hA hP hD (fun r16 wo H locs hw hP hD hS => ?_)
        obtain ⟨hr9, hO⟩ := hw
        have h := h r16 hr9
        refine lv_iconst (v := 1) hx hb dL_lines_47 (by decide) ?_
        refine lv_icmp_ne (tgt := 56) hx hb dL_lines_48 (by decide) (fun c0 => ?_) (fun c0 => ?_)
        · have h := h.2 c0
          refine va_new (ci := 1) (fs := [.null, .int 0, .int 0, .int 0]) (C := RJ4) (T := TJ4) (N := 4) hx hb hta inJ4w tyJ4 tyJ4_ok hown (hta _ lc_L_144) (hta _ inst_J4) (hta _ ini_J4) hK hP hD hS hA rfl (fun j hj => by rcases (show j = 0 ∨ j = 1 ∨ j = 2 ∨ j = 3 by omega) with rfl | rfl | rfl | rfl <;> rfl) (by show _ ≤ (454 : Nat); omega) (by show _ ≤ (16920 : Nat); omega) dL_lines_56 (fun ab56_17 H hP hD hS => ?_)
          have hP : va_P (dC, dI) vwCl (([(ab11_8, .inr (1, [.ref u14.1, .int 0, .int u14.2.2.2, .int (nI ((((([] : List Nat) ++ [c10]) ++ [58]) ++ dgs r13)).length)])), (u14.1, .inl (cT 6, u14.2.1, .inl u14.2.2.1)), (ab56_17, .inr (1, [.null, .int 0, .int 0, .int 0]))] : va_W) ++ wo) H := P_mv hP
          have hD : va_D A (([(ab11_8, .inr (1, [.ref u14.1, .int 0, .int u14.2.2.2, .int (nI ((((([] : List Nat) ++ [c10]) ++ [58]) ++ dgs r13)).length)])), (u14.1, .inl (cT 6, u14.2.1, .inl u14.2.2.1)), (ab56_17, .inr (1, [.null, .int 0, .int 0, .int 0]))] : va_W) ++ wo) := D_mv hD
          refine lv_dup hx hb dL_lines_59 rfl ?_
          refine cvX (wr := [(ab11_8, .inr (1, [.ref u14.1, .int 0, .int u14.2.2.2, .int (nI ((((([] : List Nat) ++ [c10]) ++ [58]) ++ dgs r13)).length)])), (u14.1, .inl (cT 6, u14.2.1, .inl u14.2.2.1))]) (va_runI (As := []) (rest := [.ref ab56_17, .ref ab11_8]) ⟨hx, hb, hml, hown, hta⟩ (cJ_init l dC dI cT rfl ((P_l hP).sub (ws' := [(ab56_17, .inr (1, [.null, .int 0, .int 0, .int 0]))]) [2] rfl) (ds (D_l hD) [2] (by decide) rfl)) (cI hta lm_L_146 md_J4_init_da8c8 ⟨(Nat.le_of_ble_eq_true rfl), (Nat.le_of_ble_eq_true rfl)⟩) ⟨fbJ, fun U hU hW => ⟨rfl, hU, va_K.moved hW.alike hK, ZS.call hZ hS hU hW (va_free (D_l hD) hS hA [2] rfl)⟩⟩ rfl rfl hl.1 rfl (lv_room (Nat.le_of_ble_eq_true rfl)) dL_lines_60 ⟨by show _ ≤ (454 : Nat); omega, by show _ ≤ (16920 : Nat); omega⟩) hS hA hP hD [2] [0, 1] rfl rfl (by decide) (by decide) (fun v9 H locs _ hP hD hS => ?_)
          obtain ⟨ub56_17, e9⟩ : ∃ y : BU, y = (v9 0, 16, (fun _ => 0), 0) := ⟨_, rfl⟩
          have hxb56_17 : LX [] ub56_17 := by rw [e9]; exact lx_0
          have hP : va_P (dC, dI) vwCl (([(ab11_8, .inr (1, [.ref u14.1, .int 0, .int u14.2.2.2, .int (nI ((((([] : List Nat) ++ [c10]) ++ [58]) ++ dgs r13)).length)])), (u14.1, .inl (cT 6, u14.2.1, .inl u14.2.2.1)), (ab56_17, .inr (1, [.ref ub56_17.1, .int 0, .int ub56_17.2.2.2, .int (nI (([] : List Nat)).length)])), (ub56_17.1, .inl (cT 6, ub56_17.2.1, .inl ub56_17.2.2.1))] : va_W) ++ wo) H := by rw [e9]; exact hP
          have hD : va_D A (([(ab11_8, .inr (1, [.ref u14.1, .int 0, .int u14.2.2.2, .int (nI ((((([] : List Nat) ++ [c10]) ++ [58]) ++ dgs r13)).length)])), (u14.1, .inl (cT 6, u14.2.1, .inl u14.2.2.1)), (ab56_17, .inr (1, [.ref ub56_17.1, .int 0, .int ub56_17.2.2.2, .int (nI (([] : List Nat)).length)])), (ub56_17.1, .inl (cT 6, ub56_17.2.1, .inl ub56_17.2.2.1))] : va_W) ++ wo) := by rw [e9]; exact hD
          obtain ⟨sa63_18, sv63_18, hz63_18, hks63_18⟩ := hT.2 _ (List.mem_of_getElem? (i := 9) rfl)
          refine va_ldcSW hx hb hown hz63_18 dL_lines_63 ?_
          obtain ⟨hc, h⟩ := h
          refine cqX (wr := [(ab11_8, .inr (1, [.ref u14.1, .int 0, .int u14.2.2.2, .int (nI ((((([] : List Nat) ++ [c10]) ++ [58]) ++ dgs r13)).length)])), (u14.1, .inl (cT 6, u14.2.1, .inl u14.2.2.1))]) (va_runV (As := [.ref sa63_18]) (rest := [.ref ab11_8]) ⟨hx, hb, hml, hown, hta⟩ (cS_appK l dC dI cT (n := (([] : List Nat)).length) (sn := ([91] : List Nat).length) (txt_lit (t := [91]) (by decide)).2.2 hxb56_17.1.2.1 (Nat.le_trans hc (cap16 hxb56_17.1.2.2.1)) hxb56_17.1.2.2.1 hxb56_17.1.2.2.2.2 rfl ((P_l hP).sub (ws' := [(ab56_17, .inr (1, [.ref ub56_17.1, .int 0, .int ub56_17.2.2.2, .int (nI (([] : List Nat)).length)])), (ub56_17.1, .inl (cT 6, ub56_17.2.1, .inl ub56_17.2.2.1))]) [2, 3] rfl) (ds (D_l hD) [2, 3] (by decide) rfl)) (cV hta lm_L_149 md_J4_append_15ec4 ⟨(Nat.le_of_ble_eq_true rfl), (Nat.le_of_ble_eq_true rfl)⟩) ⟨fbJK, va_recv hK hP (ci := 1) (q0 := 2) rfl rfl, fun U hU hW => ⟨rfl, hU, va_K.moved hW.alike hK, ZS.call hZ hS hU hW (va_free (D_l hD) hS hA [2, 3] rfl), SP.warm hW hT.1, KS.call hks63_18 hS hU hW (va_free (D_l hD) hS hA [2, 3] rfl)⟩⟩ rfl rfl hl.1 rfl (lv_room (Nat.le_of_ble_eq_true rfl)) dL_lines_66 ⟨by show _ ≤ (454 : Nat); omega, by show _ ≤ (16920 : Nat); omega⟩) hS hA hP hD [2, 3] [0, 1] rfl rfl (by decide) (by decide) (fun r9 u19 H locs hu hP hD hS => ?_)
          obtain ⟨rfl, hu⟩ := hu
          have hxb56_17u19 : LX (([] : List Nat) ++ [91]) u19 := lx_aps hxb56_17 (txt_lit (t := [91]) (by decide)) hu
          have el : ((([] : List Nat) ++ [91])).length = (([] : List Nat)).length + ([91] : List Nat).length := (by rw [List.length_append])
          have hP : va_P (dC, dI) vwCl (([(ab11_8, .inr (1, [.ref u14.1, .int 0, .int u14.2.2.2, .int (nI ((((([] : List Nat) ++ [c10]) ++ [58]) ++ dgs r13)).length)])), (u14.1, .inl (cT 6, u14.2.1, .inl u14.2.2.1)), (ab56_17, .inr (1, [.ref u19.1, .int 0, .int u19.2.2.2, .int (nI ((([] : List Nat) ++ [91])).length)])), (u19.1, .inl (cT 6, u19.2.1, .inl u19.2.2.1))] : va_W) ++ wo) H := by rw [el]; exact hP
          have hD : va_D A (([(ab11_8, .inr (1, [.ref u14.1, .int 0, .int u14.2.2.2, .int (nI ((((([] : List Nat) ++ [c10]) ++ [58]) ++ dgs r13)).length)])), (u14.1, .inl (cT 6, u14.2.1, .inl u14.2.2.1)), (ab56_17, .inr (1, [.ref u19.1, .int 0, .int u19.2.2.2, .int (nI ((([] : List Nat) ++ [91])).length)])), (u19.1, .inl (cT 6, u19.2.1, .inl u19.2.2.1))] : va_W) ++ wo) := by rw [el]; exact hD
          refine W.eq (g2 := F0 m 69 ls [.ref ab56_17, .ref ab11_8]) rfl ?_
          refine lv_aload_n hx hb dL_lines_69 rfl (lv_at hl 0 rfl) ?_
          refine lv_iload_n hx hb dL_lines_70 rfl (lv_at hl 1 rfl) ?_
          refine lv_iconst (v := 1) hx hb dL_lines_71 (by decide) ?_
          refine coI (vx_runSW (As := [.ref a0, .int x1_2, .int 1]) (rest := [.ref ab56_17, .ref ab11_8]) ⟨hx, hb, hml, hown, hta⟩ (oc_L_of l hl9 dC dI cT hO (P_r hP) ((D_r hD).weaken (fun _ _ _ _ => trivial))) (cW hta lm_L_186 mw_L_of ⟨(Nat.le_of_ble_eq_true rfl), (Nat.le_of_ble_eq_true rfl)⟩) ⟨fbU, fun U hU hW => ⟨rfl, hU, va_K.moved hW.alike hK, XS.call hX hS hU hW (freeO hD hS hA), hN.warm hW, ZS.call hZ hS hU hW (freeO hD hS hA), LT.call hT hS hU hW (freeO hD hS hA)⟩⟩ rfl rfl hl.1 rfl (lv_room (Nat.le_of_ble_eq_true rfl)) dL_lines_72 ⟨by show _ ≤ (454 : Nat); omega, by show _ ≤ (16920 : Nat); omega⟩) hS hA hP hD (fun r20 wo H locs hw hP hD hS => ?_)
          obtain ⟨hr9, hO⟩ := hw
          have h := h r20 hr9
          obtain ⟨hc1, hc2, h⟩ := h
          obtain ⟨nq22, wq22, e1, e2, e3, -⟩ := dg_SG hc1.1 hc1.2
          have e4 : dgs r20 = dl nq22 wq22 := dgs_is e1 e2 e3
          refine lv_topi (fun v9 e_v => ?_)
          have e5 : v9 = SG nq22 wq22 := e_v.trans e1
          subst e5
          refine cqX (wr := [(ab11_8, .inr (1, [.ref u14.1, .int 0, .int u14.2.2.2, .int (nI ((((([] : List Nat) ++ [c10]) ++ [58]) ++ dgs r13)).length)])), (u14.1, .inl (cT 6, u14.2.1, .inl u14.2.2.1))]) (va_runV (As := [.int (SG nq22 wq22)]) (rest := [.ref ab11_8]) ⟨hx, hb, hml, hown, hta⟩ (cJ_appI l dC dI cT (n := ((([] : List Nat) ++ [91])).length) e2 e3 (by rw [e4] at hc2; have := cap16 hxb56_17u19.1.2.2.1; omega) hxb56_17u19.1.2.2.1 hxb56_17u19.1.2.2.2.2 rfl ((P_l hP).sub (ws' := [(ab56_17, .inr (1, [.ref u19.1, .int 0, .int u19.2.2.2, .int (nI ((([] : List Nat) ++ [91])).length)])), (u19.1, .inl (cT 6, u19.2.1, .inl u19.2.2.1))]) [2, 3] rfl) (ds (D_l hD) [2, 3] (by decide) rfl)) (cV hta lm_L_152 md_J4_append_bf812 ⟨(Nat.le_of_ble_eq_true rfl), (Nat.le_of_ble_eq_true rfl)⟩) ⟨fbJ, va_recv hK hP (ci := 1) (q0 := 2) rfl rfl, fun U hU hW => ⟨rfl, hU, va_K.moved hW.alike hK, ZS.call hZ hS hU hW (va_free (D_l hD) hS hA [2, 3] rfl)⟩⟩ rfl rfl hl.1 rfl (lv_room (Nat.le_of_ble_eq_true rfl)) dL_lines_75 ⟨by show _ ≤ (454 : Nat); omega, by show _ ≤ (16920 : Nat); omega⟩) hS hA hP hD [2, 3] [0, 1] rfl rfl (by decide) (by decide) (fun r9 u21 H locs hu hP hD hS => ?_)
          obtain ⟨rfl, hu⟩ := hu
          have hxb56_17u21 : LX ((([] : List Nat) ++ [91]) ++ dgs r20) u21 := by rw [e4]; exact lx_api hxb56_17u19 hu (dl_128 _ e2)
          have el : (((([] : List Nat) ++ [91]) ++ dgs r20)).length = ((([] : List Nat) ++ [91])).length + (dl nq22 wq22).length := (by rw [List.length_append, e4])
          have hP : va_P (dC, dI) vwCl (([(ab11_8, .inr (1, [.ref u14.1, .int 0, .int u14.2.2.2, .int (nI ((((([] : List Nat) ++ [c10]) ++ [58]) ++ dgs r13)).length)])), (u14.1, .inl (cT 6, u14.2.1, .inl u14.2.2.1)), (ab56_17, .inr (1, [.ref u21.1, .int 0, .int u21.2.2.2, .int (nI (((([] : List Nat) ++ [91]) ++ dgs r20)).length)])), (u21.1, .inl (cT 6, u21.2.1, .inl u21.2.2.1))] : va_W) ++ wo) H := by rw [el]; exact hP
          have hD : va_D A (([(ab11_8, .inr (1, [.ref u14.1, .int 0, .int u14.2.2.2, .int (nI ((((([] : List Nat) ++ [c10]) ++ [58]) ++ dgs r13)).length)])), (u14.1, .inl (cT 6, u14.2.1, .inl u14.2.2.1)), (ab56_17, .inr (1, [.ref u21.1, .int 0, .int u21.2.2.2, .int (nI (((([] : List Nat) ++ [91]) ++ dgs r20)).length)])), (u21.1, .inl (cT 6, u21.2.1, .inl u21.2.2.1))] : va_W) ++ wo) := by rw [el]; exact hD
          refine W.eq (g2 := F0 m 78 ls [.ref ab56_17, .ref ab11_8]) rfl ?_
          obtain ⟨sa78_23, sv78_23, hz78_23, hks78_23⟩ := hT.2 _ (List.mem_of_getElem? (i := 10) rfl)
          refine va_ldcSW hx hb hown hz78_23 dL_lines_78 ?_
          obtain ⟨hc, h⟩ := h
          refine cqX (wr := [(ab11_8, .inr (1, [.ref u14.1, .int 0, .int u14.2.2.2, .int (nI ((((([] : List Nat) ++ [c10]) ++ [58]) ++ dgs r13)).length)])), (u14.1, .inl (cT 6, u14.2.1, .inl u14.2.2.1))]) (va_runV (As := [.ref sa78_23]) (rest := [.ref ab11_8]) ⟨hx, hb, hml, hown, hta⟩ (cS_appK l dC dI cT (n := (((([] : List Nat) ++ [91]) ++ dgs r20)).length) (sn := ([44] : List Nat).length) (txt_lit (t := [44]) (by decide)).2.2 hxb56_17u21.1.2.1 (Nat.le_trans hc (cap16 hxb56_17u21.1.2.2.1)) hxb56_17u21.1.2.2.1 hxb56_17u21.1.2.2.2.2 rfl ((P_l hP).sub (ws' := [(ab56_17, .inr (1, [.ref u21.1, .int 0, .int u21.2.2.2, .int (nI (((([] : List Nat) ++ [91]) ++ dgs r20)).length)])), (u21.1, .inl (cT 6, u21.2.1, .inl u21.2.2.1))]) [2, 3] rfl) (ds (D_l hD) [2, 3] (by decide) rfl)) (cV hta lm_L_149 md_J4_append_15ec4 ⟨(Nat.le_of_ble_eq_true rfl), (Nat.le_of_ble_eq_true rfl)⟩) ⟨fbJK, va_recv hK hP (ci := 1) (q0 := 2) rfl rfl, fun U hU hW => ⟨rfl, hU, va_K.moved hW.alike hK, ZS.call hZ hS hU hW (va_free (D_l hD) hS hA [2, 3] rfl), SP.warm hW hT.1, KS.call hks78_23 hS hU hW (va_free (D_l hD) hS hA [2, 3] rfl)⟩⟩ rfl rfl hl.1 rfl (lv_room (Nat.le_of_ble_eq_true rfl)) dL_lines_81 ⟨by show _ ≤ (454 : Nat); omega, by show _ ≤ (16920 : Nat); omega⟩) hS hA hP hD [2, 3] [0, 1] rfl rfl (by decide) (by decide) (fun r9 u24 H locs hu hP hD hS => ?_)
          obtain ⟨rfl, hu⟩ := hu
          have hxb56_17u24 : LX (((([] : List Nat) ++ [91]) ++ dgs r20) ++ [44]) u24 := lx_aps hxb56_17u21 (txt_lit (t := [44]) (by decide)) hu
          have el : ((((([] : List Nat) ++ [91]) ++ dgs r20) ++ [44])).length = (((([] : List Nat) ++ [91]) ++ dgs r20)).length + ([44] : List Nat).length := (by rw [List.length_append])
          have hP : va_P (dC, dI) vwCl (([(ab11_8, .inr (1, [.ref u14.1, .int 0, .int u14.2.2.2, .int (nI ((((([] : List Nat) ++ [c10]) ++ [58]) ++ dgs r13)).length)])), (u14.1, .inl (cT 6, u14.2.1, .inl u14.2.2.1)), (ab56_17, .inr (1, [.ref u24.1, .int 0, .int u24.2.2.2, .int (nI ((((([] : List Nat) ++ [91]) ++ dgs r20) ++ [44])).length)])), (u24.1, .inl (cT 6, u24.2.1, .inl u24.2.2.1))] : va_W) ++ wo) H := by rw [el]; exact hP
          have hD : va_D A (([(ab11_8, .inr (1, [.ref u14.1, .int 0, .int u14.2.2.2, .int (nI ((((([] : List Nat) ++ [c10]) ++ [58]) ++ dgs r13)).length)])), (u14.1, .inl (cT 6, u14.2.1, .inl u14.2.2.1)), (ab56_17, .inr (1, [.ref u24.1, .int 0, .int u24.2.2.2, .int (nI ((((([] : List Nat) ++ [91]) ++ dgs r20) ++ [44])).length)])), (u24.1, .inl (cT 6, u24.2.1, .inl u24.2.2.1))] : va_W) ++ wo) := by rw [el]; exact hD
          refine W.eq (g2 := F0 m 84 ls [.ref ab56_17, .ref ab11_8]) rfl ?_
          refine lv_aload_n hx hb dL_lines_84 rfl (lv_at hl 0 rfl) ?_
          refine lv_iload_n hx hb dL_lines_85 rfl (lv_at hl 1 rfl) ?_
          refine lv_iconst (v := 2) hx hb dL_lines_86 (by decide) ?_
          refine coI (vx_runSW (As := [.ref a0, .int x1_2, .int 2]) (rest := [.ref ab56_17, .ref ab11_8]) ⟨hx, hb, hml, hown, hta⟩ (oc_L_of l hl9 dC dI cT hO (P_r hP) ((D_r hD).weaken (fun _ _ _ _ => trivial))) (cW hta lm_L_186 mw_L_of ⟨(Nat.le_of_ble_eq_true rfl), (Nat.le_of_ble_eq_true rfl)⟩) ⟨fbU, fun U hU hW => ⟨rfl, hU, va_K.moved hW.alike hK, XS.call hX hS hU hW (freeO hD hS hA), hN.warm hW, ZS.call hZ hS hU hW (freeO hD hS hA), LT.call hT hS hU hW (freeO hD hS hA)⟩⟩ rfl rfl hl.1 rfl (lv_room (Nat.le_of_ble_eq_true rfl)) dL_lines_87 ⟨by show _ ≤ (454 : Nat); omega, by show _ ≤ (16920 : Nat); omega⟩) hS hA hP hD (fun r25 wo H locs hw hP hD hS => ?_)
          obtain ⟨hr9, hO⟩ := hw
          have h := h r25 hr9
          obtain ⟨hc1, hc2, h⟩ := h
          obtain ⟨nq27, wq27, e1, e2, e3, -⟩ := dg_SG hc1.1 hc1.2
          have e4 : dgs r25 = dl nq27 wq27 := dgs_is e1 e2 e3
          refine lv_topi (fun v9 e_v => ?_)
          have e5 : v9 = SG nq27 wq27 := e_v.trans e1
          subst e5
          refine cqX (wr := [(ab11_8, .inr (1, [.ref u14.1, .int 0, .int u14.2.2.2, .int (nI ((((([] : List Nat) ++ [c10]) ++ [58]) ++ dgs r13)).length)])), (u14.1, .inl (cT 6, u14.2.1, .inl u14.2.2.1))]) (va_runV (As := [.int (SG nq27 wq27)]) (rest := [.ref ab11_8]) ⟨hx, hb, hml, hown, hta⟩ (cJ_appI l dC dI cT (n := ((((([] : List Nat) ++ [91]) ++ dgs r20) ++ [44])).length) e2 e3 (by rw [e4] at hc2; have := cap16 hxb56_17u24.1.2.2.1; omega) hxb56_17u24.1.2.2.1 hxb56_17u24.1.2.2.2.2 rfl ((P_l hP).sub (ws' := [(ab56_17, .inr (1, [.ref u24.1, .int 0, .int u24.2.2.2, .int (nI ((((([] : List Nat) ++ [91]) ++ dgs r20) ++ [44])).length)])), (u24.1, .inl (cT 6, u24.2.1, .inl u24.2.2.1))]) [2, 3] rfl) (ds (D_l hD) [2, 3] (by decide) rfl)) (cV hta lm_L_152 md_J4_append_bf812 ⟨(Nat.le_of_ble_eq_true rfl), (Nat.le_of_ble_eq_true rfl)⟩) ⟨fbJ, va_recv hK hP (ci := 1) (q0 := 2) rfl rfl, fun U hU hW => ⟨rfl, hU, va_K.moved hW.alike hK, ZS.call hZ hS hU hW (va_free (D_l hD) hS hA [2, 3] rfl)⟩⟩ rfl rfl hl.1 rfl (lv_room (Nat.le_of_ble_eq_true rfl)) dL_lines_90 ⟨by show _ ≤ (454 : Nat); omega, by show _ ≤ (16920 : Nat); omega⟩) hS hA hP hD [2, 3] [0, 1] rfl rfl (by decide) (by decide) (fun r9 u26 H locs hu hP hD hS => ?_)
          obtain ⟨rfl, hu⟩ := hu
          have hxb56_17u26 : LX ((((([] : List Nat) ++ [91]) ++ dgs r20) ++ [44]) ++ dgs r25) u26 := by rw [e4]; exact lx_api hxb56_17u24 hu (dl_128 _ e2)
          have el : (((((([] : List Nat) ++ [91]) ++ dgs r20) ++ [44]) ++ dgs r25)).length = ((((([] : List Nat) ++ [91]) ++ dgs r20) ++ [44])).length + (dl nq27 wq27).length := (by rw [List.length_append, e4])
          have hP : va_P (dC, dI) vwCl (([(ab11_8, .inr (1, [.ref u14.1, .int 0, .int u14.2.2.2, .int (nI ((((([] : List Nat) ++ [c10]) ++ [58]) ++ dgs r13)).length)])), (u14.1, .inl (cT 6, u14.2.1, .inl u14.2.2.1)), (ab56_17, .inr (1, [.ref u26.1, .int 0, .int u26.2.2.2, .int (nI (((((([] : List Nat) ++ [91]) ++ dgs r20) ++ [44]) ++ dgs r25)).length)])), (u26.1, .inl (cT 6, u26.2.1, .inl u26.2.2.1))] : va_W) ++ wo) H := by rw [el]; exact hP
          have hD : va_D A (([(ab11_8, .inr (1, [.ref u14.1, .int 0, .int u14.2.2.2, .int (nI ((((([] : List Nat) ++ [c10]) ++ [58]) ++ dgs r13)).length)])), (u14.1, .inl (cT 6, u14.2.1, .inl u14.2.2.1)), (ab56_17, .inr (1, [.ref u26.1, .int 0, .int u26.2.2.2, .int (nI (((((([] : List Nat) ++ [91]) ++ dgs r20) ++ [44]) ++ dgs r25)).length)])), (u26.1, .inl (cT 6, u26.2.1, .inl u26.2.2.1))] : va_W) ++ wo) := by rw [el]; exact hD
          refine W.eq (g2 := F0 m 93 ls [.ref ab56_17, .ref ab11_8]) rfl ?_
          obtain ⟨sa93_28, sv93_28, hz93_28, hks93_28⟩ := hT.2 _ (List.mem_of_getElem? (i := 11) rfl)
          refine va_ldcSW hx hb hown hz93_28 dL_lines_93 ?_
          obtain ⟨hc, h⟩ := h
          refine cqX (wr := [(ab11_8, .inr (1, [.ref u14.1, .int 0, .int u14.2.2.2, .int (nI ((((([] : List Nat) ++ [c10]) ++ [58]) ++ dgs r13)).length)])), (u14.1, .inl (cT 6, u14.2.1, .inl u14.2.2.1))]) (va_runV (As := [.ref sa93_28]) (rest := [.ref ab11_8]) ⟨hx, hb, hml, hown, hta⟩ (cS_appK l dC dI cT (n := (((((([] : List Nat) ++ [91]) ++ dgs r20) ++ [44]) ++ dgs r25)).length) (sn := ([93] : List Nat).length) (txt_lit (t := [93]) (by decide)).2.2 hxb56_17u26.1.2.1 (Nat.le_trans hc (cap16 hxb56_17u26.1.2.2.1)) hxb56_17u26.1.2.2.1 hxb56_17u26.1.2.2.2.2 rfl ((P_l hP).sub (ws' := [(ab56_17, .inr (1, [.ref u26.1, .int 0, .int u26.2.2.2, .int (nI (((((([] : List Nat) ++ [91]) ++ dgs r20) ++ [44]) ++ dgs r25)).length)])), (u26.1, .inl (cT 6, u26.2.1, .inl u26.2.2.1))]) [2, 3] rfl) (ds (D_l hD) [2, 3] (by decide) rfl)) (cV hta lm_L_149 md_J4_append_15ec4 ⟨(Nat.le_of_ble_eq_true rfl), (Nat.le_of_ble_eq_true rfl)⟩) ⟨fbJK, va_recv hK hP (ci := 1) (q0 := 2) rfl rfl, fun U hU hW => ⟨rfl, hU, va_K.moved hW.alike hK, ZS.call hZ hS hU hW (va_free (D_l hD) hS hA [2, 3] rfl), SP.warm hW hT.1, KS.call hks93_28 hS hU hW (va_free (D_l hD) hS hA [2, 3] rfl)⟩⟩ rfl rfl hl.1 rfl (lv_room (Nat.le_of_ble_eq_true rfl)) dL_lines_96 ⟨by show _ ≤ (454 : Nat); omega, by show _ ≤ (16920 : Nat); omega⟩) hS hA hP hD [2, 3] [0, 1] rfl rfl (by decide) (by decide) (fun r9 u29 H locs hu hP hD hS => ?_)
          obtain ⟨rfl, hu⟩ := hu
          have hxb56_17u29 : LX (((((([] : List Nat) ++ [91]) ++ dgs r20) ++ [44]) ++ dgs r25) ++ [93]) u29 := lx_aps hxb56_17u26 (txt_lit (t := [93]) (by decide)) hu
          have el : ((((((([] : List Nat) ++ [91]) ++ dgs r20) ++ [44]) ++ dgs r25) ++ [93])).length = (((((([] : List Nat) ++ [91]) ++ dgs r20) ++ [44]) ++ dgs r25)).length + ([93] : List Nat).length := (by rw [List.length_append])
          have hP : va_P (dC, dI) vwCl (([(ab11_8, .inr (1, [.ref u14.1, .int 0, .int u14.2.2.2, .int (nI ((((([] : List Nat) ++ [c10]) ++ [58]) ++ dgs r13)).length)])), (u14.1, .inl (cT 6, u14.2.1, .inl u14.2.2.1)), (ab56_17, .inr (1, [.ref u29.1, .int 0, .int u29.2.2.2, .int (nI ((((((([] : List Nat) ++ [91]) ++ dgs r20) ++ [44]) ++ dgs r25) ++ [93])).length)])), (u29.1, .inl (cT 6, u29.2.1, .inl u29.2.2.1))] : va_W) ++ wo) H := by rw [el]; exact hP
          have hD : va_D A (([(ab11_8, .inr (1, [.ref u14.1, .int 0, .int u14.2.2.2, .int (nI ((((([] : List Nat) ++ [c10]) ++ [58]) ++ dgs r13)).length)])), (u14.1, .inl (cT 6, u14.2.1, .inl u14.2.2.1)), (ab56_17, .inr (1, [.ref u29.1, .int 0, .int u29.2.2.2, .int (nI ((((((([] : List Nat) ++ [91]) ++ dgs r20) ++ [44]) ++ dgs r25) ++ [93])).length)])), (u29.1, .inl (cT 6, u29.2.1, .inl u29.2.2.1))] : va_W) ++ wo) := by rw [el]; exact hD
          refine W.eq (g2 := F0 m 99 ls [.ref ab56_17, .ref ab11_8]) rfl ?_
          obtain ⟨hc, h⟩ := h
          refine crX (wr := [(ab11_8, .inr (1, [.ref u14.1, .int 0, .int u14.2.2.2, .int (nI ((((([] : List Nat) ++ [c10]) ++ [58]) ++ dgs r13)).length)])), (u14.1, .inl (cT 6, u14.2.1, .inl u14.2.2.1))]) (va_runV (As := []) (rest := [.ref ab11_8]) ⟨hx, hb, hml, hown, hta⟩ (cS_toString l dC dI cT (n := ((((((([] : List Nat) ++ [91]) ++ dgs r20) ++ [44]) ++ dgs r25) ++ [93])).length) (Nat.lt_of_lt_of_le hc (cap16 hxb56_17u29.1.2.2.1)) hxb56_17u29.1.2.2.1.le hxb56_17u29.1.2.2.2.2 rfl ((P_l hP).sub (ws' := [(ab56_17, .inr (1, [.ref u29.1, .int 0, .int u29.2.2.2, .int (nI ((((((([] : List Nat) ++ [91]) ++ dgs r20) ++ [44]) ++ dgs r25) ++ [93])).length)])), (u29.1, .inl (cT 6, u29.2.1, .inl u29.2.2.1))]) [2, 3] rfl) (ds (D_l hD) [2, 3] (by decide) rfl)) (cV hta lm_L_155 md_J4_toString_0e30d ⟨(Nat.le_of_ble_eq_true rfl), (Nat.le_of_ble_eq_true rfl)⟩) ⟨fbJM, va_recv hK hP (ci := 1) (q0 := 2) rfl rfl, fun U hU hW => ⟨rfl, hU, va_K.moved hW.alike hK, ZS.call hZ hS hU hW (va_free (D_l hD) hS hA [2, 3] rfl), SP.warm hW hT.1⟩⟩ rfl rfl hl.1 rfl (lv_room (Nat.le_of_ble_eq_true rfl)) dL_lines_99 ⟨by show _ ≤ (454 : Nat); omega, by show _ ≤ (16920 : Nat); omega⟩) hS hA hP hD [2, 3] [0, 1] rfl rfl (by decide) (by decide) (fun w9 as99_30 H locs hu hP hD hS => ?_)
          obtain ⟨vs99_30, gs99_30⟩ := w9
          have hs99_30 : TXT ((((((([] : List Nat) ++ [91]) ++ dgs r20) ++ [44]) ++ dgs r25) ++ [93])) gs99_30 := lx_txt hxb56_17u29 hu
          have hP : va_P (dC, dI) vwCl (([(ab11_8, .inr (1, [.ref u14.1, .int 0, .int u14.2.2.2, .int (nI ((((([] : List Nat) ++ [c10]) ++ [58]) ++ dgs r13)).length)])), (u14.1, .inl (cT 6, u14.2.1, .inl u14.2.2.1)), (ab56_17, .inr (1, [.ref u29.1, .int 0, .int u29.2.2.2, .int (nI ((((((([] : List Nat) ++ [91]) ++ dgs r20) ++ [44]) ++ dgs r25) ++ [93])).length)])), (u29.1, .inl (cT 6, u29.2.1, .inl u29.2.2.1)), (as99_30, .inr (0, [.ref vs99_30, .int 0, .int 0, .int 0])), (vs99_30, .inl (cT 6, ((((((([] : List Nat) ++ [91]) ++ dgs r20) ++ [44]) ++ dgs r25) ++ [93])).length, .inl gs99_30))] : va_W) ++ wo) H := hP
          have hD : va_D A (([(ab11_8, .inr (1, [.ref u14.1, .int 0, .int u14.2.2.2, .int (nI ((((([] : List Nat) ++ [c10]) ++ [58]) ++ dgs r13)).length)])), (u14.1, .inl (cT 6, u14.2.1, .inl u14.2.2.1)), (ab56_17, .inr (1, [.ref u29.1, .int 0, .int u29.2.2.2, .int (nI ((((((([] : List Nat) ++ [91]) ++ dgs r20) ++ [44]) ++ dgs r25) ++ [93])).length)])), (u29.1, .inl (cT 6, u29.2.1, .inl u29.2.2.1)), (as99_30, .inr (0, [.ref vs99_30, .int 0, .int 0, .int 0])), (vs99_30, .inl (cT 6, ((((((([] : List Nat) ++ [91]) ++ dgs r20) ++ [44]) ++ dgs r25) ++ [93])).length, .inl gs99_30))] : va_W) ++ wo) := hD
          have hP : va_P (dC, dI) vwCl (([(ab11_8, .inr (1, [.ref u14.1, .int 0, .int u14.2.2.2, .int (nI ((((([] : List Nat) ++ [c10]) ++ [58]) ++ dgs r13)).length)])), (u14.1, .inl (cT 6, u14.2.1, .inl u14.2.2.1)), (as99_30, .inr (0, [.ref vs99_30, .int 0, .int 0, .int 0])), (vs99_30, .inl (cT 6, ((((((([] : List Nat) ++ [91]) ++ dgs r20) ++ [44]) ++ dgs r25) ++ [93])).length, .inl gs99_30))] : va_W) ++ wo) H := P_perm hP [0, 1, 4, 5] rfl
          have hD : va_D A (([(ab11_8, .inr (1, [.ref u14.1, .int 0, .int u14.2.2.2, .int (nI ((((([] : List Nat) ++ [c10]) ++ [58]) ++ dgs r13)).length)])), (u14.1, .inl (cT 6, u14.2.1, .inl u14.2.2.1)), (as99_30, .inr (0, [.ref vs99_30, .int 0, .int 0, .int 0])), (vs99_30, .inl (cT 6, ((((((([] : List Nat) ++ [91]) ++ dgs r20) ++ [44]) ++ dgs r25) ++ [93])).length, .inl gs99_30))] : va_W) ++ wo) := D_perm hD [0, 1, 4, 5] (by decide) rfl
          obtain ⟨hc, h⟩ := h
          refine cqX (wr := []) (va_runV (As := [.ref as99_30]) (rest := []) ⟨hx, hb, hml, hown, hta⟩ (cS_appM l dC dI cT (n := ((((([] : List Nat) ++ [c10]) ++ [58]) ++ dgs r13)).length) (sn := ((((((([] : List Nat) ++ [91]) ++ dgs r20) ++ [44]) ++ dgs r25) ++ [93]) : List Nat).length) hs99_30.2.2 hxb11_8u14.1.2.1 (Nat.le_trans hc (cap16 hxb11_8u14.1.2.2.1)) hxb11_8u14.1.2.2.1 hxb11_8u14.1.2.2.2.2 rfl ((P_l hP).sub (ws' := [(ab11_8, .inr (1, [.ref u14.1, .int 0, .int u14.2.2.2, .int (nI ((((([] : List Nat) ++ [c10]) ++ [58]) ++ dgs r13)).length)])), (u14.1, .inl (cT 6, u14.2.1, .inl u14.2.2.1)), (as99_30, .inr (0, [.ref vs99_30, .int 0, .int 0, .int 0])), (vs99_30, .inl (cT 6, ((((((([] : List Nat) ++ [91]) ++ dgs r20) ++ [44]) ++ dgs r25) ++ [93])).length, .inl gs99_30))]) [0, 1, 2, 3] rfl) (ds (D_l hD) [0, 1, 2, 3] (by decide) rfl)) (cV hta lm_L_149 md_J4_append_15ec4 ⟨(Nat.le_of_ble_eq_true rfl), (Nat.le_of_ble_eq_true rfl)⟩) ⟨fbJM, va_recv hK hP (ci := 1) (q0 := 0) rfl rfl, fun U hU hW => ⟨rfl, hU, va_K.moved hW.alike hK, ZS.call hZ hS hU hW (va_free (D_l hD) hS hA [0, 1, 2, 3] rfl), SP.warm hW hT.1⟩⟩ rfl rfl hl.1 rfl (lv_room (Nat.le_of_ble_eq_true rfl)) dL_lines_102 ⟨by show _ ≤ (454 : Nat); omega, by show _ ≤ (16920 : Nat); omega⟩) hS hA hP hD [0, 1, 2, 3] [] rfl rfl (by decide) (by decide) (fun r9 u31 H locs hu hP hD hS => ?_)
          obtain ⟨rfl, hu⟩ := hu
          have hxb11_8u31 : LX ((((([] : List Nat) ++ [c10]) ++ [58]) ++ dgs r13) ++ (((((([] : List Nat) ++ [91]) ++ dgs r20) ++ [44]) ++ dgs r25) ++ [93])) u31 := lx_aps hxb11_8u14 hs99_30 hu
          have el : (((((([] : List Nat) ++ [c10]) ++ [58]) ++ dgs r13) ++ (((((([] : List Nat) ++ [91]) ++ dgs r20) ++ [44]) ++ dgs r25) ++ [93]))).length = ((((([] : List Nat) ++ [c10]) ++ [58]) ++ dgs r13)).length + ((((((([] : List Nat) ++ [91]) ++ dgs r20) ++ [44]) ++ dgs r25) ++ [93]) : List Nat).length := (by rw [List.length_append])
          have hP : va_P (dC, dI) vwCl (([(ab11_8, .inr (1, [.ref u31.1, .int 0, .int u31.2.2.2, .int (nI (((((([] : List Nat) ++ [c10]) ++ [58]) ++ dgs r13) ++ (((((([] : List Nat) ++ [91]) ++ dgs r20) ++ [44]) ++ dgs r25) ++ [93]))).length)])), (u31.1, .inl (cT 6, u31.2.1, .inl u31.2.2.1)), (as99_30, .inr (0, [.ref vs99_30, .int 0, .int 0, .int 0])), (vs99_30, .inl (cT 6, ((((((([] : List Nat) ++ [91]) ++ dgs r20) ++ [44]) ++ dgs r25) ++ [93])).length, .inl gs99_30))] : va_W) ++ wo) H := by rw [el]; exact hP
          have hD : va_D A (([(ab11_8, .inr (1, [.ref u31.1, .int 0, .int u31.2.2.2, .int (nI (((((([] : List Nat) ++ [c10]) ++ [58]) ++ dgs r13) ++ (((((([] : List Nat) ++ [91]) ++ dgs r20) ++ [44]) ++ dgs r25) ++ [93]))).length)])), (u31.1, .inl (cT 6, u31.2.1, .inl u31.2.2.1)), (as99_30, .inr (0, [.ref vs99_30, .int 0, .int 0, .int 0])), (vs99_30, .inl (cT 6, ((((((([] : List Nat) ++ [91]) ++ dgs r20) ++ [44]) ++ dgs r25) ++ [93])).length, .inl gs99_30))] : va_W) ++ wo) := by rw [el]; exact hD
          refine W.eq (g2 := F0 m 105 ls [.ref ab11_8]) rfl ?_
          obtain ⟨hc, h⟩ := h
          refine crX (wr := [(as99_30, .inr (0, [.ref vs99_30, .int 0, .int 0, .int 0])), (vs99_30, .inl (cT 6, ((((((([] : List Nat) ++ [91]) ++ dgs r20) ++ [44]) ++ dgs r25) ++ [93])).length, .inl gs99_30))]) (va_runV (As := []) (rest := []) ⟨hx, hb, hml, hown, hta⟩ (cS_toString l dC dI cT (n := (((((([] : List Nat) ++ [c10]) ++ [58]) ++ dgs r13) ++ (((((([] : List Nat) ++ [91]) ++ dgs r20) ++ [44]) ++ dgs r25) ++ [93]))).length) (Nat.lt_of_lt_of_le hc (cap16 hxb11_8u31.1.2.2.1)) hxb11_8u31.1.2.2.1.le hxb11_8u31.1.2.2.2.2 rfl ((P_l hP).sub (ws' := [(ab11_8, .inr (1, [.ref u31.1, .int 0, .int u31.2.2.2, .int (nI (((((([] : List Nat) ++ [c10]) ++ [58]) ++ dgs r13) ++ (((((([] : List Nat) ++ [91]) ++ dgs r20) ++ [44]) ++ dgs r25) ++ [93]))).length)])), (u31.1, .inl (cT 6, u31.2.1, .inl u31.2.2.1))]) [0, 1] rfl) (ds (D_l hD) [0, 1] (by decide) rfl)) (cV hta lm_L_155 md_J4_toString_0e30d ⟨(Nat.le_of_ble_eq_true rfl), (Nat.le_of_ble_eq_true rfl)⟩) ⟨fbJM, va_recv hK hP (ci := 1) (q0 := 0) rfl rfl, fun U hU hW => ⟨rfl, hU, va_K.moved hW.alike hK, ZS.call hZ hS hU hW (va_free (D_l hD) hS hA [0, 1] rfl), SP.warm hW hT.1⟩⟩ rfl rfl hl.1 rfl (lv_room (Nat.le_of_ble_eq_true rfl)) dL_lines_105 ⟨by show _ ≤ (454 : Nat); omega, by show _ ≤ (16920 : Nat); omega⟩) hS hA hP hD [0, 1] [2, 3] rfl rfl (by decide) (by decide) (fun w9 as105_32 H locs hu hP hD hS => ?_)
          obtain ⟨vs105_32, gs105_32⟩ := w9
          have hs105_32 : TXT (((((([] : List Nat) ++ [c10]) ++ [58]) ++ dgs r13) ++ (((((([] : List Nat) ++ [91]) ++ dgs r20) ++ [44]) ++ dgs r25) ++ [93]))) gs105_32 := lx_txt hxb11_8u31 hu
          have hP : va_P (dC, dI) vwCl (([(as99_30, .inr (0, [.ref vs99_30, .int 0, .int 0, .int 0])), (vs99_30, .inl (cT 6, ((((((([] : List Nat) ++ [91]) ++ dgs r20) ++ [44]) ++ dgs r25) ++ [93])).length, .inl gs99_30)), (ab11_8, .inr (1, [.ref u31.1, .int 0, .int u31.2.2.2, .int (nI (((((([] : List Nat) ++ [c10]) ++ [58]) ++ dgs r13) ++ (((((([] : List Nat) ++ [91]) ++ dgs r20) ++ [44]) ++ dgs r25) ++ [93]))).length)])), (u31.1, .inl (cT 6, u31.2.1, .inl u31.2.2.1)), (as105_32, .inr (0, [.ref vs105_32, .int 0, .int 0, .int 0])), (vs105_32, .inl (cT 6, (((((([] : List Nat) ++ [c10]) ++ [58]) ++ dgs r13) ++ (((((([] : List Nat) ++ [91]) ++ dgs r20) ++ [44]) ++ dgs r25) ++ [93]))).length, .inl gs105_32))] : va_W) ++ wo) H := hP
          have hD : va_D A (([(as99_30, .inr (0, [.ref vs99_30, .int 0, .int 0, .int 0])), (vs99_30, .inl (cT 6, ((((((([] : List Nat) ++ [91]) ++ dgs r20) ++ [44]) ++ dgs r25) ++ [93])).length, .inl gs99_30)), (ab11_8, .inr (1, [.ref u31.1, .int 0, .int u31.2.2.2, .int (nI (((((([] : List Nat) ++ [c10]) ++ [58]) ++ dgs r13) ++ (((((([] : List Nat) ++ [91]) ++ dgs r20) ++ [44]) ++ dgs r25) ++ [93]))).length)])), (u31.1, .inl (cT 6, u31.2.1, .inl u31.2.2.1)), (as105_32, .inr (0, [.ref vs105_32, .int 0, .int 0, .int 0])), (vs105_32, .inl (cT 6, (((((([] : List Nat) ++ [c10]) ++ [58]) ++ dgs r13) ++ (((((([] : List Nat) ++ [91]) ++ dgs r20) ++ [44]) ++ dgs r25) ++ [93]))).length, .inl gs105_32))] : va_W) ++ wo) := hD
          have hP : va_P (dC, dI) vwCl (([(as99_30, .inr (0, [.ref vs99_30, .int 0, .int 0, .int 0])), (vs99_30, .inl (cT 6, ((((((([] : List Nat) ++ [91]) ++ dgs r20) ++ [44]) ++ dgs r25) ++ [93])).length, .inl gs99_30)), (as105_32, .inr (0, [.ref vs105_32, .int 0, .int 0, .int 0])), (vs105_32, .inl (cT 6, (((((([] : List Nat) ++ [c10]) ++ [58]) ++ dgs r13) ++ (((((([] : List Nat) ++ [91]) ++ dgs r20) ++ [44]) ++ dgs r25) ++ [93]))).length, .inl gs105_32))] : va_W) ++ wo) H := P_perm hP [0, 1, 4, 5] rfl
          have hD : va_D A (([(as99_30, .inr (0, [.ref vs99_30, .int 0, .int 0, .int 0])), (vs99_30, .inl (cT 6, ((((((([] : List Nat) ++ [91]) ++ dgs r20) ++ [44]) ++ dgs r25) ++ [93])).length, .inl gs99_30)), (as105_32, .inr (0, [.ref vs105_32, .int 0, .int 0, .int 0])), (vs105_32, .inl (cT 6, (((((([] : List Nat) ++ [c10]) ++ [58]) ++ dgs r13) ++ (((((([] : List Nat) ++ [91]) ++ dgs r20) ++ [44]) ++ dgs r25) ++ [93]))).length, .inl gs105_32))] : va_W) ++ wo) := D_perm hD [0, 1, 4, 5] (by decide) rfl
          refine lv_astore_n (lv' := [(2, .ref as105_32), (0, .ref a0), (1, .int x1_2)]) hx hb dL_lines_108 rfl hl (by decide) rfl (fun ls hl => ?_)
          refine lv_aload_n hx hb dL_lines_109 rfl (lv_at hl 1 rfl) ?_
          refine lv_aload_n hx hb dL_lines_110 rfl (lv_at hl 1 rfl) ?_
          refine lv_iload_n hx hb dL_lines_111 rfl (lv_at hl 2 rfl) ?_
          refine coI (vx_runSW (As := [.ref a0, .int x1_2]) (rest := [.ref a0]) ⟨hx, hb, hml, hown, hta⟩ (oc_L_tellCauldron l hl9 dC dI cT hO (P_r hP) ((D_r hD).weaken (fun _ _ _ _ => trivial))) (cW hta lm_L_320 mw_L_tellCauldron ⟨(Nat.le_of_ble_eq_true rfl), (Nat.le_of_ble_eq_true rfl)⟩) ⟨fbU, fun U hU hW => ⟨rfl, hU, va_K.moved hW.alike hK, XS.call hX hS hU hW (freeO hD hS hA), hN.warm hW, ZS.call hZ hS hU hW (freeO hD hS hA), LT.call hT hS hU hW (freeO hD hS hA)⟩⟩ rfl rfl hl.1 rfl (lv_room (Nat.le_of_ble_eq_true rfl)) dL_lines_112 ⟨by show _ ≤ (454 : Nat); omega, by show _ ≤ (16920 : Nat); omega⟩) hS hA hP hD (fun r33 wo H locs hw hP hD hS => ?_)
          obtain ⟨σ34, hr9, hO⟩ := hw
          have h := h r33 σ34 hr9
          refine lv_aload_n hx hb dL_lines_115 rfl (lv_at hl 0 rfl) ?_
          have hP9 : va_P (dC, dI) vwCl (([(as99_30, .inr (0, [.ref vs99_30, .int 0, .int 0, .int 0])), (vs99_30, .inl (cT 6, ((((((([] : List Nat) ++ [91]) ++ dgs r20) ++ [44]) ++ dgs r25) ++ [93])).length, .inl gs99_30))] : va_W) ++ (([(as105_32, .inr (0, [.ref vs105_32, .int 0, .int 0, .int 0])), (vs105_32, .inl (cT 6, (((((([] : List Nat) ++ [c10]) ++ [58]) ++ dgs r13) ++ (((((([] : List Nat) ++ [91]) ++ dgs r20) ++ [44]) ++ dgs r25) ++ [93]))).length, .inl gs105_32))] : va_W) ++ wo)) H := P_xc hP [0, 1, 2, 3] rfl
          have hD9 : va_D A (([(as99_30, .inr (0, [.ref vs99_30, .int 0, .int 0, .int 0])), (vs99_30, .inl (cT 6, ((((((([] : List Nat) ++ [91]) ++ dgs r20) ++ [44]) ++ dgs r25) ++ [93])).length, .inl gs99_30))] : va_W) ++ (([(as105_32, .inr (0, [.ref vs105_32, .int 0, .int 0, .int 0])), (vs105_32, .inl (cT 6, (((((([] : List Nat) ++ [c10]) ++ [58]) ++ dgs r13) ++ (((((([] : List Nat) ++ [91]) ++ dgs r20) ++ [44]) ++ dgs r25) ++ [93]))).length, .inl gs105_32))] : va_W) ++ wo)) := D_xc hD [0, 1, 2, 3] (by decide) rfl
          refine coI (va_runS (As := [.ref a0, .int r33, .ref as105_32]) (rest := []) ⟨hx, hb, hml, hown, hta⟩ (lc_L_spells l hl9 dC dI cT h hs105_32 hO (P_r hP9) ((D_r hD9).weaken (fun _ _ _ _ => trivial))) (cS hta lm_L_322 md_L_spells ⟨(Nat.le_of_ble_eq_true rfl), (Nat.le_of_ble_eq_true rfl)⟩) ⟨fbU, fun U hU hW => ⟨rfl, hU, va_K.moved hW.alike hK, XS.call hX hS hU hW (freeO hD9 hS hA), hN.warm hW, ZS.call hZ hS hU hW (freeO hD9 hS hA), LT.call hT hS hU hW (freeO hD9 hS hA)⟩⟩ rfl rfl hl.1 rfl (lv_room (Nat.le_of_ble_eq_true rfl)) dL_lines_116 ⟨by show _ ≤ (454 : Nat); omega, by show _ ≤ (16920 : Nat); omega⟩) hS hA hP9 hD9 (fun r36 W9 H locs hw hP hD hS => ?_)
          obtain ⟨wo, rfl, σ35, h, hO⟩ := hw
          have hP := P_as hP
          have hD := D_as hD
          have hP : va_P (dC, dI) vwCl (([(as99_30, .inr (0, [.ref vs99_30, .int 0, .int 0, .int 0])), (vs99_30, .inl (cT 6, ((((((([] : List Nat) ++ [91]) ++ dgs r20) ++ [44]) ++ dgs r25) ++ [93])).length, .inl gs99_30)), (as105_32, .inr (0, [.ref vs105_32, .int 0, .int 0, .int 0])), (vs105_32, .inl (cT 6, (((((([] : List Nat) ++ [c10]) ++ [58]) ++ dgs r13) ++ (((((([] : List Nat) ++ [91]) ++ dgs r20) ++ [44]) ++ dgs r25) ++ [93]))).length, .inl gs105_32))] : va_W) ++ wo) H := hP
          have hD : va_D A (([(as99_30, .inr (0, [.ref vs99_30, .int 0, .int 0, .int 0])), (vs99_30, .inl (cT 6, ((((((([] : List Nat) ++ [91]) ++ dgs r20) ++ [44]) ++ dgs r25) ++ [93])).length, .inl gs99_30)), (as105_32, .inr (0, [.ref vs105_32, .int 0, .int 0, .int 0])), (vs105_32, .inl (cT 6, (((((([] : List Nat) ++ [c10]) ++ [58]) ++ dgs r13) ++ (((((([] : List Nat) ++ [91]) ++ dgs r20) ++ [44]) ++ dgs r25) ++ [93]))).length, .inl gs105_32))] : va_W) ++ wo) := hD
          refine lv_if_ne (tgt := 124) hx hb dL_lines_119 (by decide) (fun c0 => ?_) (fun c0 => ?_)
          · have h := h.2 c0
            obtain ⟨v37, e_v⟩ : ∃ y : Int32, y = x1_2 + 1 := ⟨_, rfl⟩
            have h := h v37 e_v
            refine lv_iinc (v := v37) (lv' := [(1, .int v37), (2, .ref as105_32), (0, .ref a0)]) hx hb dL_lines_124 hl (k := 2) rfl (by rw [e_v]; rfl) (by decide) rfl (fun ls hl => ?_)
            refine lv_goto (tgt := 2) hx hb dL_lines_127 (by decide) ?_
            have hP := P_perm (X' := ([] : va_W)) hP [] rfl
            have hD := D_perm (X' := ([] : va_W)) hD [] (by decide) rfl
            exact ih_2 v37 σ35 _ _ _ _ _ _ h hO hP hD hS (lv_sub hl [2, 0] rfl) (by omega) (by omega)
          · have h := h.1 c0
            refine lv_iconst (v := 0) hx hb dL_lines_122 (by decide) ?_
            refine W.widen (k := 454) (n := 16920) (by omega) (by omega) ?_
            rw [hQ]
            exact W.zret (ty := .boolean) (v := 0) hx hb hr (bo_n (v := 0) rfl) (fun t ht hW => ⟨⟨0, wo, rfl, ⟨_, h, hO⟩, by rw [ht]; exact P_r hP, D_r hD⟩, hS.F ht⟩) hS.2.2 dL_lines_123
        · have h := h.1 c0
          obtain ⟨sa51_38, sv51_38, hz51_38, hks51_38⟩ := hT.2 _ (List.mem_of_getElem? (i := 5) rfl)
          refine va_ldcS hx hb hown hz51_38 dL_lines_51 ?_
          refine lv_goto (tgt := 102) hx hb dL_lines_53 (by decide) ?_
          obtain ⟨hc, h⟩ := h
          refine cqX (wr := []) (va_runV (As := [.ref sa51_38]) (rest := []) ⟨hx, hb, hml, hown, hta⟩ (cS_appK l dC dI cT (n := ((((([] : List Nat) ++ [c10]) ++ [58]) ++ dgs r13)).length) (sn := ([126] : List Nat).length) (txt_lit (t := [126]) (by decide)).2.2 hxb11_8u14.1.2.1 (Nat.le_trans hc (cap16 hxb11_8u14.1.2.2.1)) hxb11_8u14.1.2.2.1 hxb11_8u14.1.2.2.2.2 rfl ((P_l hP).sub (ws' := [(ab11_8, .inr (1, [.ref u14.1, .int 0, .int u14.2.2.2, .int (nI ((((([] : List Nat) ++ [c10]) ++ [58]) ++ dgs r13)).length)])), (u14.1, .inl (cT 6, u14.2.1, .inl u14.2.2.1))]) [0, 1] rfl) (ds (D_l hD) [0, 1] (by decide) rfl)) (cV hta lm_L_149 md_J4_append_15ec4 ⟨(Nat.le_of_ble_eq_true rfl), (Nat.le_of_ble_eq_true rfl)⟩) ⟨fbJK, va_recv hK hP (ci := 1) (q0 := 0) rfl rfl, fun U hU hW => ⟨rfl, hU, va_K.moved hW.alike hK, ZS.call hZ hS hU hW (va_free (D_l hD) hS hA [0, 1] rfl), SP.warm hW hT.1, KS.call hks51_38 hS hU hW (va_free (D_l hD) hS hA [0, 1] rfl)⟩⟩ rfl rfl hl.1 rfl (lv_room (Nat.le_of_ble_eq_true rfl)) dL_lines_102 ⟨by show _ ≤ (454 : Nat); omega, by show _ ≤ (16920 : Nat); omega⟩) hS hA hP hD [0, 1] [] rfl rfl (by decide) (by decide) (fun r9 u39 H locs hu hP hD hS => ?_)
          obtain ⟨rfl, hu⟩ := hu
          have hxb11_8u39 : LX ((((([] : List Nat) ++ [c10]) ++ [58]) ++ dgs r13) ++ [126]) u39 := lx_aps hxb11_8u14 (txt_lit (t := [126]) (by decide)) hu
          have el : (((((([] : List Nat) ++ [c10]) ++ [58]) ++ dgs r13) ++ [126])).length = ((((([] : List Nat) ++ [c10]) ++ [58]) ++ dgs r13)).length + ([126] : List Nat).length := (by rw [List.length_append])
          have hP : va_P (dC, dI) vwCl (([(ab11_8, .inr (1, [.ref u39.1, .int 0, .int u39.2.2.2, .int (nI (((((([] : List Nat) ++ [c10]) ++ [58]) ++ dgs r13) ++ [126])).length)])), (u39.1, .inl (cT 6, u39.2.1, .inl u39.2.2.1))] : va_W) ++ wo) H := by rw [el]; exact hP
          have hD : va_D A (([(ab11_8, .inr (1, [.ref u39.1, .int 0, .int u39.2.2.2, .int (nI (((((([] : List Nat) ++ [c10]) ++ [58]) ++ dgs r13) ++ [126])).length)])), (u39.1, .inl (cT 6, u39.2.1, .inl u39.2.2.1))] : va_W) ++ wo) := by rw [el]; exact hD
          refine W.eq (g2 := F0 m 105 ls [.ref ab11_8]) rfl ?_
          obtain ⟨hc, h⟩ := h
          refine crX (wr := []) (va_runV (As := []) (rest := []) ⟨hx, hb, hml, hown, hta⟩ (cS_toString l dC dI cT (n := (((((([] : List Nat) ++ [c10]) ++ [58]) ++ dgs r13) ++ [126])).length) (Nat.lt_of_lt_of_le hc (cap16 hxb11_8u39.1.2.2.1)) hxb11_8u39.1.2.2.1.le hxb11_8u39.1.2.2.2.2 rfl ((P_l hP).sub (ws' := [(ab11_8, .inr (1, [.ref u39.1, .int 0, .int u39.2.2.2, .int (nI (((((([] : List Nat) ++ [c10]) ++ [58]) ++ dgs r13) ++ [126])).length)])), (u39.1, .inl (cT 6, u39.2.1, .inl u39.2.2.1))]) [0, 1] rfl) (ds (D_l hD) [0, 1] (by decide) rfl)) (cV hta lm_L_155 md_J4_toString_0e30d ⟨(Nat.le_of_ble_eq_true rfl), (Nat.le_of_ble_eq_true rfl)⟩) ⟨fbJM, va_recv hK hP (ci := 1) (q0 := 0) rfl rfl, fun U hU hW => ⟨rfl, hU, va_K.moved hW.alike hK, ZS.call hZ hS hU hW (va_free (D_l hD) hS hA [0, 1] rfl), SP.warm hW hT.1⟩⟩ rfl rfl hl.1 rfl (lv_room (Nat.le_of_ble_eq_true rfl)) dL_lines_105 ⟨by show _ ≤ (454 : Nat); omega, by show _ ≤ (16920 : Nat); omega⟩) hS hA hP hD [0, 1] [] rfl rfl (by decide) (by decide) (fun w9 as105_40 H locs hu hP hD hS => ?_)
          obtain ⟨vs105_40, gs105_40⟩ := w9
          have hs105_40 : TXT (((((([] : List Nat) ++ [c10]) ++ [58]) ++ dgs r13) ++ [126])) gs105_40 := lx_txt hxb11_8u39 hu
          have hP : va_P (dC, dI) vwCl (([(ab11_8, .inr (1, [.ref u39.1, .int 0, .int u39.2.2.2, .int (nI (((((([] : List Nat) ++ [c10]) ++ [58]) ++ dgs r13) ++ [126])).length)])), (u39.1, .inl (cT 6, u39.2.1, .inl u39.2.2.1)), (as105_40, .inr (0, [.ref vs105_40, .int 0, .int 0, .int 0])), (vs105_40, .inl (cT 6, (((((([] : List Nat) ++ [c10]) ++ [58]) ++ dgs r13) ++ [126])).length, .inl gs105_40))] : va_W) ++ wo) H := hP
          have hD : va_D A (([(ab11_8, .inr (1, [.ref u39.1, .int 0, .int u39.2.2.2, .int (nI (((((([] : List Nat) ++ [c10]) ++ [58]) ++ dgs r13) ++ [126])).length)])), (u39.1, .inl (cT 6, u39.2.1, .inl u39.2.2.1)), (as105_40, .inr (0, [.ref vs105_40, .int 0, .int 0, .int 0])), (vs105_40, .inl (cT 6, (((((([] : List Nat) ++ [c10]) ++ [58]) ++ dgs r13) ++ [126])).length, .inl gs105_40))] : va_W) ++ wo) := hD
          have hP : va_P (dC, dI) vwCl (([(as105_40, .inr (0, [.ref vs105_40, .int 0, .int 0, .int 0])), (vs105_40, .inl (cT 6, (((((([] : List Nat) ++ [c10]) ++ [58]) ++ dgs r13) ++ [126])).length, .inl gs105_40))] : va_W) ++ wo) H := P_perm hP [2, 3] rfl
          have hD : va_D A (([(as105_40, .inr (0, [.ref vs105_40, .int 0, .int 0, .int 0])), (vs105_40, .inl (cT 6, (((((([] : List Nat) ++ [c10]) ++ [58]) ++ dgs r13) ++ [126])).length, .inl gs105_40))] : va_W) ++ wo) := D_perm hD [2, 3] (by decide) rfl
          refine lv_astore_n (lv' := [(2, .ref as105_40), (0, .ref a0), (1, .int x1_2)]) hx hb dL_lines_108 rfl hl (by decide) rfl (fun ls hl => ?_)
          refine lv_aload_n hx hb dL_lines_109 rfl (lv_at hl 1 rfl) ?_
          refine lv_aload_n hx hb dL_lines_110 rfl (lv_at hl 1 rfl) ?_
          refine lv_iload_n hx hb dL_lines_111 rfl (lv_at hl 2 rfl) ?_
          refine coI (vx_runSW (As := [.ref a0, .int x1_2]) (rest := [.ref a0]) ⟨hx, hb, hml, hown, hta⟩ (oc_L_tellCauldron l hl9 dC dI cT hO (P_r hP) ((D_r hD).weaken (fun _ _ _ _ => trivial))) (cW hta lm_L_320 mw_L_tellCauldron ⟨(Nat.le_of_ble_eq_true rfl), (Nat.le_of_ble_eq_true rfl)⟩) ⟨fbU, fun U hU hW => ⟨rfl, hU, va_K.moved hW.alike hK, XS.call hX hS hU hW (freeO hD hS hA), hN.warm hW, ZS.call hZ hS hU hW (freeO hD hS hA), LT.call hT hS hU hW (freeO hD hS hA)⟩⟩ rfl rfl hl.1 rfl (lv_room (Nat.le_of_ble_eq_true rfl)) dL_lines_112 ⟨by show _ ≤ (454 : Nat); omega, by show _ ≤ (16920 : Nat); omega⟩) hS hA hP hD (fun r41 wo H locs hw hP hD hS => ?_)
          obtain ⟨σ42, hr9, hO⟩ := hw
          have h := h r41 σ42 hr9
          refine lv_aload_n hx hb dL_lines_115 rfl (lv_at hl 0 rfl) ?_
          have hP9 : va_P (dC, dI) vwCl (([] : va_W) ++ (([(as105_40, .inr (0, [.ref vs105_40, .int 0, .int 0, .int 0])), (vs105_40, .inl (cT 6, (((((([] : List Nat) ++ [c10]) ++ [58]) ++ dgs r13) ++ [126])).length, .inl gs105_40))] : va_W) ++ wo)) H := P_xc hP [0, 1] rfl
          have hD9 : va_D A (([] : va_W) ++ (([(as105_40, .inr (0, [.ref vs105_40, .int 0, .int 0, .int 0])), (vs105_40, .inl (cT 6, (((((([] : List Nat) ++ [c10]) ++ [58]) ++ dgs r13) ++ [126])).length, .inl gs105_40))] : va_W) ++ wo)) := D_xc hD [0, 1] (by decide) rfl
          refine coI (va_runS (As := [.ref a0, .int r41, .ref as105_40]) (rest := []) ⟨hx, hb, hml, hown, hta⟩ (lc_L_spells l hl9 dC dI cT h hs105_40 hO (P_r hP9) ((D_r hD9).weaken (fun _ _ _ _ => trivial))) (cS hta lm_L_322 md_L_spells ⟨(Nat.le_of_ble_eq_true rfl), (Nat.le_of_ble_eq_true rfl)⟩) ⟨fbU, fun U hU hW => ⟨rfl, hU, va_K.moved hW.alike hK, XS.call hX hS hU hW (freeO hD9 hS hA), hN.warm hW, ZS.call hZ hS hU hW (freeO hD9 hS hA), LT.call hT hS hU hW (freeO hD9 hS hA)⟩⟩ rfl rfl hl.1 rfl (lv_room (Nat.le_of_ble_eq_true rfl)) dL_lines_116 ⟨by show _ ≤ (454 : Nat); omega, by show _ ≤ (16920 : Nat); omega⟩) hS hA hP9 hD9 (fun r44 W9 H locs hw hP hD hS => ?_)
          obtain ⟨wo, rfl, σ43, h, hO⟩ := hw
          have hP := P_as hP
          have hD := D_as hD
          have hP : va_P (dC, dI) vwCl (([(as105_40, .inr (0, [.ref vs105_40, .int 0, .int 0, .int 0])), (vs105_40, .inl (cT 6, (((((([] : List Nat) ++ [c10]) ++ [58]) ++ dgs r13) ++ [126])).length, .inl gs105_40))] : va_W) ++ wo) H := hP
          have hD : va_D A (([(as105_40, .inr (0, [.ref vs105_40, .int 0, .int 0, .int 0])), (vs105_40, .inl (cT 6, (((((([] : List Nat) ++ [c10]) ++ [58]) ++ dgs r13) ++ [126])).length, .inl gs105_40))] : va_W) ++ wo) := hD
          refine lv_if_ne (tgt := 124) hx hb dL_lines_119 (by decide) (fun c0 => ?_) (fun c0 => ?_)
          · have h := h.2 c0
            obtain ⟨v45, e_v⟩ : ∃ y : Int32, y = x1_2 + 1 := ⟨_, rfl⟩
            have h := h v45 e_v
            refine lv_iinc (v := v45) (lv' := [(1, .int v45), (2, .ref as105_40), (0, .ref a0)]) hx hb dL_lines_124 hl (k := 2) rfl (by rw [e_v]; rfl) (by decide) rfl (fun ls hl => ?_)
            refine lv_goto (tgt := 2) hx hb dL_lines_127 (by decide) ?_
            have hP := P_perm (X' := ([] : va_W)) hP [] rfl
            have hD := D_perm (X' := ([] : va_W)) hD [] (by decide) rfl
            exact ih_2 v45 σ43 _ _ _ _ _ _ h hO hP hD hS (lv_sub hl [2, 0] rfl) (by omega) (by omega)
          · have h := h.1 c0
            refine lv_iconst (v := 0) hx hb dL_lines_122 (by decide) ?_
            refine W.widen (k := 454) (n := 16920) (by omega) (by omega) ?_
            rw [hQ]
            exact W.zret (ty := .boolean) (v := 0) hx hb hr (bo_n (v := 0) rfl) (fun t ht hW => ⟨⟨0, wo, rfl, ⟨_, h, hO⟩, by rw [ht]; exact P_r hP, D_r hD⟩, hS.F ht⟩) hS.2.2 dL_lines_123
  unfold wp_L_lines at h
  have hc1 : (0 : Nat) + 454 ≤ 454 := Nat.le_of_eq (Nat.zero_add _)
  have hc2 : (0 : Nat) + 16920 ≤ 16920 := Nat.le_of_eq (Nat.zero_add _)
  clear hP0 hD0 hAe
  obtain ⟨wo, e_w⟩ : ∃ z, z = W0 := ⟨W0, rfl⟩
  rw [← e_w] at hO hP hD
  clear e_w
  refine lv_iconst (v := 0) hx hb dL_lines_0 (by decide) ?_
  refine lv_istore_n (lv' := [(1, .int 0), (0, .ref a0)]) hx hb dL_lines_1 rfl hl (by decide) rfl (fun ls hl => ?_)
  exact wB_2 7 (0 : Int32) σ _ _ _ _ _ _ h hO hP hD hS (lv_sub hl [1, 0] rfl) (by omega) (by omega)
