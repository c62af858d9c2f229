/-! THE LAW's methods (gen/laws41.py) -/
def wp_L_typed_b362 (K : (Int32 → AB → Prop))  (s0_362 : Int32) (σ : AB) : Prop :=
(bo s0_362 = true) ∧
K s0_362 σ
def wp_L_typed_b361 (K : (Int32 → AB → Prop))   (σ : AB) : Prop :=
wp_L_typed_b362 K (0 : Int32) σ
def wp_L_typed_b357 (K : (Int32 → AB → Prop))   (σ : AB) : Prop :=
wp_L_typed_b362 K (1 : Int32) σ
def wp_L_typed_b107 (K : (Int32 → AB → Prop))   (σ : AB) : Prop :=
K (0 : Int32) σ
def wp_L_typed_b272 (K : (Int32 → AB → Prop))   (σ : AB) : Prop :=
K (0 : Int32) σ
def wp_L_typed_b274 (K : (Int32 → AB → Prop)) (k_10 : Int32 → Int32 → Int32 → AB → Prop) (x1_274 : Int32) (x2_274 : Int32) (x3_274 : Int32) (σ : AB) : Prop :=
∀ v1 : Int32, v1 = x3_274 + 1 →
k_10 x1_274 x2_274 v1 σ
def wp_L_typed_b229 (K : (Int32 → AB → Prop)) (k_10 : Int32 → Int32 → Int32 → AB → Prop) (k_115 : Int32 → Int32 → Int32 → Int32 → Int32 → Int32 → Int32 → AB → Prop) (x1_229 : Int32) (x2_229 : Int32) (x3_229 : Int32) (x4_229 : Int32) (x5_229 : Int32) (x7_229 : Int32) (x8_229 : Int32) (σ : AB) : Prop :=
∀ v2 : Int32, v2 = x8_229 + 1 →
k_115 x1_229 x2_229 x3_229 x4_229 x5_229 x7_229 v2 σ
def wp_L_typed_b224 (K : (Int32 → AB → Prop))   (σ : AB) : Prop :=
K (0 : Int32) σ
def wp_L_typed_b226 (K : (Int32 → AB → Prop)) (k_10 : Int32 → Int32 → Int32 → AB → Prop) (k_115 : Int32 → Int32 → Int32 → Int32 → Int32 → Int32 → Int32 → AB → Prop) (x1_226 : Int32) (x2_226 : Int32) (x3_226 : Int32) (x4_226 : Int32) (x5_226 : Int32) (x7_226 : Int32) (x8_226 : Int32) (σ : AB) : Prop :=
∀ v3 : Int32, v3 = x7_226 + 1 →
wp_L_typed_b229 K k_10 k_115 x1_226 x2_226 x3_226 x4_226 x5_226 v3 x8_226 σ
def wp_L_typed_b177 (K : (Int32 → AB → Prop)) (k_10 : Int32 → Int32 → Int32 → AB → Prop) (k_115 : Int32 → Int32 → Int32 → Int32 → Int32 → Int32 → Int32 → AB → Prop) (x1_177 : Int32) (x2_177 : Int32) (x3_177 : Int32) (x4_177 : Int32) (x5_177 : Int32) (x7_177 : Int32) (x8_177 : Int32) (x9_177 : Int32) (x10_177 : Int32) (s0_177 : Int32) (σ : AB) : Prop :=
(s0_177 = 0 →
(x9_177 = (-1004) →
(x10_177 = (-1004) →
wp_L_typed_b226 K k_10 k_115 x1_177 x2_177 x3_177 x4_177 x5_177 x7_177 x8_177 σ) ∧
(¬ x10_177 = (-1004) →
wp_L_typed_b224 K σ)) ∧
(¬ x9_177 = (-1004) →
wp_L_typed_b224 K σ)) ∧
(¬ s0_177 = 0 →
(x10_177 < x9_177 →
wp_L_typed_b224 K σ) ∧
(¬ x10_177 < x9_177 →
(x9_177 < (-99) →
wp_L_typed_b224 K σ) ∧
(¬ x9_177 < (-99) →
(x10_177 ≤ 99 →
wp_L_typed_b226 K k_10 k_115 x1_177 x2_177 x3_177 x4_177 x5_177 x7_177 x8_177 σ) ∧
(¬ x10_177 ≤ 99 →
wp_L_typed_b224 K σ))))
def wp_L_typed_b176 (K : (Int32 → AB → Prop)) (k_10 : Int32 → Int32 → Int32 → AB → Prop) (k_115 : Int32 → Int32 → Int32 → Int32 → Int32 → Int32 → Int32 → AB → Prop) (x1_176 : Int32) (x2_176 : Int32) (x3_176 : Int32) (x4_176 : Int32) (x5_176 : Int32) (x7_176 : Int32) (x8_176 : Int32) (x9_176 : Int32) (x10_176 : Int32) (σ : AB) : Prop :=
wp_L_typed_b177 K k_10 k_115 x1_176 x2_176 x3_176 x4_176 x5_176 x7_176 x8_176 x9_176 x10_176 (0 : Int32) σ
def wp_L_typed_b115 (K : (Int32 → AB → Prop)) (k_10 : Int32 → Int32 → Int32 → AB → Prop) : Nat → Int32 → Int32 → Int32 → Int32 → Int32 → Int32 → Int32 → AB → Prop
  | 0, _, _, _, _, _, _, _, _ => False
  | n + 1, x1_115, x2_115, x3_115, x4_115, x5_115, x7_115, x8_115, σ =>
    ∀ r4 : Int32, r4 = f_spellOf σ.1 x3_115 (0 : Int32) →
    (r4 ≤ x8_115 →
    (x7_115 = x5_115 →
    ∀ r5 : Int32, r5 = f_bound σ.1 x3_115 x5_115 (1 : Int32) →
    (r5 = (-1004) →
    (x4_115 = 1 →
    ∀ r6 : Int32, r6 = f_boils σ.1 x3_115 →
    (r6 = (-14) →
    wp_L_typed_b274 K k_10 x1_115 x2_115 x3_115 σ) ∧
    (¬ r6 = (-14) →
    wp_L_typed_b272 K σ)) ∧
    (¬ x4_115 = 1 →
    wp_L_typed_b274 K k_10 x1_115 x2_115 x3_115 σ)) ∧
    (¬ r5 = (-1004) →
    wp_L_typed_b272 K σ)) ∧
    (¬ x7_115 = x5_115 →
    wp_L_typed_b272 K σ)) ∧
    (¬ r4 ≤ x8_115 →
    ∀ r7 : Int32, r7 = f_token σ.1 x3_115 x8_115 →
    (r7 = 61 →
    ∀ r8 : Int32, r8 = f_bound σ.1 x3_115 x7_115 (0 : Int32) →
    ∀ r9 : Int32, r9 = f_bound σ.1 x3_115 x7_115 (1 : Int32) →
    (x4_115 = 1 →
    (r8 ≤ (-1000) →
    wp_L_typed_b176 K k_10 (wp_L_typed_b115 K k_10 n) x1_115 x2_115 x3_115 x4_115 x5_115 x7_115 x8_115 r8 r9 σ) ∧
    (¬ r8 ≤ (-1000) →
    wp_L_typed_b177 K k_10 (wp_L_typed_b115 K k_10 n) x1_115 x2_115 x3_115 x4_115 x5_115 x7_115 x8_115 r8 r9 (1 : Int32) σ)) ∧
    (¬ x4_115 = 1 →
    wp_L_typed_b176 K k_10 (wp_L_typed_b115 K k_10 n) x1_115 x2_115 x3_115 x4_115 x5_115 x7_115 x8_115 r8 r9 σ)) ∧
    (¬ r7 = 61 →
    wp_L_typed_b229 K k_10 (wp_L_typed_b115 K k_10 n) x1_115 x2_115 x3_115 x4_115 x5_115 x7_115 x8_115 σ))
def wp_L_typed_b109 (K : (Int32 → AB → Prop)) (k_10 : Int32 → Int32 → Int32 → AB → Prop) (x1_109 : Int32) (x2_109 : Int32) (x3_109 : Int32) (x4_109 : Int32) (x5_109 : Int32) (σ : AB) : Prop :=
wp_L_typed_b115 K k_10 26 x1_109 x2_109 x3_109 x4_109 x5_109 (0 : Int32) (0 : Int32) σ
def wp_L_typed_b85 (K : (Int32 → AB → Prop)) (k_10 : Int32 → Int32 → Int32 → AB → Prop) (x1_85 : Int32) (x2_85 : Int32) (x3_85 : Int32) (x4_85 : Int32) (x5_85 : Int32) (x6_85 : Int32) (s0_85 : Int32) (s1_85 : Int32) (σ : AB) : Prop :=
(s1_85 = s0_85 →
(x6_85 = 0 →
∀ r10 : Int32, r10 = f_fault σ.1 x3_85 →
∀ r11 : Int32, r11 = f_spellOf σ.1 x3_85 (0 : Int32) →
(r10 < r11 →
wp_L_typed_b109 K k_10 x1_85 x2_85 x3_85 x4_85 x5_85 σ) ∧
(¬ r10 < r11 →
wp_L_typed_b107 K σ)) ∧
(¬ x6_85 = 0 →
wp_L_typed_b109 K k_10 x1_85 x2_85 x3_85 x4_85 x5_85 σ)) ∧
(¬ s1_85 = s0_85 →
wp_L_typed_b107 K σ)
def wp_L_typed_b45 (K : (Int32 → AB → Prop)) (k_10 : Int32 → Int32 → Int32 → AB → Prop) (x1_45 : Int32) (x2_45 : Int32) (x3_45 : Int32) (x4_45 : Int32) (x5_45 : Int32) (s0_45 : Int32) (σ : AB) : Prop :=
∀ v12 : Int32, v12 = (x1_45 + x4_45) →
∀ r13 : Int32, r13 = f_types σ.1 x3_45 →
(x4_45 = r13 →
∀ r14 : Int32, r14 = f_spellOf σ.1 x3_45 (3 : Int32) →
(x4_45 = r14 →
(s0_45 = 0 →
wp_L_typed_b85 K k_10 v12 x2_45 x3_45 x4_45 x5_45 s0_45 (0 : Int32) x4_45 σ) ∧
(¬ s0_45 = 0 →
wp_L_typed_b85 K k_10 v12 x2_45 x3_45 x4_45 x5_45 s0_45 (1 : Int32) x4_45 σ)) ∧
(¬ x4_45 = r14 →
wp_L_typed_b107 K σ)) ∧
(¬ x4_45 = r13 →
wp_L_typed_b107 K σ)
def wp_L_typed_b10 (K : (Int32 → AB → Prop))  : Nat → Int32 → Int32 → Int32 → AB → Prop
  | 0, _, _, _, _ => False
  | n + 1, x1_10, x2_10, x3_10, σ =>
    (x2_10 ≤ x3_10 →
    ∀ r15 : Int32, r15 = f_account σ.1 σ.2.2.2.2.2.2 2 →
    (r15 = x1_10 →
    (∃ n, n < 8 ∧ (2 : Int32) = nI n) ∧
    ∀ r16 : Int32, r16 = f_account σ.1 σ.2.2.2.2.2.2 (2 : Int32) →
    (r16 = x1_10 →
    ∀ r17 : Int32, r17 = f_types σ.1 x2_10 →
    (r17 = (-11) →
    ∀ r18 : Int32, r18 = f_types σ.1 (-1 : Int32) →
    (r18 = (-11) →
    ∀ r19 : Int32, r19 = f_fault σ.1 x2_10 →
    (r19 = (-11) →
    ∀ r20 : Int32, r20 = f_bound σ.1 x2_10 (0 : Int32) (1 : Int32) →
    (r20 = (-1001) →
    (x2_10 = 0 →
    wp_L_typed_b357 K σ) ∧
    (¬ x2_10 = 0 →
    (σ.1.2.2.1 ≠ 0) ∧
    ∀ r21 : UInt32, r21 = f_share σ.1 →
    (n32 (FP.fdiv (FP.i2f x1_10) (FP.i2f x2_10)) = true) ∧
    ((Op.cmpValue (FP.fcmp r21 (FP.fdiv (FP.i2f x1_10) (FP.i2f x2_10))) .l) = 0 →
    wp_L_typed_b357 K σ) ∧
    (¬ (Op.cmpValue (FP.fcmp r21 (FP.fdiv (FP.i2f x1_10) (FP.i2f x2_10))) .l) = 0 →
    wp_L_typed_b361 K σ))) ∧
    (¬ r20 = (-1001) →
    wp_L_typed_b361 K σ)) ∧
    (¬ r19 = (-11) →
    wp_L_typed_b361 K σ)) ∧
    (¬ r18 = (-11) →
    wp_L_typed_b361 K σ)) ∧
    (¬ r17 = (-11) →
    wp_L_typed_b361 K σ)) ∧
    (¬ r16 = x1_10 →
    wp_L_typed_b361 K σ)) ∧
    (¬ r15 = x1_10 →
    wp_L_typed_b361 K σ)) ∧
    (¬ x2_10 ≤ x3_10 →
    ∀ r22 : Int32, r22 = f_types σ.1 x3_10 →
    ∀ r23 : Int32, r23 = f_spellOf σ.1 x3_10 (1 : Int32) →
    ∀ r24 : Int32, r24 = f_fault σ.1 x3_10 →
    (r24 = (-14) →
    wp_L_typed_b45 K (wp_L_typed_b10 K n) x1_10 x2_10 x3_10 r22 r23 (1 : Int32) σ) ∧
    (¬ r24 = (-14) →
    wp_L_typed_b45 K (wp_L_typed_b10 K n) x1_10 x2_10 x3_10 r22 r23 (0 : Int32) σ))
def wp_L_typed (K : (Int32 → AB → Prop))  (σ : AB) : Prop :=
(∃ n, n < 8 ∧ (1 : Int32) = nI n) ∧
∀ r25 : Int32, r25 = f_account σ.1 σ.2.2.2.2.2.2 (1 : Int32) →
wp_L_typed_b10 K 5 (0 : Int32) r25 (0 : Int32) σ
set_option maxHeartbeats 4000000 in
set_option maxRecDepth 100000 in
theorem lc_L_typed (l : Launch) (hl9 : l.stackTraces = false) (dC : Nat → ClassId) (dI : Nat → Nat → Nat) (cT : Nat → ClassId) {Hh : Heap} {a0 : Nat} {σ : AB} {W0 : va_W} {K : (Int32 → AB → Prop)} (h : wp_L_typed K σ) (hO : OB cT a0 σ W0) (hP0 : va_P (dC, dI) vwCl W0 Hh) (hD0 : va_D (fun _ => True) W0) : Met l yL_typed (wA yL_typed cL_typed 12 (some .boolean)) ({ frames := 34, cells := 1129, slots := 6774, locals := 921 } : Room) (PU dC dI cT [.ref a0] Hh (va_A W0 Hh.size)) (QEI dC dI (fun r W1 => ∃ σ9, K r σ9 ∧ OB cT a0 σ9 W1) (va_A W0 Hh.size)) 1129 6774 (va_A W0 Hh.size) := by
  refine Met.ofW (cc := cL_typed) (maxL := 12) (ret := (some .boolean)) (by decide) rfl ?_
  intro p e s m args below meth c s₁ B hml hv
  obtain ⟨rfl, hH, hK, hX, hN, hZ, hT⟩ := hv
  subst hH
  have hx := B.exec
  have hb := B.bytes
  have hr := B.returns
  have hta : ∀ w ∈ ALLW, w.before [.ref a0].toArray s = true := fun w hw => atoms_spec (ws := wA yL_typed cL_typed 12 (some .boolean)) B.pre w (List.mem_cons_of_mem _ hw)
  have hown : s.vm.findClass RL = some m.cls := findClass_of_methodNamed B.named
  have hlocks := B.notSynchronized
  have hD : va_D (va_A W0 s.heap.size) (([] : va_W) ++ W0) := hD0.self (sz := s.heap.size)
  generalize hAe : va_A W0 s.heap.size = A at hD hX hZ hT ⊢
  have hP : va_P (dC, dI) vwCl (([] : va_W) ++ W0) s.heap := hP0
  have hA : ∀ q : Nat, s.heap.size ≤ q → A q := fun q h => by rw [← hAe]; exact Or.inr h
  have hS : va_S A s.heap s.heap [] := va_S.rf
  have hl := lv_entry [.ref a0] (n := 12) (Nat.le_of_ble_eq_true rfl)
  rw [lg_entry_eq]
  generalize (lg_sl [.ref a0] ++ List.replicate (12 - (lg_sl [.ref a0]).length) Slot.unset).toArray = ls at hl ⊢
  have hl : lv_has ls 12 [(0, .ref a0)] := hl
  obtain ⟨Q, hQ⟩ : ∃ Q, Q = MQ below (QEI dC dI (fun r W1 => ∃ σ9, K r σ9 ∧ OB cT a0 σ9 W1) A) [.ref a0].toArray s 1129 6774 A := ⟨_, rfl⟩
  rw [← hQ]
  have wB_362 : ∀ (s0_362 : Int32) (σ : AB) (wo : va_W) (H : Heap) (locs : List Loc) (ls : Array Slot) (cells slots : Nat), wp_L_typed_b362 K s0_362 σ → OB cT a0 σ wo → va_P (dC, dI) vwCl (([] : va_W) ++ wo) H → va_D A (([] : va_W) ++ wo) → va_S A s.heap H locs → lv_has ls 12 [] → cells + (0) ≤ 1129 → slots + (0) ≤ 6774 → W p l e ({ frames := 34, cells := 1129, slots := 6774, locals := 921 } : Room) s m [.ref a0].toArray below meth c H locs cells slots Q (F0 m 362 ls [.int s0_362]) := by
    intro s0_362 σ wo H locs ls cells slots h hO hP hD hS hl hc1 hc2
    unfold wp_L_typed_b362 at h
    obtain ⟨hbz, h⟩ := h
    refine W.widen (k := 1129) (n := 6774) (by omega) (by omega) ?_
    rw [hQ]
    exact W.zret (ty := .boolean) (v := s0_362) hx hb hr (bo_n (v := s0_362) hbz) (fun t ht hW => ⟨⟨s0_362, wo, rfl, ⟨_, h, hO⟩, by rw [ht]; exact P_r hP, D_r hD⟩, hS.F ht⟩) hS.2.2 dL_typed_362
  have wB_361 : ∀  (σ : AB) (wo : va_W) (H : Heap) (locs : List Loc) (ls : Array Slot) (cells slots : Nat), wp_L_typed_b361 K  σ → OB cT a0 σ wo → va_P (dC, dI) vwCl (([] : va_W) ++ wo) H → va_D A (([] : va_W) ++ wo) → va_S A s.heap H locs → lv_has ls 12 [] → cells + (0) ≤ 1129 → slots + (0) ≤ 6774 → W p l e ({ frames := 34, cells := 1129, slots := 6774, locals := 921 } : Room) s m [.ref a0].toArray below meth c H locs cells slots Q (F0 m 361 ls []) := by
    intro  σ wo H locs ls cells slots h hO hP hD hS hl hc1 hc2
    unfold wp_L_typed_b361 at h
    refine lv_iconst (v := 0) hx hb dL_typed_361 (by decide) ?_
    exact wB_362 (0 : Int32) σ _ _ _ _ _ _ h hO hP hD hS (lv_sub hl [] rfl) (by omega) (by omega)
  have wB_357 : ∀  (σ : AB) (wo : va_W) (H : Heap) (locs : List Loc) (ls : Array Slot) (cells slots : Nat), wp_L_typed_b357 K  σ → OB cT a0 σ wo → va_P (dC, dI) vwCl (([] : va_W) ++ wo) H → va_D A (([] : va_W) ++ wo) → va_S A s.heap H locs → lv_has ls 12 [] → cells + (0) ≤ 1129 → slots + (0) ≤ 6774 → W p l e ({ frames := 34, cells := 1129, slots := 6774, locals := 921 } : Room) s m [.ref a0].toArray below meth c H locs cells slots Q (F0 m 357 ls []) := by
    intro  σ wo H locs ls cells slots h hO hP hD hS hl hc1 hc2
    unfold wp_L_typed_b357 at h
    refine lv_iconst (v := 1) hx hb dL_typed_357 (by decide) ?_
    refine lv_goto (tgt := 362) hx hb dL_typed_358 (by decide) ?_
    exact wB_362 (1 : Int32) σ _ _ _ _ _ _ h hO hP hD hS (lv_sub hl [] rfl) (by omega) (by omega)
  have wB_107 : ∀  (σ : AB) (wo : va_W) (H : Heap) (locs : List Loc) (ls : Array Slot) (cells slots : Nat), wp_L_typed_b107 K  σ → OB cT a0 σ wo → va_P (dC, dI) vwCl (([] : va_W) ++ wo) H → va_D A (([] : va_W) ++ wo) → va_S A s.heap H locs → lv_has ls 12 [] → cells + (0) ≤ 1129 → slots + (0) ≤ 6774 → W p l e ({ frames := 34, cells := 1129, slots := 6774, locals := 921 } : Room) s m [.ref a0].toArray below meth c H locs cells slots Q (F0 m 107 ls []) := by
    intro  σ wo H locs ls cells slots h hO hP hD hS hl hc1 hc2
    unfold wp_L_typed_b107 at h
    refine lv_iconst (v := 0) hx hb dL_typed_107 (by decide) ?_
    refine W.widen (k := 1129) (n := 6774) (by omega) (by omega) ?_
    rw [hQ]
    exact W.zret (ty := .boolean) (v := 0) hx hb hr (bo_n (v := 0) rfl) (fun t ht hW => ⟨⟨0, wo, rfl, ⟨_, h, hO⟩, by rw [ht]; exact P_r hP, D_r hD⟩, hS.F ht⟩) hS.2.2 dL_typed_108
  have wB_272 : ∀  (σ : AB) (wo : va_W) (H : Heap) (locs : List Loc) (ls : Array Slot) (cells slots : Nat), wp_L_typed_b272 K  σ → OB cT a0 σ wo → va_P (dC, dI) vwCl (([] : va_W) ++ wo) H → va_D A (([] : va_W) ++ wo) → va_S A s.heap H locs → lv_has ls 12 [] → cells + (0) ≤ 1129 → slots + (0) ≤ 6774 → W p l e ({ frames := 34, cells := 1129, slots := 6774, locals := 921 } : Room) s m [.ref a0].toArray below meth c H locs cells slots Q (F0 m 272 ls []) := by
    intro  σ wo H locs ls cells slots h hO hP hD hS hl hc1 hc2
    unfold wp_L_typed_b272 at h
    refine lv_iconst (v := 0) hx hb dL_typed_272 (by decide) ?_
    refine W.widen (k := 1129) (n := 6774) (by omega) (by omega) ?_
    rw [hQ]
    exact W.zret (ty := .boolean) (v := 0) hx hb hr (bo_n (v := 0) rfl) (fun t ht hW => ⟨⟨0, wo, rfl, ⟨_, h, hO⟩, by rw [ht]; exact P_r hP, D_r hD⟩, hS.F ht⟩) hS.2.2 dL_typed_273
  have wB_224 : ∀  (σ : AB) (wo : va_W) (H : Heap) (locs : List Loc) (ls : Array Slot) (cells slots : Nat), wp_L_typed_b224 K  σ → OB cT a0 σ wo → va_P (dC, dI) vwCl (([] : va_W) ++ wo) H → va_D A (([] : va_W) ++ wo) → va_S A s.heap H locs → lv_has ls 12 [] → cells + (0) ≤ 1129 → slots + (0) ≤ 6774 → W p l e ({ frames := 34, cells := 1129, slots := 6774, locals := 921 } : Room) s m [.ref a0].toArray below meth c H locs cells slots Q (F0 m 224 ls []) := by
    intro  σ wo H locs ls cells slots h hO hP hD hS hl hc1 hc2
    unfold wp_L_typed_b224 at h
    refine lv_iconst (v := 0) hx hb dL_typed_224 (by decide) ?_
    refine W.widen (k := 1129) (n := 6774) (by omega) (by omega) ?_
    rw [hQ]
    exact W.zret (ty := .boolean) (v := 0) hx hb hr (bo_n (v := 0) rfl) (fun t ht hW => ⟨⟨0, wo, rfl, ⟨_, h, hO⟩, by rw [ht]; exact P_r hP, D_r hD⟩, hS.F ht⟩) hS.2.2 dL_typed_225
  have wB_10 : ∀ (n_10 : Nat), ∀ (x1_10 : Int32) (x2_10 : Int32) (x3_10 : Int32) (σ : AB) (wo : va_W) (H : Heap) (locs : List Loc) (ls : Array Slot) (cells slots : Nat), wp_L_typed_b10 K n_10 x1_10 x2_10 x3_10 σ → OB cT a0 σ wo → va_P (dC, dI) vwCl (([] : va_W) ++ wo) H → va_D A (([] : va_W) ++ wo) → va_S A s.heap H locs → lv_has ls 12 [(0, .ref a0), (1, .int x1_10), (2, .int x2_10), (3, .int x3_10)] → cells + (8 + n_10 * 224) ≤ 1129 → slots + (48 + n_10 * 1344) ≤ 6774 → W p l e ({ frames := 34, cells := 1129, slots := 6774, locals := 921 } : Room) s m [.ref a0].toArray below meth c H locs cells slots Q (F0 m 10 ls []) := by
    intro n_10
    induction n_10 with
    | zero =>
      intro x1_10 x2_10 x3_10 σ wo H locs ls cells slots h hO hP hD hS hl hc1 hc2
      exact False.elim h
    | succ n_10 ih_10 =>
      have wB_274 : ∀ (x1_274 : Int32) (x2_274 : Int32) (x3_274 : Int32) (σ : AB) (wo : va_W) (H : Heap) (locs : List Loc) (ls : Array Slot) (cells slots : Nat), wp_L_typed_b274 K (wp_L_typed_b10 K n_10) x1_274 x2_274 x3_274 σ → OB cT a0 σ wo → va_P (dC, dI) vwCl (([] : va_W) ++ wo) H → va_D A (([] : va_W) ++ wo) → va_S A s.heap H locs → lv_has ls 12 [(0, .ref a0), (1, .int x1_274), (2, .int x2_274), (3, .int x3_274)] → cells + (8 + n_10 * 224) ≤ 1129 → slots + (48 + n_10 * 1344) ≤ 6774 → W p l e ({ frames := 34, cells := 1129, slots := 6774, locals := 921 } : Room) s m [.ref a0].toArray below meth c H locs cells slots Q (F0 m 274 ls []) := by
        intro x1_274 x2_274 x3_274 σ wo H locs ls cells slots h hO hP hD hS hl hc1 hc2
        unfold wp_L_typed_b274 at h
        obtain ⟨v1, e_v⟩ : ∃ y : Int32, y = x3_274 + 1 := ⟨_, rfl⟩
        have h := h v1 e_v
        refine lv_iinc (v := v1) (lv' := [(3, .int v1), (0, .ref a0), (1, .int x1_274), (2, .int x2_274)]) hx hb dL_typed_274 hl (k := 3) rfl (by rw [e_v]; rfl) (by decide) rfl (fun ls hl => ?_)
        refine lv_goto (tgt := 10) hx hb dL_typed_277 (by decide) ?_
        exact ih_10 x1_274 x2_274 v1 σ _ _ _ _ _ _ h hO hP hD hS (lv_sub hl [1, 2, 3, 0] rfl) (by omega) (by omega)
      have wB_115 : ∀ (n_115 : Nat), ∀ (x1_115 : Int32) (x2_115 : Int32) (x3_115 : Int32) (x4_115 : Int32) (x5_115 : Int32) (x7_115 : Int32) (x8_115 : Int32) (σ : AB) (wo : va_W) (H : Heap) (locs : List Loc) (ls : Array Slot) (cells slots : Nat), wp_L_typed_b115 K (wp_L_typed_b10 K n_10) n_115 x1_115 x2_115 x3_115 x4_115 x5_115 x7_115 x8_115 σ → OB cT a0 σ wo → va_P (dC, dI) vwCl (([] : va_W) ++ wo) H → va_D A (([] : va_W) ++ wo) → va_S A s.heap H locs → lv_has ls 12 [(0, .ref a0), (1, .int x1_115), (2, .int x2_115), (3, .int x3_115), (4, .int x4_115), (5, .int x5_115), (7, .int x7_115), (8, .int x8_115)] → cells + (12 + n_10 * 224 + n_115 * 8) ≤ 1129 → slots + (72 + n_10 * 1344 + n_115 * 48) ≤ 6774 → W p l e ({ frames := 34, cells := 1129, slots := 6774, locals := 921 } : Room) s m [.ref a0].toArray below meth c H locs cells slots Q (F0 m 115 ls []) := by
        intro n_115
        induction n_115 with
        | zero =>
          intro x1_115 x2_115 x3_115 x4_115 x5_115 x7_115 x8_115 σ wo H locs ls cells slots h hO hP hD hS hl hc1 hc2
          exact False.elim h
        | succ n_115 ih_115 =>
          have wB_229 : ∀ (x1_229 : Int32) (x2_229 : Int32) (x3_229 : Int32) (x4_229 : Int32) (x5_229 : Int32) (x7_229 : Int32) (x8_229 : Int32) (σ : AB) (wo : va_W) (H : Heap) (locs : List Loc) (ls : Array Slot) (cells slots : Nat), wp_L_typed_b229 K (wp_L_typed_b10 K n_10) (wp_L_typed_b115 K (wp_L_typed_b10 K n_10) n_115) x1_229 x2_229 x3_229 x4_229 x5_229 x7_229 x8_229 σ → OB cT a0 σ wo → va_P (dC, dI) vwCl (([] : va_W) ++ wo) H → va_D A (([] : va_W) ++ wo) → va_S A s.heap H locs → lv_has ls 12 [(0, .ref a0), (1, .int x1_229), (2, .int x2_229), (3, .int x3_229), (4, .int x4_229), (5, .int x5_229), (7, .int x7_229), (8, .int x8_229)] → cells + (12 + n_10 * 224 + n_115 * 8) ≤ 1129 → slots + (72 + n_10 * 1344 + n_115 * 48) ≤ 6774 → W p l e ({ frames := 34, cells := 1129, slots := 6774, locals := 921 } : Room) s m [.ref a0].toArray below meth c H locs cells slots Q (F0 m 229 ls []) := by
            intro x1_229 x2_229 x3_229 x4_229 x5_229 x7_229 x8_229 σ wo H locs ls cells slots h hO hP hD hS hl hc1 hc2
            unfold wp_L_typed_b229 at h
            obtain ⟨v2, e_v⟩ : ∃ y : Int32, y = x8_229 + 1 := ⟨_, rfl⟩
            have h := h v2 e_v
            refine lv_iinc (v := v2) (lv' := [(8, .int v2), (0, .ref a0), (1, .int x1_229), (2, .int x2_229), (3, .int x3_229), (4, .int x4_229), (5, .int x5_229), (7, .int x7_229)]) hx hb dL_typed_229 hl (k := 7) rfl (by rw [e_v]; rfl) (by decide) rfl (fun ls hl => ?_)
            refine lv_goto (tgt := 115) hx hb dL_typed_232 (by decide) ?_
            exact ih_115 x1_229 x2_229 x3_229 x4_229 x5_229 x7_229 v2 σ _ _ _ _ _ _ h hO hP hD hS (lv_sub hl [1, 2, 3, 4, 5, 6, 7, 0] rfl) (by omega) (by omega)
          have wB_226 : ∀ (x1_226 : Int32) (x2_226 : Int32) (x3_226 : Int32) (x4_226 : Int32) (x5_226 : Int32) (x7_226 : Int32) (x8_226 : Int32) (σ : AB) (wo : va_W) (H : Heap) (locs : List Loc) (ls : Array Slot) (cells slots : Nat), wp_L_typed_b226 K (wp_L_typed_b10 K n_10) (wp_L_typed_b115 K (wp_L_typed_b10 K n_10) n_115) x1_226 x2_226 x3_226 x4_226 x5_226 x7_226 x8_226 σ → OB cT a0 σ wo → va_P (dC, dI) vwCl (([] : va_W) ++ wo) H → va_D A (([] : va_W) ++ wo) → va_S A s.heap H locs → lv_has ls 12 [(0, .ref a0), (1, .int x1_226), (2, .int x2_226), (3, .int x3_226), (4, .int x4_226), (5, .int x5_226), (7, .int x7_226), (8, .int x8_226)] → cells + (12 + n_10 * 224 + n_115 * 8) ≤ 1129 → slots + (72 + n_10 * 1344 + n_115 * 48) ≤ 6774 → W p l e ({ frames := 34, cells := 1129, slots := 6774, locals := 921 } : Room) s m [.ref a0].toArray below meth c H locs cells slots Q (F0 m 226 ls []) := by
            intro x1_226 x2_226 x3_226 x4_226 x5_226 x7_226 x8_226 σ wo H locs ls cells slots h hO hP hD hS hl hc1 hc2
            unfold wp_L_typed_b226 at h
            obtain ⟨v3, e_v⟩ : ∃ y : Int32, y = x7_226 + 1 := ⟨_, rfl⟩
            have h := h v3 e_v
            refine lv_iinc (v := v3) (lv' := [(7, .int v3), (0, .ref a0), (1, .int x1_226), (2, .int x2_226), (3, .int x3_226), (4, .int x4_226), (5, .int x5_226), (8, .int x8_226)]) hx hb dL_typed_226 hl (k := 6) rfl (by rw [e_v]; rfl) (by decide) rfl (fun ls hl => ?_)
            exact wB_229 x1_226 x2_226 x3_226 x4_226 x5_226 v3 x8_226 σ _ _ _ _ _ _ h hO hP hD hS (lv_sub hl [1, 2, 3, 4, 5, 6, 0, 7] rfl) (by omega) (by omega)
          have wB_177 : ∀ (x1_177 : Int32) (x2_177 : Int32) (x3_177 : Int32) (x4_177 : Int32) (x5_177 : Int32) (x7_177 : Int32) (x8_177 : Int32) (x9_177 : Int32) (x10_177 : Int32) (s0_177 : Int32) (σ : AB) (wo : va_W) (H : Heap) (locs : List Loc) (ls : Array Slot) (cells slots : Nat), wp_L_typed_b177 K (wp_L_typed_b10 K n_10) (wp_L_typed_b115 K (wp_L_typed_b10 K n_10) n_115) x1_177 x2_177 x3_177 x4_177 x5_177 x7_177 x8_177 x9_177 x10_177 s0_177 σ → OB cT a0 σ wo → va_P (dC, dI) vwCl (([] : va_W) ++ wo) H → va_D A (([] : va_W) ++ wo) → va_S A s.heap H locs → lv_has ls 12 [(0, .ref a0), (1, .int x1_177), (2, .int x2_177), (3, .int x3_177), (4, .int x4_177), (5, .int x5_177), (7, .int x7_177), (8, .int x8_177), (9, .int x9_177), (10, .int x10_177)] → cells + (12 + n_10 * 224 + n_115 * 8) ≤ 1129 → slots + (72 + n_10 * 1344 + n_115 * 48) ≤ 6774 → W p l e ({ frames := 34, cells := 1129, slots := 6774, locals := 921 } : Room) s m [.ref a0].toArray below meth c H locs cells slots Q (F0 m 177 ls [.int s0_177]) := by
            intro x1_177 x2_177 x3_177 x4_177 x5_177 x7_177 x8_177 x9_177 x10_177 s0_177 σ wo H locs ls cells slots h hO hP hD hS hl hc1 hc2
            unfold wp_L_typed_b177 at h
            refine lv_istore (lv' := [(11, .int s0_177), (0, .ref a0), (1, .int x1_177), (2, .int x2_177), (3, .int x3_177), (4, .int x4_177), (5, .int x5_177), (7, .int x7_177), (8, .int x8_177), (9, .int x9_177), (10, .int x10_177)]) hx hb dL_typed_177 hl (by decide) rfl (fun ls hl => ?_)
            refine lv_iload hx hb dL_typed_179 (lv_at hl 0 rfl) ?_
            refine lv_if_eq (tgt := 208) hx hb dL_typed_181 (by decide) (fun c0 => ?_) (fun c0 => ?_)
            · have h := h.1 c0
              refine lv_iload hx hb dL_typed_208 (lv_at hl 9 rfl) ?_
              refine lv_sipush (v := -1004) hx hb dL_typed_210 (by decide) ?_
              refine lv_icmp_ne (tgt := 224) hx hb dL_typed_213 (by decide) (fun c0 => ?_) (fun c0 => ?_)
              · have h := h.2 c0
                exact wB_224 σ _ _ _ _ _ _ h hO hP hD hS (lv_sub hl [] rfl) (by omega) (by omega)
              · have h := h.1 c0
                refine lv_iload hx hb dL_typed_216 (lv_at hl 10 rfl) ?_
                refine lv_sipush (v := -1004) hx hb dL_typed_218 (by decide) ?_
                refine lv_icmp_eq (tgt := 226) hx hb dL_typed_221 (by decide) (fun c0 => ?_) (fun c0 => ?_)
                · have h := h.1 c0
                  exact wB_226 x1_177 x2_177 x3_177 x4_177 x5_177 x7_177 x8_177 σ _ _ _ _ _ _ h hO hP hD hS (lv_sub hl [1, 2, 3, 4, 5, 6, 7, 8] rfl) (by omega) (by omega)
                · have h := h.2 c0
                  exact wB_224 σ _ _ _ _ _ _ h hO hP hD hS (lv_sub hl [] rfl) (by omega) (by omega)
            · have h := h.2 c0
              refine lv_iload hx hb dL_typed_184 (lv_at hl 9 rfl) ?_
              refine lv_iload hx hb dL_typed_186 (lv_at hl 10 rfl) ?_
              refine lv_icmp_gt (tgt := 224) hx hb dL_typed_188 (by decide) (fun c0 => ?_) (fun c0 => ?_)
              · have h := h.1 c0
                exact wB_224 σ _ _ _ _ _ _ h hO hP hD hS (lv_sub hl [] rfl) (by omega) (by omega)
              · have h := h.2 c0
                refine lv_iload hx hb dL_typed_191 (lv_at hl 9 rfl) ?_
                refine lv_bipush (v := -99) hx hb dL_typed_193 (by decide) ?_
                refine lv_icmp_lt (tgt := 224) hx hb dL_typed_195 (by decide) (fun c0 => ?_) (fun c0 => ?_)
                · have h := h.1 c0
                  exact wB_224 σ _ _ _ _ _ _ h hO hP hD hS (lv_sub hl [] rfl) (by omega) (by omega)
                · have h := h.2 c0
                  refine lv_iload hx hb dL_typed_198 (lv_at hl 10 rfl) ?_
                  refine lv_bipush (v := 99) hx hb dL_typed_200 (by decide) ?_
                  refine lv_icmp_le (tgt := 226) hx hb dL_typed_202 (by decide) (fun c0 => ?_) (fun c0 => ?_)
                  · have h := h.1 c0
                    exact wB_226 x1_177 x2_177 x3_177 x4_177 x5_177 x7_177 x8_177 σ _ _ _ _ _ _ h hO hP hD hS (lv_sub hl [1, 2, 3, 4, 5, 6, 7, 8] rfl) (by omega) (by omega)
                  · have h := h.2 c0
                    refine lv_goto (tgt := 224) hx hb dL_typed_205 (by decide) ?_
                    exact wB_224 σ _ _ _ _ _ _ h hO hP hD hS (lv_sub hl [] rfl) (by omega) (by omega)
          have wB_176 : ∀ (x1_176 : Int32) (x2_176 : Int32) (x3_176 : Int32) (x4_176 : Int32) (x5_176 : Int32) (x7_176 : Int32) (x8_176 : Int32) (x9_176 : Int32) (x10_176 : Int32) (σ : AB) (wo : va_W) (H : Heap) (locs : List Loc) (ls : Array Slot) (cells slots : Nat), wp_L_typed_b176 K (wp_L_typed_b10 K n_10) (wp_L_typed_b115 K (wp_L_typed_b10 K n_10) n_115) x1_176 x2_176 x3_176 x4_176 x5_176 x7_176 x8_176 x9_176 x10_176 σ → OB cT a0 σ wo → va_P (dC, dI) vwCl (([] : va_W) ++ wo) H → va_D A (([] : va_W) ++ wo) → va_S A s.heap H locs → lv_has ls 12 [(0, .ref a0), (1, .int x1_176), (2, .int x2_176), (3, .int x3_176), (4, .int x4_176), (5, .int x5_176), (7, .int x7_176), (8, .int x8_176), (9, .int x9_176), (10, .int x10_176)] → cells + (12 + n_10 * 224 + n_115 * 8) ≤ 1129 → slots + (72 + n_10 * 1344 + n_115 * 48) ≤ 6774 → W p l e ({ frames := 34, cells := 1129, slots := 6774, locals := 921 } : Room) s m [.ref a0].toArray below meth c H locs cells slots Q (F0 m 176 ls []) := by
            intro x1_176 x2_176 x3_176 x4_176 x5_176 x7_176 x8_176 x9_176 x10_176 σ wo H locs ls cells slots h hO hP hD hS hl hc1 hc2
            unfold wp_L_typed_b176 at h
            refine lv_iconst (v := 0) hx hb dL_typed_176 (by decide) ?_
            exact wB_177 x1_176 x2_176 x3_176 x4_176 x5_176 x7_176 x8_176 x9_176 x10_176 (0 : Int32) σ _ _ _ _ _ _ h hO hP hD hS (lv_sub hl [0, 1, 2, 3, 4, 5, 6, 7, 8, 9] rfl) (by omega) (by omega)
          intro x1_115 x2_115 x3_115 x4_115 x5_115 x7_115 x8_115 σ wo H locs ls cells slots h hO hP hD hS hl hc1 hc2
          rw [wp_L_typed_b115] at h
          refine lv_iload hx hb dL_typed_115 (lv_at hl 7 rfl) ?_
          refine lv_aload_n hx hb dL_typed_117 rfl (lv_at hl 0 rfl) ?_
          refine lv_iload_n hx hb dL_typed_118 rfl (lv_at hl 3 rfl) ?_
          refine lv_iconst (v := 0) hx hb dL_typed_119 (by decide) ?_
          refine coI (vx_runSW (As := [.ref a0, .int x3_115, .int 0]) (rest := [.int x8_115]) ⟨hx, hb, hml, hown, hta⟩ (oc_L_spellOf l hl9 dC dI cT hO (P_r hP) ((D_r hD).weaken (fun _ _ _ _ => trivial))) (cW hta lm_L_247 mw_L_spellOf ⟨(Nat.le_of_ble_eq_true rfl), (Nat.le_of_ble_eq_true rfl)⟩) ⟨fbU, fun U hU hW => ⟨rfl, hU, va_K.moved hW.alike hK, XS.call hX hS hU hW (freeO hD hS hA), hN.warm hW, ZS.call hZ hS hU hW (freeO hD hS hA), LT.call hT hS hU hW (freeO hD hS hA)⟩⟩ rfl rfl hl.1 rfl (lv_room (Nat.le_of_ble_eq_true rfl)) dL_typed_120 ⟨by show _ ≤ (1129 : Nat); omega, by show _ ≤ (6774 : Nat); omega⟩) hS hA hP hD (fun r4 wo H locs hw hP hD hS => ?_)
          obtain ⟨hr9, hO⟩ := hw
          have h := h r4 hr9
          refine lv_icmp_ge (tgt := 235) hx hb dL_typed_123 (by decide) (fun c0 => ?_) (fun c0 => ?_)
          · have h := h.1 c0
            refine lv_iload hx hb dL_typed_235 (lv_at hl 6 rfl) ?_
            refine lv_iload hx hb dL_typed_237 (lv_at hl 5 rfl) ?_
            refine lv_icmp_ne (tgt := 272) hx hb dL_typed_239 (by decide) (fun c0 => ?_) (fun c0 => ?_)
            · have h := h.2 c0
              exact wB_272 σ _ _ _ _ _ _ h hO hP hD hS (lv_sub hl [] rfl) (by omega) (by omega)
            · have h := h.1 c0
              refine lv_aload_n hx hb dL_typed_242 rfl (lv_at hl 0 rfl) ?_
              refine lv_iload_n hx hb dL_typed_243 rfl (lv_at hl 3 rfl) ?_
              refine lv_iload hx hb dL_typed_244 (lv_at hl 5 rfl) ?_
              refine lv_iconst (v := 1) hx hb dL_typed_246 (by decide) ?_
              refine coI (vx_runSW (As := [.ref a0, .int x3_115, .int x5_115, .int 1]) (rest := []) ⟨hx, hb, hml, hown, hta⟩ (oc_L_bound l hl9 dC dI cT hO (P_r hP) ((D_r hD).weaken (fun _ _ _ _ => trivial))) (cW hta lm_L_255 mw_L_bound ⟨(Nat.le_of_ble_eq_true rfl), (Nat.le_of_ble_eq_true rfl)⟩) ⟨fbU, fun U hU hW => ⟨rfl, hU, va_K.moved hW.alike hK, XS.call hX hS hU hW (freeO hD hS hA), hN.warm hW, ZS.call hZ hS hU hW (freeO hD hS hA), LT.call hT hS hU hW (freeO hD hS hA)⟩⟩ rfl rfl hl.1 rfl (lv_room (Nat.le_of_ble_eq_true rfl)) dL_typed_247 ⟨by show _ ≤ (1129 : Nat); omega, by show _ ≤ (6774 : Nat); omega⟩) hS hA hP hD (fun r5 wo H locs hw hP hD hS => ?_)
              obtain ⟨hr9, hO⟩ := hw
              have h := h r5 hr9
              refine lv_sipush (v := -1004) hx hb dL_typed_250 (by decide) ?_
              refine lv_icmp_ne (tgt := 272) hx hb dL_typed_253 (by decide) (fun c0 => ?_) (fun c0 => ?_)
              · have h := h.2 c0
                exact wB_272 σ _ _ _ _ _ _ h hO hP hD hS (lv_sub hl [] rfl) (by omega) (by omega)
              · have h := h.1 c0
                refine lv_iload hx hb dL_typed_256 (lv_at hl 4 rfl) ?_
                refine lv_iconst (v := 1) hx hb dL_typed_258 (by decide) ?_
                refine lv_icmp_ne (tgt := 274) hx hb dL_typed_259 (by decide) (fun c0 => ?_) (fun c0 => ?_)
                · have h := h.2 c0
                  exact wB_274 x1_115 x2_115 x3_115 σ _ _ _ _ _ _ h hO hP hD hS (lv_sub hl [0, 1, 2, 3] rfl) (by omega) (by omega)
                · have h := h.1 c0
                  refine lv_aload_n hx hb dL_typed_262 rfl (lv_at hl 0 rfl) ?_
                  refine lv_iload_n hx hb dL_typed_263 rfl (lv_at hl 3 rfl) ?_
                  refine coI (vx_runSW (As := [.ref a0, .int x3_115]) (rest := []) ⟨hx, hb, hml, hown, hta⟩ (oc_L_boils l hl9 dC dI cT hO (P_r hP) ((D_r hD).weaken (fun _ _ _ _ => trivial))) (cW hta lm_L_258 mw_L_boils ⟨(Nat.le_of_ble_eq_true rfl), (Nat.le_of_ble_eq_true rfl)⟩) ⟨fbU, fun U hU hW => ⟨rfl, hU, va_K.moved hW.alike hK, XS.call hX hS hU hW (freeO hD hS hA), hN.warm hW, ZS.call hZ hS hU hW (freeO hD hS hA), LT.call hT hS hU hW (freeO hD hS hA)⟩⟩ rfl rfl hl.1 rfl (lv_room (Nat.le_of_ble_eq_true rfl)) dL_typed_264 ⟨by show _ ≤ (1129 : Nat); omega, by show _ ≤ (6774 : Nat); omega⟩) hS hA hP hD (fun r6 wo H locs hw hP hD hS => ?_)
                  obtain ⟨hr9, hO⟩ := hw
                  have h := h r6 hr9
                  refine lv_bipush (v := -14) hx hb dL_typed_267 (by decide) ?_
                  refine lv_icmp_eq (tgt := 274) hx hb dL_typed_269 (by decide) (fun c0 => ?_) (fun c0 => ?_)
                  · have h := h.1 c0
                    exact wB_274 x1_115 x2_115 x3_115 σ _ _ _ _ _ _ h hO hP hD hS (lv_sub hl [0, 1, 2, 3] rfl) (by omega) (by omega)
                  · have h := h.2 c0
                    exact wB_272 σ _ _ _ _ _ _ h hO hP hD hS (lv_sub hl [] rfl) (by omega) (by omega)
          · have h := h.2 c0
            refine lv_aload_n hx hb dL_typed_126 rfl (lv_at hl 0 rfl) ?_
            refine lv_iload_n hx hb dL_typed_127 rfl (lv_at hl 3 rfl) ?_
            refine lv_iload hx hb dL_typed_128 (lv_at hl 7 rfl) ?_
            refine coI (vx_runSW (As := [.ref a0, .int x3_115, .int x8_115]) (rest := []) ⟨hx, hb, hml, hown, hta⟩ (oc_L_token l hl9 dC dI cT hO (P_r hP) ((D_r hD).weaken (fun _ _ _ _ => trivial))) (cW hta lm_L_236 mw_L_token ⟨(Nat.le_of_ble_eq_true rfl), (Nat.le_of_ble_eq_true rfl)⟩) ⟨fbU, fun U hU hW => ⟨rfl, hU, va_K.moved hW.alike hK, XS.call hX hS hU hW (freeO hD hS hA), hN.warm hW, ZS.call hZ hS hU hW (freeO hD hS hA), LT.call hT hS hU hW (freeO hD hS hA)⟩⟩ rfl rfl hl.1 rfl (lv_room (Nat.le_of_ble_eq_true rfl)) dL_typed_130 ⟨by show _ ≤ (1129 : Nat); omega, by show _ ≤ (6774 : Nat); omega⟩) hS hA hP hD (fun r7 wo H locs hw hP hD hS => ?_)
            obtain ⟨hr9, hO⟩ := hw
            have h := h r7 hr9
            refine lv_bipush (v := 61) hx hb dL_typed_133 (by decide) ?_
            refine lv_icmp_ne (tgt := 229) hx hb dL_typed_135 (by decide) (fun c0 => ?_) (fun c0 => ?_)
            · have h := h.2 c0
              exact wB_229 x1_115 x2_115 x3_115 x4_115 x5_115 x7_115 x8_115 σ _ _ _ _ _ _ h hO hP hD hS (lv_sub hl [0, 1, 2, 3, 4, 5, 6, 7] rfl) (by omega) (by omega)
            · have h := h.1 c0
              refine lv_aload_n hx hb dL_typed_138 rfl (lv_at hl 0 rfl) ?_
              refine lv_iload_n hx hb dL_typed_139 rfl (lv_at hl 3 rfl) ?_
              refine lv_iload hx hb dL_typed_140 (lv_at hl 6 rfl) ?_
              refine lv_iconst (v := 0) hx hb dL_typed_142 (by decide) ?_
              refine coI (vx_runSW (As := [.ref a0, .int x3_115, .int x7_115, .int 0]) (rest := []) ⟨hx, hb, hml, hown, hta⟩ (oc_L_bound l hl9 dC dI cT hO (P_r hP) ((D_r hD).weaken (fun _ _ _ _ => trivial))) (cW hta lm_L_255 mw_L_bound ⟨(Nat.le_of_ble_eq_true rfl), (Nat.le_of_ble_eq_true rfl)⟩) ⟨fbU, fun U hU hW => ⟨rfl, hU, va_K.moved hW.alike hK, XS.call hX hS hU hW (freeO hD hS hA), hN.warm hW, ZS.call hZ hS hU hW (freeO hD hS hA), LT.call hT hS hU hW (freeO hD hS hA)⟩⟩ rfl rfl hl.1 rfl (lv_room (Nat.le_of_ble_eq_true rfl)) dL_typed_143 ⟨by show _ ≤ (1129 : Nat); omega, by show _ ≤ (6774 : Nat); omega⟩) hS hA hP hD (fun r8 wo H locs hw hP hD hS => ?_)
              obtain ⟨hr9, hO⟩ := hw
              have h := h r8 hr9
              refine lv_istore (lv' := [(9, .int r8), (0, .ref a0), (1, .int x1_115), (2, .int x2_115), (3, .int x3_115), (4, .int x4_115), (5, .int x5_115), (7, .int x7_115), (8, .int x8_115)]) hx hb dL_typed_146 hl (by decide) rfl (fun ls hl => ?_)
              refine lv_aload_n hx hb dL_typed_148 rfl (lv_at hl 1 rfl) ?_
              refine lv_iload_n hx hb dL_typed_149 rfl (lv_at hl 4 rfl) ?_
              refine lv_iload hx hb dL_typed_150 (lv_at hl 7 rfl) ?_
              refine lv_iconst (v := 1) hx hb dL_typed_152 (by decide) ?_
              refine coI (vx_runSW (As := [.ref a0, .int x3_115, .int x7_115, .int 1]) (rest := []) ⟨hx, hb, hml, hown, hta⟩ (oc_L_bound l hl9 dC dI cT hO (P_r hP) ((D_r hD).weaken (fun _ _ _ _ => trivial))) (cW hta lm_L_255 mw_L_bound ⟨(Nat.le_of_ble_eq_true rfl), (Nat.le_of_ble_eq_true rfl)⟩) ⟨fbU, fun U hU hW => ⟨rfl, hU, va_K.moved hW.alike hK, XS.call hX hS hU hW (freeO hD hS hA), hN.warm hW, ZS.call hZ hS hU hW (freeO hD hS hA), LT.call hT hS hU hW (freeO hD hS hA)⟩⟩ rfl rfl hl.1 rfl (lv_room (Nat.le_of_ble_eq_true rfl)) dL_typed_153 ⟨by show _ ≤ (1129 : Nat); omega, by show _ ≤ (6774 : Nat); omega⟩) hS hA hP hD (fun r9 wo H locs hw hP hD hS => ?_)
              obtain ⟨hr9, hO⟩ := hw
              have h := h r9 hr9
              refine lv_istore (lv' := [(10, .int r9), (9, .int r8), (0, .ref a0), (1, .int x1_115), (2, .int x2_115), (3, .int x3_115), (4, .int x4_115), (5, .int x5_115), (7, .int x7_115), (8, .int x8_115)]) hx hb dL_typed_156 hl (by decide) rfl (fun ls hl => ?_)
              refine lv_iload hx hb dL_typed_158 (lv_at hl 6 rfl) ?_
              refine lv_iconst (v := 1) hx hb dL_typed_160 (by decide) ?_
              refine lv_icmp_ne (tgt := 176) hx hb dL_typed_161 (by decide) (fun c0 => ?_) (fun c0 => ?_)
              · have h := h.2 c0
                exact wB_176 x1_115 x2_115 x3_115 x4_115 x5_115 x7_115 x8_115 r8 r9 σ _ _ _ _ _ _ h hO hP hD hS (lv_sub hl [2, 3, 4, 5, 6, 7, 8, 9, 1, 0] rfl) (by omega) (by omega)
              · have h := h.1 c0
                refine lv_iload hx hb dL_typed_164 (lv_at hl 1 rfl) ?_
                refine lv_sipush (v := -1000) hx hb dL_typed_166 (by decide) ?_
                refine lv_icmp_le (tgt := 176) hx hb dL_typed_169 (by decide) (fun c0 => ?_) (fun c0 => ?_)
                · have h := h.1 c0
                  exact wB_176 x1_115 x2_115 x3_115 x4_115 x5_115 x7_115 x8_115 r8 r9 σ _ _ _ _ _ _ h hO hP hD hS (lv_sub hl [2, 3, 4, 5, 6, 7, 8, 9, 1, 0] rfl) (by omega) (by omega)
                · have h := h.2 c0
                  refine lv_iconst (v := 1) hx hb dL_typed_172 (by decide) ?_
                  refine lv_goto (tgt := 177) hx hb dL_typed_173 (by decide) ?_
                  exact wB_177 x1_115 x2_115 x3_115 x4_115 x5_115 x7_115 x8_115 r8 r9 (1 : Int32) σ _ _ _ _ _ _ h hO hP hD hS (lv_sub hl [2, 3, 4, 5, 6, 7, 8, 9, 1, 0] rfl) (by omega) (by omega)
      have wB_109 : ∀ (x1_109 : Int32) (x2_109 : Int32) (x3_109 : Int32) (x4_109 : Int32) (x5_109 : Int32) (σ : AB) (wo : va_W) (H : Heap) (locs : List Loc) (ls : Array Slot) (cells slots : Nat), wp_L_typed_b109 K (wp_L_typed_b10 K n_10) x1_109 x2_109 x3_109 x4_109 x5_109 σ → OB cT a0 σ wo → va_P (dC, dI) vwCl (([] : va_W) ++ wo) H → va_D A (([] : va_W) ++ wo) → va_S A s.heap H locs → lv_has ls 12 [(0, .ref a0), (1, .int x1_109), (2, .int x2_109), (3, .int x3_109), (4, .int x4_109), (5, .int x5_109)] → cells + (220 + n_10 * 224) ≤ 1129 → slots + (1320 + n_10 * 1344) ≤ 6774 → W p l e ({ frames := 34, cells := 1129, slots := 6774, locals := 921 } : Room) s m [.ref a0].toArray below meth c H locs cells slots Q (F0 m 109 ls []) := by
        intro x1_109 x2_109 x3_109 x4_109 x5_109 σ wo H locs ls cells slots h hO hP hD hS hl hc1 hc2
        unfold wp_L_typed_b109 at h
        refine lv_iconst (v := 0) hx hb dL_typed_109 (by decide) ?_
        refine lv_istore (lv' := [(7, .int 0), (0, .ref a0), (1, .int x1_109), (2, .int x2_109), (3, .int x3_109), (4, .int x4_109), (5, .int x5_109)]) hx hb dL_typed_110 hl (by decide) rfl (fun ls hl => ?_)
        refine lv_iconst (v := 0) hx hb dL_typed_112 (by decide) ?_
        refine lv_istore (lv' := [(8, .int 0), (7, .int 0), (0, .ref a0), (1, .int x1_109), (2, .int x2_109), (3, .int x3_109), (4, .int x4_109), (5, .int x5_109)]) hx hb dL_typed_113 hl (by decide) rfl (fun ls hl => ?_)
        exact wB_115 26 x1_109 x2_109 x3_109 x4_109 x5_109 (0 : Int32) (0 : Int32) σ _ _ _ _ _ _ h hO hP hD hS (lv_sub hl [2, 3, 4, 5, 6, 7, 1, 0] rfl) (by omega) (by omega)
      have wB_85 : ∀ (x1_85 : Int32) (x2_85 : Int32) (x3_85 : Int32) (x4_85 : Int32) (x5_85 : Int32) (x6_85 : Int32) (s0_85 : Int32) (s1_85 : Int32) (σ : AB) (wo : va_W) (H : Heap) (locs : List Loc) (ls : Array Slot) (cells slots : Nat), wp_L_typed_b85 K (wp_L_typed_b10 K n_10) x1_85 x2_85 x3_85 x4_85 x5_85 x6_85 s0_85 s1_85 σ → OB cT a0 σ wo → va_P (dC, dI) vwCl (([] : va_W) ++ wo) H → va_D A (([] : va_W) ++ wo) → va_S A s.heap H locs → lv_has ls 12 [(0, .ref a0), (1, .int x1_85), (2, .int x2_85), (3, .int x3_85), (4, .int x4_85), (5, .int x5_85), (6, .int x6_85)] → cells + (224 + n_10 * 224) ≤ 1129 → slots + (1344 + n_10 * 1344) ≤ 6774 → W p l e ({ frames := 34, cells := 1129, slots := 6774, locals := 921 } : Room) s m [.ref a0].toArray below meth c H locs cells slots Q (F0 m 85 ls [.int s0_85, .int s1_85]) := by
        intro x1_85 x2_85 x3_85 x4_85 x5_85 x6_85 s0_85 s1_85 σ wo H locs ls cells slots h hO hP hD hS hl hc1 hc2
        unfold wp_L_typed_b85 at h
        refine lv_icmp_ne (tgt := 107) hx hb dL_typed_85 (by decide) (fun c0 => ?_) (fun c0 => ?_)
        · have h := h.2 c0
          exact wB_107 σ _ _ _ _ _ _ h hO hP hD hS (lv_sub hl [] rfl) (by omega) (by omega)
        · have h := h.1 c0
          refine lv_iload hx hb dL_typed_88 (lv_at hl 6 rfl) ?_
          refine lv_if_ne (tgt := 109) hx hb dL_typed_90 (by decide) (fun c0 => ?_) (fun c0 => ?_)
          · have h := h.2 c0
            exact wB_109 x1_85 x2_85 x3_85 x4_85 x5_85 σ _ _ _ _ _ _ h hO hP hD hS (lv_sub hl [0, 1, 2, 3, 4, 5] rfl) (by omega) (by omega)
          · have h := h.1 c0
            refine lv_aload_n hx hb dL_typed_93 rfl (lv_at hl 0 rfl) ?_
            refine lv_iload_n hx hb dL_typed_94 rfl (lv_at hl 3 rfl) ?_
            refine coI (vx_runSW (As := [.ref a0, .int x3_85]) (rest := []) ⟨hx, hb, hml, hown, hta⟩ (oc_L_fault l hl9 dC dI cT hO (P_r hP) ((D_r hD).weaken (fun _ _ _ _ => trivial))) (cW hta lm_L_251 mw_L_fault ⟨(Nat.le_of_ble_eq_true rfl), (Nat.le_of_ble_eq_true rfl)⟩) ⟨fbU, fun U hU hW => ⟨rfl, hU, va_K.moved hW.alike hK, XS.call hX hS hU hW (freeO hD hS hA), hN.warm hW, ZS.call hZ hS hU hW (freeO hD hS hA), LT.call hT hS hU hW (freeO hD hS hA)⟩⟩ rfl rfl hl.1 rfl (lv_room (Nat.le_of_ble_eq_true rfl)) dL_typed_95 ⟨by show _ ≤ (1129 : Nat); omega, by show _ ≤ (6774 : Nat); omega⟩) hS hA hP hD (fun r10 wo H locs hw hP hD hS => ?_)
            obtain ⟨hr9, hO⟩ := hw
            have h := h r10 hr9
            refine lv_aload_n hx hb dL_typed_98 rfl (lv_at hl 0 rfl) ?_
            refine lv_iload_n hx hb dL_typed_99 rfl (lv_at hl 3 rfl) ?_
            refine lv_iconst (v := 0) hx hb dL_typed_100 (by decide) ?_
            refine coI (vx_runSW (As := [.ref a0, .int x3_85, .int 0]) (rest := [.int r10]) ⟨hx, hb, hml, hown, hta⟩ (oc_L_spellOf l hl9 dC dI cT hO (P_r hP) ((D_r hD).weaken (fun _ _ _ _ => trivial))) (cW hta lm_L_247 mw_L_spellOf ⟨(Nat.le_of_ble_eq_true rfl), (Nat.le_of_ble_eq_true rfl)⟩) ⟨fbU, fun U hU hW => ⟨rfl, hU, va_K.moved hW.alike hK, XS.call hX hS hU hW (freeO hD hS hA), hN.warm hW, ZS.call hZ hS hU hW (freeO hD hS hA), LT.call hT hS hU hW (freeO hD hS hA)⟩⟩ rfl rfl hl.1 rfl (lv_room (Nat.le_of_ble_eq_true rfl)) dL_typed_101 ⟨by show _ ≤ (1129 : Nat); omega, by show _ ≤ (6774 : Nat); omega⟩) hS hA hP hD (fun r11 wo H locs hw hP hD hS => ?_)
            obtain ⟨hr9, hO⟩ := hw
            have h := h r11 hr9
            refine lv_icmp_lt (tgt := 109) hx hb dL_typed_104 (by decide) (fun c0 => ?_) (fun c0 => ?_)
            · have h := h.1 c0
              exact wB_109 x1_85 x2_85 x3_85 x4_85 x5_85 σ _ _ _ _ _ _ h hO hP hD hS (lv_sub hl [0, 1, 2, 3, 4, 5] rfl) (by omega) (by omega)
            · have h := h.2 c0
              exact wB_107 σ _ _ _ _ _ _ h hO hP hD hS (lv_sub hl [] rfl) (by omega) (by omega)
      have wB_45 : ∀ (x1_45 : Int32) (x2_45 : Int32) (x3_45 : Int32) (x4_45 : Int32) (x5_45 : Int32) (s0_45 : Int32) (σ : AB) (wo : va_W) (H : Heap) (locs : List Loc) (ls : Array Slot) (cells slots : Nat), wp_L_typed_b45 K (wp_L_typed_b10 K n_10) x1_45 x2_45 x3_45 x4_45 x5_45 s0_45 σ → OB cT a0 σ wo → va_P (dC, dI) vwCl (([] : va_W) ++ wo) H → va_D A (([] : va_W) ++ wo) → va_S A s.heap H locs → lv_has ls 12 [(0, .ref a0), (1, .int x1_45), (2, .int x2_45), (3, .int x3_45), (4, .int x4_45), (5, .int x5_45)] → cells + (227 + n_10 * 224) ≤ 1129 → slots + (1362 + n_10 * 1344) ≤ 6774 → W p l e ({ frames := 34, cells := 1129, slots := 6774, locals := 921 } : Room) s m [.ref a0].toArray below meth c H locs cells slots Q (F0 m 45 ls [.int s0_45]) := by
        intro x1_45 x2_45 x3_45 x4_45 x5_45 s0_45 σ wo H locs ls cells slots h hO hP hD hS hl hc1 hc2
        unfold wp_L_typed_b45 at h
        refine lv_istore (lv' := [(6, .int s0_45), (0, .ref a0), (1, .int x1_45), (2, .int x2_45), (3, .int x3_45), (4, .int x4_45), (5, .int x5_45)]) hx hb dL_typed_45 hl (by decide) rfl (fun ls hl => ?_)
        refine lv_iload_n hx hb dL_typed_47 rfl (lv_at hl 2 rfl) ?_
        refine lv_iload hx hb dL_typed_48 (lv_at hl 5 rfl) ?_
        refine lv_iadd hx hb dL_typed_50 ?_
        refine lv_topi (fun v12 e_v => ?_)
        have h := h v12 e_v
        refine lv_istore_n (lv' := [(1, .int v12), (6, .int s0_45), (0, .ref a0), (2, .int x2_45), (3, .int x3_45), (4, .int x4_45), (5, .int x5_45)]) hx hb dL_typed_51 rfl hl (by decide) rfl (fun ls hl => ?_)
        refine lv_iload hx hb dL_typed_52 (lv_at hl 5 rfl) ?_
        refine lv_aload_n hx hb dL_typed_54 rfl (lv_at hl 2 rfl) ?_
        refine lv_iload_n hx hb dL_typed_55 rfl (lv_at hl 4 rfl) ?_
        refine coI (vx_runSW (As := [.ref a0, .int x3_45]) (rest := [.int x4_45]) ⟨hx, hb, hml, hown, hta⟩ (oc_L_typesAgain l hl9 dC dI cT hO (P_r hP) ((D_r hD).weaken (fun _ _ _ _ => trivial))) (cW hta lm_L_253 mw_L_typesAgain ⟨(Nat.le_of_ble_eq_true rfl), (Nat.le_of_ble_eq_true rfl)⟩) ⟨fbU, fun U hU hW => ⟨rfl, hU, va_K.moved hW.alike hK, XS.call hX hS hU hW (freeO hD hS hA), hN.warm hW, ZS.call hZ hS hU hW (freeO hD hS hA), LT.call hT hS hU hW (freeO hD hS hA)⟩⟩ rfl rfl hl.1 rfl (lv_room (Nat.le_of_ble_eq_true rfl)) dL_typed_56 ⟨by show _ ≤ (1129 : Nat); omega, by show _ ≤ (6774 : Nat); omega⟩) hS hA hP hD (fun r13 wo H locs hw hP hD hS => ?_)
        obtain ⟨hr9, hO⟩ := hw
        have h := h r13 hr9
        refine lv_icmp_ne (tgt := 107) hx hb dL_typed_59 (by decide) (fun c0 => ?_) (fun c0 => ?_)
        · have h := h.2 c0
          exact wB_107 σ _ _ _ _ _ _ h hO hP hD hS (lv_sub hl [] rfl) (by omega) (by omega)
        · have h := h.1 c0
          refine lv_iload hx hb dL_typed_62 (lv_at hl 5 rfl) ?_
          refine lv_aload_n hx hb dL_typed_64 rfl (lv_at hl 2 rfl) ?_
          refine lv_iload_n hx hb dL_typed_65 rfl (lv_at hl 4 rfl) ?_
          refine lv_iconst (v := 3) hx hb dL_typed_66 (by decide) ?_
          refine coI (vx_runSW (As := [.ref a0, .int x3_45, .int 3]) (rest := [.int x4_45]) ⟨hx, hb, hml, hown, hta⟩ (oc_L_spellOf l hl9 dC dI cT hO (P_r hP) ((D_r hD).weaken (fun _ _ _ _ => trivial))) (cW hta lm_L_247 mw_L_spellOf ⟨(Nat.le_of_ble_eq_true rfl), (Nat.le_of_ble_eq_true rfl)⟩) ⟨fbU, fun U hU hW => ⟨rfl, hU, va_K.moved hW.alike hK, XS.call hX hS hU hW (freeO hD hS hA), hN.warm hW, ZS.call hZ hS hU hW (freeO hD hS hA), LT.call hT hS hU hW (freeO hD hS hA)⟩⟩ rfl rfl hl.1 rfl (lv_room (Nat.le_of_ble_eq_true rfl)) dL_typed_67 ⟨by show _ ≤ (1129 : Nat); omega, by show _ ≤ (6774 : Nat); omega⟩) hS hA hP hD (fun r14 wo H locs hw hP hD hS => ?_)
          obtain ⟨hr9, hO⟩ := hw
          have h := h r14 hr9
          refine lv_icmp_ne (tgt := 107) hx hb dL_typed_70 (by decide) (fun c0 => ?_) (fun c0 => ?_)
          · have h := h.2 c0
            exact wB_107 σ _ _ _ _ _ _ h hO hP hD hS (lv_sub hl [] rfl) (by omega) (by omega)
          · have h := h.1 c0
            refine lv_iload hx hb dL_typed_73 (lv_at hl 5 rfl) ?_
            refine lv_iload hx hb dL_typed_75 (lv_at hl 1 rfl) ?_
            refine lv_if_eq (tgt := 84) hx hb dL_typed_77 (by decide) (fun c0 => ?_) (fun c0 => ?_)
            · have h := h.1 c0
              refine lv_iconst (v := 0) hx hb dL_typed_84 (by decide) ?_
              exact wB_85 v12 x2_45 x3_45 x4_45 x5_45 s0_45 (0 : Int32) x4_45 σ _ _ _ _ _ _ h hO hP hD hS (lv_sub hl [2, 0, 3, 4, 5, 6, 1] rfl) (by omega) (by omega)
            · have h := h.2 c0
              refine lv_iconst (v := 1) hx hb dL_typed_80 (by decide) ?_
              refine lv_goto (tgt := 85) hx hb dL_typed_81 (by decide) ?_
              exact wB_85 v12 x2_45 x3_45 x4_45 x5_45 s0_45 (1 : Int32) x4_45 σ _ _ _ _ _ _ h hO hP hD hS (lv_sub hl [2, 0, 3, 4, 5, 6, 1] rfl) (by omega) (by omega)
      intro x1_10 x2_10 x3_10 σ wo H locs ls cells slots h hO hP hD hS hl hc1 hc2
      rw [wp_L_typed_b10] at h
      refine lv_iload_n hx hb dL_typed_10 rfl (lv_at hl 3 rfl) ?_
      refine lv_iload_n hx hb dL_typed_11 rfl (lv_at hl 2 rfl) ?_
      refine lv_icmp_ge (tgt := 280) hx hb dL_typed_12 (by decide) (fun c0 => ?_) (fun c0 => ?_)
      · have h := h.1 c0
        refine lv_aload_n hx hb dL_typed_280 rfl (lv_at hl 0 rfl) ?_
        refine coI (va_runV (As := []) (rest := []) ⟨hx, hb, hml, hown, hta⟩ (oc_X11_typed l hl9 dC dI cT hO (P_r hP) ((D_r hD).weaken (fun _ _ _ _ => trivial))) (cV hta lm_L_260 md_X11_typed ⟨(Nat.le_of_ble_eq_true rfl), (Nat.le_of_ble_eq_true rfl)⟩) ⟨fbU, recvO hK hO (P_r hP), fun U hU hW => ⟨rfl, hU, va_K.moved hW.alike hK, XS.call hX hS hU hW (freeO hD hS hA), hN.warm hW, ZS.call hZ hS hU hW (freeO hD hS hA), LT.call hT hS hU hW (freeO hD hS hA)⟩⟩ rfl rfl hl.1 rfl (lv_room (Nat.le_of_ble_eq_true rfl)) dL_typed_281 ⟨by show _ ≤ (1129 : Nat); omega, by show _ ≤ (6774 : Nat); omega⟩) hS hA hP hD (fun r15 wo H locs hw hP hD hS => ?_)
        obtain ⟨hr9, hO⟩ := hw
        have h := h r15 hr9
        refine lv_iload_n hx hb dL_typed_284 rfl (lv_at hl 1 rfl) ?_
        refine lv_icmp_ne (tgt := 361) hx hb dL_typed_285 (by decide) (fun c0 => ?_) (fun c0 => ?_)
        · have h := h.2 c0
          exact wB_361 σ _ _ _ _ _ _ h hO hP hD hS (lv_sub hl [] rfl) (by omega) (by omega)
        · have h := h.1 c0
          refine lv_aload_n hx hb dL_typed_288 rfl (lv_at hl 0 rfl) ?_
          refine lv_iconst (v := 2) hx hb dL_typed_289 (by decide) ?_
          obtain ⟨hq, h⟩ := h
          refine coI (va_runV (As := [.int 2]) (rest := []) ⟨hx, hb, hml, hown, hta⟩ (oc_X11_account l hl9 dC dI cT hO hq (P_r hP) ((D_r hD).weaken (fun _ _ _ _ => trivial))) (cV hta lm_L_229 md_X11_account ⟨(Nat.le_of_ble_eq_true rfl), (Nat.le_of_ble_eq_true rfl)⟩) ⟨fbU, recvO hK hO (P_r hP), fun U hU hW => ⟨rfl, hU, va_K.moved hW.alike hK, XS.call hX hS hU hW (freeO hD hS hA), hN.warm hW, ZS.call hZ hS hU hW (freeO hD hS hA), LT.call hT hS hU hW (freeO hD hS hA)⟩⟩ rfl rfl hl.1 rfl (lv_room (Nat.le_of_ble_eq_true rfl)) dL_typed_290 ⟨by show _ ≤ (1129 : Nat); omega, by show _ ≤ (6774 : Nat); omega⟩) hS hA hP hD (fun r16 wo H locs hw hP hD hS => ?_)
          obtain ⟨hr9, hO⟩ := hw
          have h := h r16 hr9
          refine lv_iload_n hx hb dL_typed_293 rfl (lv_at hl 1 rfl) ?_
          refine lv_icmp_ne (tgt := 361) hx hb dL_typed_294 (by decide) (fun c0 => ?_) (fun c0 => ?_)
          · have h := h.2 c0
            exact wB_361 σ _ _ _ _ _ _ h hO hP hD hS (lv_sub hl [] rfl) (by omega) (by omega)
          · have h := h.1 c0
            refine lv_aload_n hx hb dL_typed_297 rfl (lv_at hl 0 rfl) ?_
            refine lv_iload_n hx hb dL_typed_298 rfl (lv_at hl 2 rfl) ?_
            refine coI (vx_runSW (As := [.ref a0, .int x2_10]) (rest := []) ⟨hx, hb, hml, hown, hta⟩ (oc_L_types l hl9 dC dI cT hO (P_r hP) ((D_r hD).weaken (fun _ _ _ _ => trivial))) (cW hta lm_L_249 mw_L_types ⟨(Nat.le_of_ble_eq_true rfl), (Nat.le_of_ble_eq_true rfl)⟩) ⟨fbU, fun U hU hW => ⟨rfl, hU, va_K.moved hW.alike hK, XS.call hX hS hU hW (freeO hD hS hA), hN.warm hW, ZS.call hZ hS hU hW (freeO hD hS hA), LT.call hT hS hU hW (freeO hD hS hA)⟩⟩ rfl rfl hl.1 rfl (lv_room (Nat.le_of_ble_eq_true rfl)) dL_typed_299 ⟨by show _ ≤ (1129 : Nat); omega, by show _ ≤ (6774 : Nat); omega⟩) hS hA hP hD (fun r17 wo H locs hw hP hD hS => ?_)
            obtain ⟨hr9, hO⟩ := hw
            have h := h r17 hr9
            refine lv_bipush (v := -11) hx hb dL_typed_302 (by decide) ?_
            refine lv_icmp_ne (tgt := 361) hx hb dL_typed_304 (by decide) (fun c0 => ?_) (fun c0 => ?_)
            · have h := h.2 c0
              exact wB_361 σ _ _ _ _ _ _ h hO hP hD hS (lv_sub hl [] rfl) (by omega) (by omega)
            · have h := h.1 c0
              refine lv_aload_n hx hb dL_typed_307 rfl (lv_at hl 0 rfl) ?_
              refine lv_iconst (v := -1) hx hb dL_typed_308 (by decide) ?_
              refine coI (vx_runSW (As := [.ref a0, .int (-1)]) (rest := []) ⟨hx, hb, hml, hown, hta⟩ (oc_L_typesAgain l hl9 dC dI cT hO (P_r hP) ((D_r hD).weaken (fun _ _ _ _ => trivial))) (cW hta lm_L_253 mw_L_typesAgain ⟨(Nat.le_of_ble_eq_true rfl), (Nat.le_of_ble_eq_true rfl)⟩) ⟨fbU, fun U hU hW => ⟨rfl, hU, va_K.moved hW.alike hK, XS.call hX hS hU hW (freeO hD hS hA), hN.warm hW, ZS.call hZ hS hU hW (freeO hD hS hA), LT.call hT hS hU hW (freeO hD hS hA)⟩⟩ rfl rfl hl.1 rfl (lv_room (Nat.le_of_ble_eq_true rfl)) dL_typed_309 ⟨by show _ ≤ (1129 : Nat); omega, by show _ ≤ (6774 : Nat); omega⟩) hS hA hP hD (fun r18 wo H locs hw hP hD hS => ?_)
              obtain ⟨hr9, hO⟩ := hw
              have h := h r18 hr9
              refine lv_bipush (v := -11) hx hb dL_typed_312 (by decide) ?_
              refine lv_icmp_ne (tgt := 361) hx hb dL_typed_314 (by decide) (fun c0 => ?_) (fun c0 => ?_)
              · have h := h.2 c0
                exact wB_361 σ _ _ _ _ _ _ h hO hP hD hS (lv_sub hl [] rfl) (by omega) (by omega)
              · have h := h.1 c0
                refine lv_aload_n hx hb dL_typed_317 rfl (lv_at hl 0 rfl) ?_
                refine lv_iload_n hx hb dL_typed_318 rfl (lv_at hl 2 rfl) ?_
                refine coI (vx_runSW (As := [.ref a0, .int x2_10]) (rest := []) ⟨hx, hb, hml, hown, hta⟩ (oc_L_fault l hl9 dC dI cT hO (P_r hP) ((D_r hD).weaken (fun _ _ _ _ => trivial))) (cW hta lm_L_251 mw_L_fault ⟨(Nat.le_of_ble_eq_true rfl), (Nat.le_of_ble_eq_true rfl)⟩) ⟨fbU, fun U hU hW => ⟨rfl, hU, va_K.moved hW.alike hK, XS.call hX hS hU hW (freeO hD hS hA), hN.warm hW, ZS.call hZ hS hU hW (freeO hD hS hA), LT.call hT hS hU hW (freeO hD hS hA)⟩⟩ rfl rfl hl.1 rfl (lv_room (Nat.le_of_ble_eq_true rfl)) dL_typed_319 ⟨by show _ ≤ (1129 : Nat); omega, by show _ ≤ (6774 : Nat); omega⟩) hS hA hP hD (fun r19 wo H locs hw hP hD hS => ?_)
                obtain ⟨hr9, hO⟩ := hw
                have h := h r19 hr9
                refine lv_bipush (v := -11) hx hb dL_typed_322 (by decide) ?_
                refine lv_icmp_ne (tgt := 361) hx hb dL_typed_324 (by decide) (fun c0 => ?_) (fun c0 => ?_)
                · have h := h.2 c0
                  exact wB_361 σ _ _ _ _ _ _ h hO hP hD hS (lv_sub hl [] rfl) (by omega) (by omega)
                · have h := h.1 c0
                  refine lv_aload_n hx hb dL_typed_327 rfl (lv_at hl 0 rfl) ?_
                  refine lv_iload_n hx hb dL_typed_328 rfl (lv_at hl 2 rfl) ?_
                  refine lv_iconst (v := 0) hx hb dL_typed_329 (by decide) ?_
                  refine lv_iconst (v := 1) hx hb dL_typed_330 (by decide) ?_
                  refine coI (vx_runSW (As := [.ref a0, .int x2_10, .int 0, .int 1]) (rest := []) ⟨hx, hb, hml, hown, hta⟩ (oc_L_bound l hl9 dC dI cT hO (P_r hP) ((D_r hD).weaken (fun _ _ _ _ => trivial))) (cW hta lm_L_255 mw_L_bound ⟨(Nat.le_of_ble_eq_true rfl), (Nat.le_of_ble_eq_true rfl)⟩) ⟨fbU, fun U hU hW => ⟨rfl, hU, va_K.moved hW.alike hK, XS.call hX hS hU hW (freeO hD hS hA), hN.warm hW, ZS.call hZ hS hU hW (freeO hD hS hA), LT.call hT hS hU hW (freeO hD hS hA)⟩⟩ rfl rfl hl.1 rfl (lv_room (Nat.le_of_ble_eq_true rfl)) dL_typed_331 ⟨by show _ ≤ (1129 : Nat); omega, by show _ ≤ (6774 : Nat); omega⟩) hS hA hP hD (fun r20 wo H locs hw hP hD hS => ?_)
                  obtain ⟨hr9, hO⟩ := hw
                  have h := h r20 hr9
                  refine lv_sipush (v := -1001) hx hb dL_typed_334 (by decide) ?_
                  refine lv_icmp_ne (tgt := 361) hx hb dL_typed_337 (by decide) (fun c0 => ?_) (fun c0 => ?_)
                  · have h := h.2 c0
                    exact wB_361 σ _ _ _ _ _ _ h hO hP hD hS (lv_sub hl [] rfl) (by omega) (by omega)
                  · have h := h.1 c0
                    refine lv_iload_n hx hb dL_typed_340 rfl (lv_at hl 2 rfl) ?_
                    refine lv_if_eq (tgt := 357) hx hb dL_typed_341 (by decide) (fun c0 => ?_) (fun c0 => ?_)
                    · have h := h.1 c0
                      exact wB_357 σ _ _ _ _ _ _ h hO hP hD hS (lv_sub hl [] rfl) (by omega) (by omega)
                    · have h := h.2 c0
                      refine lv_aload_n hx hb dL_typed_344 rfl (lv_at hl 0 rfl) ?_
                      obtain ⟨hq, h⟩ := h
                      refine coF (va_runV (As := []) (rest := []) ⟨hx, hb, hml, hown, hta⟩ (oc_X11_typedShare l hl9 dC dI cT hO hq (P_r hP) ((D_r hD).weaken (fun _ _ _ _ => trivial))) (cV hta lm_L_262 md_X11_typedShare ⟨(Nat.le_of_ble_eq_true rfl), (Nat.le_of_ble_eq_true rfl)⟩) ⟨fbU, recvO hK hO (P_r hP), fun U hU hW => ⟨rfl, hU, va_K.moved hW.alike hK, XS.call hX hS hU hW (freeO hD hS hA), hN.warm hW, ZS.call hZ hS hU hW (freeO hD hS hA), LT.call hT hS hU hW (freeO hD hS hA)⟩⟩ rfl rfl hl.1 rfl (lv_room (Nat.le_of_ble_eq_true rfl)) dL_typed_345 ⟨by show _ ≤ (1129 : Nat); omega, by show _ ≤ (6774 : Nat); omega⟩) hS hA hP hD (fun r21 wo H locs hw hP hD hS => ?_)
                      obtain ⟨hr9, hO⟩ := hw
                      have h := h r21 hr9
                      refine lv_iload_n hx hb dL_typed_348 rfl (lv_at hl 1 rfl) ?_
                      refine lv_i2f hx hb dL_typed_349 ?_
                      refine lv_iload_n hx hb dL_typed_350 rfl (lv_at hl 2 rfl) ?_
                      refine lv_i2f hx hb dL_typed_351 ?_
                      obtain ⟨hc, h⟩ := h
                      refine lv_fdiv hx hb dL_typed_352 (n32_n hc) ?_
                      refine lv_fcmp hx hb dL_typed_353 ?_
                      refine lv_if_ne (tgt := 361) hx hb dL_typed_354 (by decide) (fun c0 => ?_) (fun c0 => ?_)
                      · have h := h.2 c0
                        exact wB_361 σ _ _ _ _ _ _ h hO hP hD hS (lv_sub hl [] rfl) (by omega) (by omega)
                      · have h := h.1 c0
                        exact wB_357 σ _ _ _ _ _ _ h hO hP hD hS (lv_sub hl [] rfl) (by omega) (by omega)
      · have h := h.2 c0
        refine lv_aload_n hx hb dL_typed_15 rfl (lv_at hl 0 rfl) ?_
        refine lv_iload_n hx hb dL_typed_16 rfl (lv_at hl 3 rfl) ?_
        refine coI (vx_runSW (As := [.ref a0, .int x3_10]) (rest := []) ⟨hx, hb, hml, hown, hta⟩ (oc_L_types l hl9 dC dI cT hO (P_r hP) ((D_r hD).weaken (fun _ _ _ _ => trivial))) (cW hta lm_L_249 mw_L_types ⟨(Nat.le_of_ble_eq_true rfl), (Nat.le_of_ble_eq_true rfl)⟩) ⟨fbU, fun U hU hW => ⟨rfl, hU, va_K.moved hW.alike hK, XS.call hX hS hU hW (freeO hD hS hA), hN.warm hW, ZS.call hZ hS hU hW (freeO hD hS hA), LT.call hT hS hU hW (freeO hD hS hA)⟩⟩ rfl rfl hl.1 rfl (lv_room (Nat.le_of_ble_eq_true rfl)) dL_typed_17 ⟨by show _ ≤ (1129 : Nat); omega, by show _ ≤ (6774 : Nat); omega⟩) hS hA hP hD (fun r22 wo H locs hw hP hD hS => ?_)
        obtain ⟨hr9, hO⟩ := hw
        have h := h r22 hr9
        refine lv_istore (lv' := [(4, .int r22), (0, .ref a0), (1, .int x1_10), (2, .int x2_10), (3, .int x3_10)]) hx hb dL_typed_20 hl (by decide) rfl (fun ls hl => ?_)
        refine lv_aload_n hx hb dL_typed_22 rfl (lv_at hl 1 rfl) ?_
        refine lv_iload_n hx hb dL_typed_23 rfl (lv_at hl 4 rfl) ?_
        refine lv_iconst (v := 1) hx hb dL_typed_24 (by decide) ?_
        refine coI (vx_runSW (As := [.ref a0, .int x3_10, .int 1]) (rest := []) ⟨hx, hb, hml, hown, hta⟩ (oc_L_spellOf l hl9 dC dI cT hO (P_r hP) ((D_r hD).weaken (fun _ _ _ _ => trivial))) (cW hta lm_L_247 mw_L_spellOf ⟨(Nat.le_of_ble_eq_true rfl), (Nat.le_of_ble_eq_true rfl)⟩) ⟨fbU, fun U hU hW => ⟨rfl, hU, va_K.moved hW.alike hK, XS.call hX hS hU hW (freeO hD hS hA), hN.warm hW, ZS.call hZ hS hU hW (freeO hD hS hA), LT.call hT hS hU hW (freeO hD hS hA)⟩⟩ rfl rfl hl.1 rfl (lv_room (Nat.le_of_ble_eq_true rfl)) dL_typed_25 ⟨by show _ ≤ (1129 : Nat); omega, by show _ ≤ (6774 : Nat); omega⟩) hS hA hP hD (fun r23 wo H locs hw hP hD hS => ?_)
        obtain ⟨hr9, hO⟩ := hw
        have h := h r23 hr9
        refine lv_istore (lv' := [(5, .int r23), (4, .int r22), (0, .ref a0), (1, .int x1_10), (2, .int x2_10), (3, .int x3_10)]) hx hb dL_typed_28 hl (by decide) rfl (fun ls hl => ?_)
        refine lv_aload_n hx hb dL_typed_30 rfl (lv_at hl 2 rfl) ?_
        refine lv_iload_n hx hb dL_typed_31 rfl (lv_at hl 5 rfl) ?_
        refine coI (vx_runSW (As := [.ref a0, .int x3_10]) (rest := []) ⟨hx, hb, hml, hown, hta⟩ (oc_L_fault l hl9 dC dI cT hO (P_r hP) ((D_r hD).weaken (fun _ _ _ _ => trivial))) (cW hta lm_L_251 mw_L_fault ⟨(Nat.le_of_ble_eq_true rfl), (Nat.le_of_ble_eq_true rfl)⟩) ⟨fbU, fun U hU hW => ⟨rfl, hU, va_K.moved hW.alike hK, XS.call hX hS hU hW (freeO hD hS hA), hN.warm hW, ZS.call hZ hS hU hW (freeO hD hS hA), LT.call hT hS hU hW (freeO hD hS hA)⟩⟩ rfl rfl hl.1 rfl (lv_room (Nat.le_of_ble_eq_true rfl)) dL_typed_32 ⟨by show _ ≤ (1129 : Nat); omega, by show _ ≤ (6774 : Nat); omega⟩) hS hA hP hD (fun r24 wo H locs hw hP hD hS => ?_)
        obtain ⟨hr9, hO⟩ := hw
        have h := h r24 hr9
        refine lv_bipush (v := -14) hx hb dL_typed_35 (by decide) ?_
        refine lv_icmp_ne (tgt := 44) hx hb dL_typed_37 (by decide) (fun c0 => ?_) (fun c0 => ?_)
        · have h := h.2 c0
          refine lv_iconst (v := 0) hx hb dL_typed_44 (by decide) ?_
          exact wB_45 x1_10 x2_10 x3_10 r22 r23 (0 : Int32) σ _ _ _ _ _ _ h hO hP hD hS (lv_sub hl [2, 3, 4, 5, 1, 0] rfl) (by omega) (by omega)
        · have h := h.1 c0
          refine lv_iconst (v := 1) hx hb dL_typed_40 (by decide) ?_
          refine lv_goto (tgt := 45) hx hb dL_typed_41 (by decide) ?_
          exact wB_45 x1_10 x2_10 x3_10 r22 r23 (1 : Int32) σ _ _ _ _ _ _ h hO hP hD hS (lv_sub hl [2, 3, 4, 5, 1, 0] rfl) (by omega) (by omega)
  unfold wp_L_typed at h
  have hc1 : (0 : Nat) + 1129 ≤ 1129 := Nat.le_of_eq (Nat.zero_add _)
  have hc2 : (0 : Nat) + 6774 ≤ 6774 := Nat.le_of_eq (Nat.zero_add _)
  clear hP0 hD0 hAe
  obtain ⟨wo, e_w⟩ : ∃ z, z = W0 := ⟨W0, rfl⟩
  rw [← e_w] at hO hP hD
  clear e_w
  refine lv_iconst (v := 0) hx hb dL_typed_0 (by decide) ?_
  refine lv_istore_n (lv' := [(1, .int 0), (0, .ref a0)]) hx hb dL_typed_1 rfl hl (by decide) rfl (fun ls hl => ?_)
  refine lv_aload_n hx hb dL_typed_2 rfl (lv_at hl 1 rfl) ?_
  refine lv_iconst (v := 1) hx hb dL_typed_3 (by decide) ?_
  obtain ⟨hq, h⟩ := h
  refine coI (va_runV (As := [.int 1]) (rest := []) ⟨hx, hb, hml, hown, hta⟩ (oc_X11_account l hl9 dC dI cT hO hq (P_r hP) ((D_r hD).weaken (fun _ _ _ _ => trivial))) (cV hta lm_L_229 md_X11_account ⟨(Nat.le_of_ble_eq_true rfl), (Nat.le_of_ble_eq_true rfl)⟩) ⟨fbU, recvO hK hO (P_r hP), fun U hU hW => ⟨rfl, hU, va_K.moved hW.alike hK, XS.call hX hS hU hW (freeO hD hS hA), hN.warm hW, ZS.call hZ hS hU hW (freeO hD hS hA), LT.call hT hS hU hW (freeO hD hS hA)⟩⟩ rfl rfl hl.1 rfl (lv_room (Nat.le_of_ble_eq_true rfl)) dL_typed_4 ⟨by show _ ≤ (1129 : Nat); omega, by show _ ≤ (6774 : Nat); omega⟩) hS hA hP hD (fun r25 wo H locs hw hP hD hS => ?_)
  obtain ⟨hr9, hO⟩ := hw
  have h := h r25 hr9
  refine lv_istore_n (lv' := [(2, .int r25), (1, .int 0), (0, .ref a0)]) hx hb dL_typed_7 rfl hl (by decide) rfl (fun ls hl => ?_)
  refine lv_iconst (v := 0) hx hb dL_typed_8 (by decide) ?_
  refine lv_istore_n (lv' := [(3, .int 0), (2, .int r25), (1, .int 0), (0, .ref a0)]) hx hb dL_typed_9 rfl hl (by decide) rfl (fun ls hl => ?_)
  exact wB_10 5 (0 : Int32) r25 (0 : Int32) σ _ _ _ _ _ _ h hO hP hD hS (lv_sub hl [3, 2, 1, 0] rfl) (by omega) (by omega)
