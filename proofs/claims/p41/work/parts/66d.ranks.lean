/-! THE LAW's methods (gen/laws41.py) -/
def wp_L_ranks_b335 (K : (Int32 → AB → Prop))  (s0_335 : Int32) (σ : AB) : Prop :=
(bo s0_335 = true) ∧
K s0_335 σ
def wp_L_ranks_b334 (K : (Int32 → AB → Prop))   (σ : AB) : Prop :=
wp_L_ranks_b335 K (0 : Int32) σ
def wp_L_ranks_b247 (K : (Int32 → AB → Prop)) (k_123 : Int32 → Int32 → Int32 → Int32 → UInt64 → Int32 → AB → Prop) (x1_247 : Int32) (x3_247 : Int32) (x4_247 : Int32) (x6_247 : UInt64) (x8_247 : Int32) (s0_247 : Int32) (s1_247 : Int32) (σ : AB) : Prop :=
∀ v1 : Int32, v1 = (s1_247 + s0_247) →
(∃ n, n < σ.1.2.1 ∧ x8_247 = nI n) ∧
∀ r2 : Int32, r2 = f_bits σ.1 x8_247 →
(vn_sni2f r2 = false) ∧
(n64 (FP.f2d r2.toUInt32) = true) ∧
(n64 (FP.dadd x6_247 (FP.f2d r2.toUInt32)) = true) ∧
∀ v3 : UInt64, v3 = (FP.dadd x6_247 (FP.f2d r2.toUInt32)) →
∀ v4 : Int32, v4 = x8_247 + 1 →
k_123 x1_247 x3_247 x4_247 v1 v3 v4 σ
def wp_L_ranks_b226 (K : (Int32 → AB → Prop)) (k_123 : Int32 → Int32 → Int32 → Int32 → UInt64 → Int32 → AB → Prop) (x1_226 : Int32) (x3_226 : Int32) (x5_226 : Int32) (x6_226 : UInt64) (x8_226 : Int32) (x9_226 : Int32) (s0_226 : Int32) (s1_226 : Int32) (σ : AB) : Prop :=
∀ v5 : Int32, v5 = (s1_226 + s0_226) →
(x9_226 = 0 →
∀ r6 : Int32, r6 = f_of σ.1 x8_226 (3 : Int32) →
wp_L_ranks_b247 K k_123 x1_226 x3_226 v5 x6_226 x8_226 r6 x5_226 σ) ∧
(¬ x9_226 = 0 →
wp_L_ranks_b247 K k_123 x1_226 x3_226 v5 x6_226 x8_226 (0 : Int32) x5_226 σ)
def wp_L_ranks_b213 (K : (Int32 → AB → Prop)) (k_123 : Int32 → Int32 → Int32 → Int32 → UInt64 → Int32 → AB → Prop) (x1_213 : Int32) (x4_213 : Int32) (x5_213 : Int32) (x6_213 : UInt64) (x8_213 : Int32) (x9_213 : Int32) (s0_213 : Int32) (σ : AB) : Prop :=
(x9_213 = 0 →
wp_L_ranks_b226 K k_123 x1_213 s0_213 x5_213 x6_213 x8_213 x9_213 (0 : Int32) x4_213 σ) ∧
(¬ x9_213 = 0 →
wp_L_ranks_b226 K k_123 x1_213 s0_213 x5_213 x6_213 x8_213 x9_213 (1 : Int32) x4_213 σ)
def wp_L_ranks_b212 (K : (Int32 → AB → Prop)) (k_123 : Int32 → Int32 → Int32 → Int32 → UInt64 → Int32 → AB → Prop) (x1_212 : Int32) (x3_212 : Int32) (x4_212 : Int32) (x5_212 : Int32) (x6_212 : UInt64) (x8_212 : Int32) (x9_212 : Int32) (σ : AB) : Prop :=
wp_L_ranks_b213 K k_123 x1_212 x4_212 x5_212 x6_212 x8_212 x9_212 x3_212 σ
def wp_L_ranks_b195 (K : (Int32 → AB → Prop)) (k_123 : Int32 → Int32 → Int32 → Int32 → UInt64 → Int32 → AB → Prop) (x1_195 : Int32) (x3_195 : Int32) (x4_195 : Int32) (x5_195 : Int32) (x6_195 : UInt64) (x8_195 : Int32) (x9_195 : Int32) (s0_195 : Int32) (σ : AB) : Prop :=
(x9_195 = 0 →
(s0_195 = 0 →
wp_L_ranks_b212 K k_123 x1_195 x3_195 x4_195 x5_195 x6_195 x8_195 x9_195 σ) ∧
(¬ s0_195 = 0 →
wp_L_ranks_b213 K k_123 x1_195 x4_195 x5_195 x6_195 x8_195 x9_195 x8_195 σ)) ∧
(¬ x9_195 = 0 →
wp_L_ranks_b212 K k_123 x1_195 x3_195 x4_195 x5_195 x6_195 x8_195 x9_195 σ)
def wp_L_ranks_b190 (K : (Int32 → AB → Prop)) (k_123 : Int32 → Int32 → Int32 → Int32 → UInt64 → Int32 → AB → Prop) (x1_190 : Int32) (x3_190 : Int32) (x4_190 : Int32) (x5_190 : Int32) (x6_190 : UInt64) (x8_190 : Int32) (x9_190 : Int32) (σ : AB) : Prop :=
wp_L_ranks_b195 K k_123 x1_190 x3_190 x4_190 x5_190 x6_190 x8_190 x9_190 (1 : Int32) σ
def wp_L_ranks_b149 (K : (Int32 → AB → Prop)) (k_123 : Int32 → Int32 → Int32 → Int32 → UInt64 → Int32 → AB → Prop) (x1_149 : Int32) (x3_149 : Int32) (x4_149 : Int32) (x5_149 : Int32) (x6_149 : UInt64) (x8_149 : Int32) (s0_149 : Int32) (σ : AB) : Prop :=
∀ r7 : Int32, r7 = f_of σ.1 x8_149 (2 : Int32) →
∀ r8 : Int32, r8 = f_of σ.1 x8_149 (1 : Int32) →
∀ v9 : Int32, v9 = (r7 - r8) →
(x3_149 < 0 →
wp_L_ranks_b190 K k_123 x1_149 x3_149 x4_149 x5_149 x6_149 x8_149 s0_149 σ) ∧
(¬ x3_149 < 0 →
∀ r10 : Int32, r10 = f_of σ.1 x3_149 (2 : Int32) →
∀ r11 : Int32, r11 = f_of σ.1 x3_149 (1 : Int32) →
(v9 ≤ (r10 - r11) →
wp_L_ranks_b195 K k_123 x1_149 x3_149 x4_149 x5_149 x6_149 x8_149 s0_149 (0 : Int32) σ) ∧
(¬ v9 ≤ (r10 - r11) →
wp_L_ranks_b190 K k_123 x1_149 x3_149 x4_149 x5_149 x6_149 x8_149 s0_149 σ))
def wp_L_ranks_b123 (K : (Int32 → AB → Prop))  : Nat → Int32 → Int32 → Int32 → Int32 → UInt64 → Int32 → AB → Prop
  | 0, _, _, _, _, _, _, _ => False
  | n + 1, x1_123, x3_123, x4_123, x5_123, x6_123, x8_123, σ =>
    (∃ n, n < 8 ∧ (0 : Int32) = nI n) ∧
    ∀ r12 : Int32, r12 = f_account σ.1 σ.2.2.2.2.2.2 (0 : Int32) →
    (r12 ≤ x8_123 →
    ∀ r13 : Int32, r13 = f_ranked σ.1 x1_123 →
    (r13 = (-14) →
    ∀ r14 : Int32, r14 = f_widest σ.1 →
    (r14 = x3_123 →
    (∃ n, n < 8 ∧ (3 : Int32) = nI n) ∧
    ∀ r15 : Int32, r15 = f_account σ.1 σ.2.2.2.2.2.2 (3 : Int32) →
    (r15 = x4_123 →
    (∃ n, n < 8 ∧ (7 : Int32) = nI n) ∧
    ∀ r16 : Int32, r16 = f_account σ.1 σ.2.2.2.2.2.2 (7 : Int32) →
    (r16 = x5_123 →
    (σ.1.2.1 ≠ 0) ∧
    ∀ r17 : Int64, r17 = f_mean σ.1 →
    (∃ n, n < 8 ∧ (0 : Int32) = nI n) ∧
    ∀ r18 : Int32, r18 = f_account σ.1 σ.2.2.2.2.2.2 (0 : Int32) →
    (n64 (FP.ddiv x6_123 (FP.i2d r18)) = true) ∧
    (Jvm.FP.Core.DFin (FP.ddiv x6_123 (FP.i2d r18))) ∧
    ((lg_cmp r17 ((FP.ddiv x6_123 (FP.i2d r18)).toInt64)) = 0 →
    wp_L_ranks_b335 K (1 : Int32) σ) ∧
    (¬ (lg_cmp r17 ((FP.ddiv x6_123 (FP.i2d r18)).toInt64)) = 0 →
    wp_L_ranks_b334 K σ)) ∧
    (¬ r16 = x5_123 →
    wp_L_ranks_b334 K σ)) ∧
    (¬ r15 = x4_123 →
    wp_L_ranks_b334 K σ)) ∧
    (¬ r14 = x3_123 →
    wp_L_ranks_b334 K σ)) ∧
    (¬ r13 = (-14) →
    wp_L_ranks_b334 K σ)) ∧
    (¬ r12 ≤ x8_123 →
    ∀ r20 : Int32, r20 = f_of σ.1 x8_123 (0 : Int32) →
    (r20 = 1 →
    wp_L_ranks_b149 K (wp_L_ranks_b123 K n) x1_123 x3_123 x4_123 x5_123 x6_123 x8_123 (1 : Int32) σ) ∧
    (¬ r20 = 1 →
    wp_L_ranks_b149 K (wp_L_ranks_b123 K n) x1_123 x3_123 x4_123 x5_123 x6_123 x8_123 (0 : Int32) σ))
def wp_L_ranks_b97 (K : (Int32 → AB → Prop))   (σ : AB) : Prop :=
K (0 : Int32) σ
def wp_L_ranks_b99 (K : (Int32 → AB → Prop)) (k_10 : Int32 → Int32 → Int32 → AB → Prop) (x1_99 : Int32) (x3_99 : Int32) (x4_99 : Int32) (σ : AB) : Prop :=
∀ v21 : Int32, v21 = x3_99 + 1 →
k_10 x1_99 x4_99 v21 σ
def wp_L_ranks_b79 (K : (Int32 → AB → Prop)) (k_10 : Int32 → Int32 → Int32 → AB → Prop) (x1_79 : Int32) (x2_79 : Int32) (x3_79 : Int32) (x4_79 : Int32) (s0_79 : Int32) (σ : AB) : Prop :=
(s0_79 < 0 →
wp_L_ranks_b97 K σ) ∧
(¬ s0_79 < 0 →
(s0_79 = 0 →
(x2_79 ≤ x4_79 →
wp_L_ranks_b99 K k_10 x1_79 x3_79 x4_79 σ) ∧
(¬ x2_79 ≤ x4_79 →
wp_L_ranks_b97 K σ)) ∧
(¬ s0_79 = 0 →
wp_L_ranks_b99 K k_10 x1_79 x3_79 x4_79 σ))
def wp_L_ranks_b53 (K : (Int32 → AB → Prop)) (k_10 : Int32 → Int32 → Int32 → AB → Prop) (x1_53 : Int32) (x2_53 : Int32) (x3_53 : Int32) (x4_53 : Int32) (s0_53 : Int32) (σ : AB) : Prop :=
(s0_53 = 0 →
∀ r22 : Int32, r22 = f_spellOf σ.1 x2_53 (1 : Int32) →
∀ r23 : Int32, r23 = f_spellOf σ.1 x4_53 (1 : Int32) →
wp_L_ranks_b79 K k_10 x1_53 x2_53 x3_53 x4_53 (r22 - r23) σ) ∧
(¬ s0_53 = 0 →
wp_L_ranks_b79 K k_10 x1_53 x2_53 x3_53 x4_53 s0_53 σ)
def wp_L_ranks_b10 (K : (Int32 → AB → Prop))  : Nat → Int32 → Int32 → Int32 → AB → Prop
  | 0, _, _, _, _ => False
  | n + 1, x1_10, x2_10, x3_10, σ =>
    (x1_10 ≤ x3_10 →
    wp_L_ranks_b123 K 7 x1_10 (-14 : Int32) (0 : Int32) (0 : Int32) FP.dconst0 (0 : Int32) σ) ∧
    (¬ x1_10 ≤ x3_10 →
    ∀ r24 : Int32, r24 = f_ranked σ.1 x3_10 →
    (0 ≤ r24 →
    (0 ≤ x2_10 →
    ∀ r25 : Int32, r25 = f_spellOf σ.1 r24 (0 : Int32) →
    ∀ r26 : Int32, r26 = f_spellOf σ.1 x2_10 (0 : Int32) →
    wp_L_ranks_b53 K (wp_L_ranks_b10 K n) x1_10 x2_10 x3_10 r24 (r25 - r26) σ) ∧
    (¬ 0 ≤ x2_10 →
    wp_L_ranks_b53 K (wp_L_ranks_b10 K n) x1_10 x2_10 x3_10 r24 (1 : Int32) σ)) ∧
    (¬ 0 ≤ r24 →
    wp_L_ranks_b53 K (wp_L_ranks_b10 K n) x1_10 x2_10 x3_10 r24 (-1 : Int32) σ))
def wp_L_ranks (K : (Int32 → AB → Prop))  (σ : AB) : Prop :=
(∃ n, n < 8 ∧ (1 : Int32) = nI n) ∧
∀ r27 : Int32, r27 = f_account σ.1 σ.2.2.2.2.2.2 (1 : Int32) →
wp_L_ranks_b10 K 5 r27 (-1 : Int32) (0 : Int32) σ
set_option maxHeartbeats 4000000 in
set_option maxRecDepth 100000 in
theorem lc_L_ranks (l : Launch) (hl9 : l.stackTraces = false) (dC : Nat → ClassId) (dI : Nat → Nat → Nat) (cT : Nat → ClassId) {Hh : Heap} {a0 : Nat} {σ : AB} {W0 : va_W} {K : (Int32 → AB → Prop)} (h : wp_L_ranks K σ) (hO : OB cT a0 σ W0) (hP0 : va_P (dC, dI) vwCl W0 Hh) (hD0 : va_D (fun _ => True) W0) : Met l yL_ranks (wA yL_ranks cL_ranks 12 (some .boolean)) ({ frames := 9, cells := 150, slots := 900, locals := 168 } : Room) (PU dC dI cT [.ref a0] Hh (va_A W0 Hh.size)) (QEI dC dI (fun r W1 => ∃ σ9, K r σ9 ∧ OB cT a0 σ9 W1) (va_A W0 Hh.size)) 150 900 (va_A W0 Hh.size) := by
  refine Met.ofW (cc := cL_ranks) (maxL := 12) (ret := (some .boolean)) (by decide) rfl ?_
  intro p e s m args below meth c s₁ B hml hv
  obtain ⟨rfl, hH, hK, hX, hN, hZ, hT⟩ := hv
  subst hH
  have hx := B.exec
  have hb := B.bytes
  have hr := B.returns
  have hta : ∀ w ∈ ALLW, w.before [.ref a0].toArray s = true := fun w hw => atoms_spec (ws := wA yL_ranks cL_ranks 12 (some .boolean)) B.pre w (List.mem_cons_of_mem _ hw)
  have hown : s.vm.findClass RL = some m.cls := findClass_of_methodNamed B.named
  have hlocks := B.notSynchronized
  have hD : va_D (va_A W0 s.heap.size) (([] : va_W) ++ W0) := hD0.self (sz := s.heap.size)
  generalize hAe : va_A W0 s.heap.size = A at hD hX hZ hT ⊢
  have hP : va_P (dC, dI) vwCl (([] : va_W) ++ W0) s.heap := hP0
  have hA : ∀ q : Nat, s.heap.size ≤ q → A q := fun q h => by rw [← hAe]; exact Or.inr h
  have hS : va_S A s.heap s.heap [] := va_S.rf
  have hl := lv_entry [.ref a0] (n := 12) (Nat.le_of_ble_eq_true rfl)
  rw [lg_entry_eq]
  generalize (lg_sl [.ref a0] ++ List.replicate (12 - (lg_sl [.ref a0]).length) Slot.unset).toArray = ls at hl ⊢
  have hl : lv_has ls 12 [(0, .ref a0)] := hl
  obtain ⟨Q, hQ⟩ : ∃ Q, Q = MQ below (QEI dC dI (fun r W1 => ∃ σ9, K r σ9 ∧ OB cT a0 σ9 W1) A) [.ref a0].toArray s 150 900 A := ⟨_, rfl⟩
  rw [← hQ]
  have wB_335 : ∀ (s0_335 : Int32) (σ : AB) (wo : va_W) (H : Heap) (locs : List Loc) (ls : Array Slot) (cells slots : Nat), wp_L_ranks_b335 K s0_335 σ → OB cT a0 σ wo → va_P (dC, dI) vwCl (([] : va_W) ++ wo) H → va_D A (([] : va_W) ++ wo) → va_S A s.heap H locs → lv_has ls 12 [] → cells + (0) ≤ 150 → slots + (0) ≤ 900 → W p l e ({ frames := 9, cells := 150, slots := 900, locals := 168 } : Room) s m [.ref a0].toArray below meth c H locs cells slots Q (F0 m 335 ls [.int s0_335]) := by
    intro s0_335 σ wo H locs ls cells slots h hO hP hD hS hl hc1 hc2
    unfold wp_L_ranks_b335 at h
    obtain ⟨hbz, h⟩ := h
    refine W.widen (k := 150) (n := 900) (by omega) (by omega) ?_
    rw [hQ]
    exact W.zret (ty := .boolean) (v := s0_335) hx hb hr (bo_n (v := s0_335) hbz) (fun t ht hW => ⟨⟨s0_335, wo, rfl, ⟨_, h, hO⟩, by rw [ht]; exact P_r hP, D_r hD⟩, hS.F ht⟩) hS.2.2 dL_ranks_335
  have wB_334 : ∀  (σ : AB) (wo : va_W) (H : Heap) (locs : List Loc) (ls : Array Slot) (cells slots : Nat), wp_L_ranks_b334 K  σ → OB cT a0 σ wo → va_P (dC, dI) vwCl (([] : va_W) ++ wo) H → va_D A (([] : va_W) ++ wo) → va_S A s.heap H locs → lv_has ls 12 [] → cells + (0) ≤ 150 → slots + (0) ≤ 900 → W p l e ({ frames := 9, cells := 150, slots := 900, locals := 168 } : Room) s m [.ref a0].toArray below meth c H locs cells slots Q (F0 m 334 ls []) := by
    intro  σ wo H locs ls cells slots h hO hP hD hS hl hc1 hc2
    unfold wp_L_ranks_b334 at h
    refine lv_iconst (v := 0) hx hb dL_ranks_334 (by decide) ?_
    exact wB_335 (0 : Int32) σ _ _ _ _ _ _ h hO hP hD hS (lv_sub hl [] rfl) (by omega) (by omega)
  have wB_123 : ∀ (n_123 : Nat), ∀ (x1_123 : Int32) (x3_123 : Int32) (x4_123 : Int32) (x5_123 : Int32) (x6_123 : UInt64) (x8_123 : Int32) (σ : AB) (wo : va_W) (H : Heap) (locs : List Loc) (ls : Array Slot) (cells slots : Nat), wp_L_ranks_b123 K n_123 x1_123 x3_123 x4_123 x5_123 x6_123 x8_123 σ → OB cT a0 σ wo → va_P (dC, dI) vwCl (([] : va_W) ++ wo) H → va_D A (([] : va_W) ++ wo) → va_S A s.heap H locs → lv_has ls 12 [(0, .ref a0), (1, .int x1_123), (3, .int x3_123), (4, .int x4_123), (5, .int x5_123), (6, .double x6_123), (8, .int x8_123)] → cells + (6 + n_123 * 14) ≤ 150 → slots + (36 + n_123 * 84) ≤ 900 → W p l e ({ frames := 9, cells := 150, slots := 900, locals := 168 } : Room) s m [.ref a0].toArray below meth c H locs cells slots Q (F0 m 123 ls []) := by
    intro n_123
    induction n_123 with
    | zero =>
      intro x1_123 x3_123 x4_123 x5_123 x6_123 x8_123 σ wo H locs ls cells slots h hO hP hD hS hl hc1 hc2
      exact False.elim h
    | succ n_123 ih_123 =>
      have wB_247 : ∀ (x1_247 : Int32) (x3_247 : Int32) (x4_247 : Int32) (x6_247 : UInt64) (x8_247 : Int32) (s0_247 : Int32) (s1_247 : Int32) (σ : AB) (wo : va_W) (H : Heap) (locs : List Loc) (ls : Array Slot) (cells slots : Nat), wp_L_ranks_b247 K (wp_L_ranks_b123 K n_123) x1_247 x3_247 x4_247 x6_247 x8_247 s0_247 s1_247 σ → OB cT a0 σ wo → va_P (dC, dI) vwCl (([] : va_W) ++ wo) H → va_D A (([] : va_W) ++ wo) → va_S A s.heap H locs → lv_has ls 12 [(0, .ref a0), (1, .int x1_247), (3, .int x3_247), (4, .int x4_247), (6, .double x6_247), (8, .int x8_247)] → cells + (7 + n_123 * 14) ≤ 150 → slots + (42 + n_123 * 84) ≤ 900 → W p l e ({ frames := 9, cells := 150, slots := 900, locals := 168 } : Room) s m [.ref a0].toArray below meth c H locs cells slots Q (F0 m 247 ls [.int s0_247, .int s1_247]) := by
        intro x1_247 x3_247 x4_247 x6_247 x8_247 s0_247 s1_247 σ wo H locs ls cells slots h hO hP hD hS hl hc1 hc2
        unfold wp_L_ranks_b247 at h
        refine lv_iadd hx hb dL_ranks_247 ?_
        refine lv_topi (fun v1 e_v => ?_)
        have h := h v1 e_v
        refine lv_istore (lv' := [(5, .int v1), (0, .ref a0), (1, .int x1_247), (3, .int x3_247), (4, .int x4_247), (6, .double x6_247), (8, .int x8_247)]) hx hb dL_ranks_248 hl (by decide) rfl (fun ls hl => ?_)
        refine lv_dload hx hb dL_ranks_250 (lv_at hl 5 rfl) ?_
        refine lv_aload_n hx hb dL_ranks_252 rfl (lv_at hl 1 rfl) ?_
        refine lv_iload hx hb dL_ranks_253 (lv_at hl 6 rfl) ?_
        obtain ⟨hq, h⟩ := h
        refine coI (va_runV (As := [.int x8_247]) (rest := [.double x6_247]) ⟨hx, hb, hml, hown, hta⟩ (oc_X11_bits l hl9 dC dI cT hO hq (P_r hP) ((D_r hD).weaken (fun _ _ _ _ => trivial))) (cV hta lm_L_266 md_X11_bits ⟨(Nat.le_of_ble_eq_true rfl), (Nat.le_of_ble_eq_true rfl)⟩) ⟨fbU, recvO hK hO (P_r hP), fun U hU hW => ⟨rfl, hU, va_K.moved hW.alike hK, XS.call hX hS hU hW (freeO hD hS hA), hN.warm hW, ZS.call hZ hS hU hW (freeO hD hS hA), LT.call hT hS hU hW (freeO hD hS hA)⟩⟩ rfl rfl hl.1 rfl (lv_room (Nat.le_of_ble_eq_true rfl)) dL_ranks_255 ⟨by show _ ≤ (150 : Nat); omega, by show _ ≤ (900 : Nat); omega⟩) hS hA hP hD (fun r2 wo H locs hw hP hD hS => ?_)
        obtain ⟨hr9, hO⟩ := hw
        have h := h r2 hr9
        obtain ⟨hc, h⟩ := h
        refine vn_i2f hx hb (hml.trans hl.1.symm) hown (hta _ lm_L_295) (hta _ ib_n) (hta _ ib_s) (hta _ ib_i) hc (Nat.le_of_ble_eq_true rfl) (Nat.le_of_ble_eq_true rfl) dL_ranks_258 ?_
        obtain ⟨hc, h⟩ := h
        refine lv_f2d hx hb dL_ranks_261 (n64_n hc) ?_
        obtain ⟨hc, h⟩ := h
        refine lv_dadd hx hb dL_ranks_262 (n64_n hc) ?_
        refine lv_topd (fun v3 e_v => ?_)
        have h := h v3 e_v
        refine lv_dstore (lv' := [(6, .double v3), (5, .int v1), (0, .ref a0), (1, .int x1_247), (3, .int x3_247), (4, .int x4_247), (8, .int x8_247)]) hx hb dL_ranks_263 hl (by decide) rfl (fun ls hl => ?_)
        obtain ⟨v4, e_v⟩ : ∃ y : Int32, y = x8_247 + 1 := ⟨_, rfl⟩
        have h := h v4 e_v
        refine lv_iinc (v := v4) (lv' := [(8, .int v4), (6, .double v3), (5, .int v1), (0, .ref a0), (1, .int x1_247), (3, .int x3_247), (4, .int x4_247)]) hx hb dL_ranks_265 hl (k := 6) rfl (by rw [e_v]; rfl) (by decide) rfl (fun ls hl => ?_)
        refine lv_goto (tgt := 123) hx hb dL_ranks_268 (by decide) ?_
        exact ih_123 x1_247 x3_247 x4_247 v1 v3 v4 σ _ _ _ _ _ _ h hO hP hD hS (lv_sub hl [3, 4, 5, 6, 2, 1, 0] rfl) (by omega) (by omega)
      have wB_226 : ∀ (x1_226 : Int32) (x3_226 : Int32) (x5_226 : Int32) (x6_226 : UInt64) (x8_226 : Int32) (x9_226 : Int32) (s0_226 : Int32) (s1_226 : Int32) (σ : AB) (wo : va_W) (H : Heap) (locs : List Loc) (ls : Array Slot) (cells slots : Nat), wp_L_ranks_b226 K (wp_L_ranks_b123 K n_123) x1_226 x3_226 x5_226 x6_226 x8_226 x9_226 s0_226 s1_226 σ → OB cT a0 σ wo → va_P (dC, dI) vwCl (([] : va_W) ++ wo) H → va_D A (([] : va_W) ++ wo) → va_S A s.heap H locs → lv_has ls 12 [(0, .ref a0), (1, .int x1_226), (3, .int x3_226), (5, .int x5_226), (6, .double x6_226), (8, .int x8_226), (9, .int x9_226)] → cells + (9 + n_123 * 14) ≤ 150 → slots + (54 + n_123 * 84) ≤ 900 → W p l e ({ frames := 9, cells := 150, slots := 900, locals := 168 } : Room) s m [.ref a0].toArray below meth c H locs cells slots Q (F0 m 226 ls [.int s0_226, .int s1_226]) := by
        intro x1_226 x3_226 x5_226 x6_226 x8_226 x9_226 s0_226 s1_226 σ wo H locs ls cells slots h hO hP hD hS hl hc1 hc2
        unfold wp_L_ranks_b226 at h
        refine lv_iadd hx hb dL_ranks_226 ?_
        refine lv_topi (fun v5 e_v => ?_)
        have h := h v5 e_v
        refine lv_istore (lv' := [(4, .int v5), (0, .ref a0), (1, .int x1_226), (3, .int x3_226), (5, .int x5_226), (6, .double x6_226), (8, .int x8_226), (9, .int x9_226)]) hx hb dL_ranks_227 hl (by decide) rfl (fun ls hl => ?_)
        refine lv_iload hx hb dL_ranks_229 (lv_at hl 4 rfl) ?_
        refine lv_iload hx hb dL_ranks_231 (lv_at hl 7 rfl) ?_
        refine lv_if_eq (tgt := 240) hx hb dL_ranks_233 (by decide) (fun c0 => ?_) (fun c0 => ?_)
        · have h := h.1 c0
          refine lv_aload_n hx hb dL_ranks_240 rfl (lv_at hl 1 rfl) ?_
          refine lv_iload hx hb dL_ranks_241 (lv_at hl 6 rfl) ?_
          refine lv_iconst (v := 3) hx hb dL_ranks_243 (by decide) ?_
          refine coI (vx_runSW (As := [.ref a0, .int x8_226, .int 3]) (rest := [.int x5_226]) ⟨hx, hb, hml, hown, hta⟩ (oc_L_of l hl9 dC dI cT hO (P_r hP) ((D_r hD).weaken (fun _ _ _ _ => trivial))) (cW hta lm_L_186 mw_L_of ⟨(Nat.le_of_ble_eq_true rfl), (Nat.le_of_ble_eq_true rfl)⟩) ⟨fbU, fun U hU hW => ⟨rfl, hU, va_K.moved hW.alike hK, XS.call hX hS hU hW (freeO hD hS hA), hN.warm hW, ZS.call hZ hS hU hW (freeO hD hS hA), LT.call hT hS hU hW (freeO hD hS hA)⟩⟩ rfl rfl hl.1 rfl (lv_room (Nat.le_of_ble_eq_true rfl)) dL_ranks_244 ⟨by show _ ≤ (150 : Nat); omega, by show _ ≤ (900 : Nat); omega⟩) hS hA hP hD (fun r6 wo H locs hw hP hD hS => ?_)
          obtain ⟨hr9, hO⟩ := hw
          have h := h r6 hr9
          exact wB_247 x1_226 x3_226 v5 x6_226 x8_226 r6 x5_226 σ _ _ _ _ _ _ h hO hP hD hS (lv_sub hl [1, 2, 3, 0, 5, 6] rfl) (by omega) (by omega)
        · have h := h.2 c0
          refine lv_iconst (v := 0) hx hb dL_ranks_236 (by decide) ?_
          refine lv_goto (tgt := 247) hx hb dL_ranks_237 (by decide) ?_
          exact wB_247 x1_226 x3_226 v5 x6_226 x8_226 (0 : Int32) x5_226 σ _ _ _ _ _ _ h hO hP hD hS (lv_sub hl [1, 2, 3, 0, 5, 6] rfl) (by omega) (by omega)
      have wB_213 : ∀ (x1_213 : Int32) (x4_213 : Int32) (x5_213 : Int32) (x6_213 : UInt64) (x8_213 : Int32) (x9_213 : Int32) (s0_213 : Int32) (σ : AB) (wo : va_W) (H : Heap) (locs : List Loc) (ls : Array Slot) (cells slots : Nat), wp_L_ranks_b213 K (wp_L_ranks_b123 K n_123) x1_213 x4_213 x5_213 x6_213 x8_213 x9_213 s0_213 σ → OB cT a0 σ wo → va_P (dC, dI) vwCl (([] : va_W) ++ wo) H → va_D A (([] : va_W) ++ wo) → va_S A s.heap H locs → lv_has ls 12 [(0, .ref a0), (1, .int x1_213), (4, .int x4_213), (5, .int x5_213), (6, .double x6_213), (8, .int x8_213), (9, .int x9_213)] → cells + (9 + n_123 * 14) ≤ 150 → slots + (54 + n_123 * 84) ≤ 900 → W p l e ({ frames := 9, cells := 150, slots := 900, locals := 168 } : Room) s m [.ref a0].toArray below meth c H locs cells slots Q (F0 m 213 ls [.int s0_213]) := by
        intro x1_213 x4_213 x5_213 x6_213 x8_213 x9_213 s0_213 σ wo H locs ls cells slots h hO hP hD hS hl hc1 hc2
        unfold wp_L_ranks_b213 at h
        refine lv_istore_n (lv' := [(3, .int s0_213), (0, .ref a0), (1, .int x1_213), (4, .int x4_213), (5, .int x5_213), (6, .double x6_213), (8, .int x8_213), (9, .int x9_213)]) hx hb dL_ranks_213 rfl hl (by decide) rfl (fun ls hl => ?_)
        refine lv_iload hx hb dL_ranks_214 (lv_at hl 3 rfl) ?_
        refine lv_iload hx hb dL_ranks_216 (lv_at hl 7 rfl) ?_
        refine lv_if_eq (tgt := 225) hx hb dL_ranks_218 (by decide) (fun c0 => ?_) (fun c0 => ?_)
        · have h := h.1 c0
          refine lv_iconst (v := 0) hx hb dL_ranks_225 (by decide) ?_
          exact wB_226 x1_213 s0_213 x5_213 x6_213 x8_213 x9_213 (0 : Int32) x4_213 σ _ _ _ _ _ _ h hO hP hD hS (lv_sub hl [1, 2, 0, 4, 5, 6, 7] rfl) (by omega) (by omega)
        · have h := h.2 c0
          refine lv_iconst (v := 1) hx hb dL_ranks_221 (by decide) ?_
          refine lv_goto (tgt := 226) hx hb dL_ranks_222 (by decide) ?_
          exact wB_226 x1_213 s0_213 x5_213 x6_213 x8_213 x9_213 (1 : Int32) x4_213 σ _ _ _ _ _ _ h hO hP hD hS (lv_sub hl [1, 2, 0, 4, 5, 6, 7] rfl) (by omega) (by omega)
      have wB_212 : ∀ (x1_212 : Int32) (x3_212 : Int32) (x4_212 : Int32) (x5_212 : Int32) (x6_212 : UInt64) (x8_212 : Int32) (x9_212 : Int32) (σ : AB) (wo : va_W) (H : Heap) (locs : List Loc) (ls : Array Slot) (cells slots : Nat), wp_L_ranks_b212 K (wp_L_ranks_b123 K n_123) x1_212 x3_212 x4_212 x5_212 x6_212 x8_212 x9_212 σ → OB cT a0 σ wo → va_P (dC, dI) vwCl (([] : va_W) ++ wo) H → va_D A (([] : va_W) ++ wo) → va_S A s.heap H locs → lv_has ls 12 [(0, .ref a0), (1, .int x1_212), (3, .int x3_212), (4, .int x4_212), (5, .int x5_212), (6, .double x6_212), (8, .int x8_212), (9, .int x9_212)] → cells + (9 + n_123 * 14) ≤ 150 → slots + (54 + n_123 * 84) ≤ 900 → W p l e ({ frames := 9, cells := 150, slots := 900, locals := 168 } : Room) s m [.ref a0].toArray below meth c H locs cells slots Q (F0 m 212 ls []) := by
        intro x1_212 x3_212 x4_212 x5_212 x6_212 x8_212 x9_212 σ wo H locs ls cells slots h hO hP hD hS hl hc1 hc2
        unfold wp_L_ranks_b212 at h
        refine lv_iload_n hx hb dL_ranks_212 rfl (lv_at hl 2 rfl) ?_
        exact wB_213 x1_212 x4_212 x5_212 x6_212 x8_212 x9_212 x3_212 σ _ _ _ _ _ _ h hO hP hD hS (lv_sub hl [0, 1, 3, 4, 5, 6, 7] rfl) (by omega) (by omega)
      have wB_195 : ∀ (x1_195 : Int32) (x3_195 : Int32) (x4_195 : Int32) (x5_195 : Int32) (x6_195 : UInt64) (x8_195 : Int32) (x9_195 : Int32) (s0_195 : Int32) (σ : AB) (wo : va_W) (H : Heap) (locs : List Loc) (ls : Array Slot) (cells slots : Nat), wp_L_ranks_b195 K (wp_L_ranks_b123 K n_123) x1_195 x3_195 x4_195 x5_195 x6_195 x8_195 x9_195 s0_195 σ → OB cT a0 σ wo → va_P (dC, dI) vwCl (([] : va_W) ++ wo) H → va_D A (([] : va_W) ++ wo) → va_S A s.heap H locs → lv_has ls 12 [(0, .ref a0), (1, .int x1_195), (3, .int x3_195), (4, .int x4_195), (5, .int x5_195), (6, .double x6_195), (8, .int x8_195), (9, .int x9_195)] → cells + (9 + n_123 * 14) ≤ 150 → slots + (54 + n_123 * 84) ≤ 900 → W p l e ({ frames := 9, cells := 150, slots := 900, locals := 168 } : Room) s m [.ref a0].toArray below meth c H locs cells slots Q (F0 m 195 ls [.int s0_195]) := by
        intro x1_195 x3_195 x4_195 x5_195 x6_195 x8_195 x9_195 s0_195 σ wo H locs ls cells slots h hO hP hD hS hl hc1 hc2
        unfold wp_L_ranks_b195 at h
        refine lv_istore (lv' := [(11, .int s0_195), (0, .ref a0), (1, .int x1_195), (3, .int x3_195), (4, .int x4_195), (5, .int x5_195), (6, .double x6_195), (8, .int x8_195), (9, .int x9_195)]) hx hb dL_ranks_195 hl (by decide) rfl (fun ls hl => ?_)
        refine lv_iload hx hb dL_ranks_197 (lv_at hl 8 rfl) ?_
        refine lv_if_ne (tgt := 212) hx hb dL_ranks_199 (by decide) (fun c0 => ?_) (fun c0 => ?_)
        · have h := h.2 c0
          exact wB_212 x1_195 x3_195 x4_195 x5_195 x6_195 x8_195 x9_195 σ _ _ _ _ _ _ h hO hP hD hS (lv_sub hl [1, 2, 3, 4, 5, 6, 7, 8] rfl) (by omega) (by omega)
        · have h := h.1 c0
          refine lv_iload hx hb dL_ranks_202 (lv_at hl 0 rfl) ?_
          refine lv_if_eq (tgt := 212) hx hb dL_ranks_204 (by decide) (fun c0 => ?_) (fun c0 => ?_)
          · have h := h.1 c0
            exact wB_212 x1_195 x3_195 x4_195 x5_195 x6_195 x8_195 x9_195 σ _ _ _ _ _ _ h hO hP hD hS (lv_sub hl [1, 2, 3, 4, 5, 6, 7, 8] rfl) (by omega) (by omega)
          · have h := h.2 c0
            refine lv_iload hx hb dL_ranks_207 (lv_at hl 7 rfl) ?_
            refine lv_goto (tgt := 213) hx hb dL_ranks_209 (by decide) ?_
            exact wB_213 x1_195 x4_195 x5_195 x6_195 x8_195 x9_195 x8_195 σ _ _ _ _ _ _ h hO hP hD hS (lv_sub hl [1, 2, 4, 5, 6, 7, 8] rfl) (by omega) (by omega)
      have wB_190 : ∀ (x1_190 : Int32) (x3_190 : Int32) (x4_190 : Int32) (x5_190 : Int32) (x6_190 : UInt64) (x8_190 : Int32) (x9_190 : Int32) (σ : AB) (wo : va_W) (H : Heap) (locs : List Loc) (ls : Array Slot) (cells slots : Nat), wp_L_ranks_b190 K (wp_L_ranks_b123 K n_123) x1_190 x3_190 x4_190 x5_190 x6_190 x8_190 x9_190 σ → OB cT a0 σ wo → va_P (dC, dI) vwCl (([] : va_W) ++ wo) H → va_D A (([] : va_W) ++ wo) → va_S A s.heap H locs → lv_has ls 12 [(0, .ref a0), (1, .int x1_190), (3, .int x3_190), (4, .int x4_190), (5, .int x5_190), (6, .double x6_190), (8, .int x8_190), (9, .int x9_190)] → cells + (9 + n_123 * 14) ≤ 150 → slots + (54 + n_123 * 84) ≤ 900 → W p l e ({ frames := 9, cells := 150, slots := 900, locals := 168 } : Room) s m [.ref a0].toArray below meth c H locs cells slots Q (F0 m 190 ls []) := by
        intro x1_190 x3_190 x4_190 x5_190 x6_190 x8_190 x9_190 σ wo H locs ls cells slots h hO hP hD hS hl hc1 hc2
        unfold wp_L_ranks_b190 at h
        refine lv_iconst (v := 1) hx hb dL_ranks_190 (by decide) ?_
        refine lv_goto (tgt := 195) hx hb dL_ranks_191 (by decide) ?_
        exact wB_195 x1_190 x3_190 x4_190 x5_190 x6_190 x8_190 x9_190 (1 : Int32) σ _ _ _ _ _ _ h hO hP hD hS (lv_sub hl [0, 1, 2, 3, 4, 5, 6, 7] rfl) (by omega) (by omega)
      have wB_149 : ∀ (x1_149 : Int32) (x3_149 : Int32) (x4_149 : Int32) (x5_149 : Int32) (x6_149 : UInt64) (x8_149 : Int32) (s0_149 : Int32) (σ : AB) (wo : va_W) (H : Heap) (locs : List Loc) (ls : Array Slot) (cells slots : Nat), wp_L_ranks_b149 K (wp_L_ranks_b123 K n_123) x1_149 x3_149 x4_149 x5_149 x6_149 x8_149 s0_149 σ → OB cT a0 σ wo → va_P (dC, dI) vwCl (([] : va_W) ++ wo) H → va_D A (([] : va_W) ++ wo) → va_S A s.heap H locs → lv_has ls 12 [(0, .ref a0), (1, .int x1_149), (3, .int x3_149), (4, .int x4_149), (5, .int x5_149), (6, .double x6_149), (8, .int x8_149)] → cells + (17 + n_123 * 14) ≤ 150 → slots + (102 + n_123 * 84) ≤ 900 → W p l e ({ frames := 9, cells := 150, slots := 900, locals := 168 } : Room) s m [.ref a0].toArray below meth c H locs cells slots Q (F0 m 149 ls [.int s0_149]) := by
        intro x1_149 x3_149 x4_149 x5_149 x6_149 x8_149 s0_149 σ wo H locs ls cells slots h hO hP hD hS hl hc1 hc2
        unfold wp_L_ranks_b149 at h
        refine lv_istore (lv' := [(9, .int s0_149), (0, .ref a0), (1, .int x1_149), (3, .int x3_149), (4, .int x4_149), (5, .int x5_149), (6, .double x6_149), (8, .int x8_149)]) hx hb dL_ranks_149 hl (by decide) rfl (fun ls hl => ?_)
        refine lv_aload_n hx hb dL_ranks_151 rfl (lv_at hl 1 rfl) ?_
        refine lv_iload hx hb dL_ranks_152 (lv_at hl 7 rfl) ?_
        refine lv_iconst (v := 2) hx hb dL_ranks_154 (by decide) ?_
        refine coI (vx_runSW (As := [.ref a0, .int x8_149, .int 2]) (rest := []) ⟨hx, hb, hml, hown, hta⟩ (oc_L_of l hl9 dC dI cT hO (P_r hP) ((D_r hD).weaken (fun _ _ _ _ => trivial))) (cW hta lm_L_186 mw_L_of ⟨(Nat.le_of_ble_eq_true rfl), (Nat.le_of_ble_eq_true rfl)⟩) ⟨fbU, fun U hU hW => ⟨rfl, hU, va_K.moved hW.alike hK, XS.call hX hS hU hW (freeO hD hS hA), hN.warm hW, ZS.call hZ hS hU hW (freeO hD hS hA), LT.call hT hS hU hW (freeO hD hS hA)⟩⟩ rfl rfl hl.1 rfl (lv_room (Nat.le_of_ble_eq_true rfl)) dL_ranks_155 ⟨by show _ ≤ (150 : Nat); omega, by show _ ≤ (900 : Nat); omega⟩) hS hA hP hD (fun r7 wo H locs hw hP hD hS => ?_)
        obtain ⟨hr9, hO⟩ := hw
        have h := h r7 hr9
        refine lv_aload_n hx hb dL_ranks_158 rfl (lv_at hl 1 rfl) ?_
        refine lv_iload hx hb dL_ranks_159 (lv_at hl 7 rfl) ?_
        refine lv_iconst (v := 1) hx hb dL_ranks_161 (by decide) ?_
        refine coI (vx_runSW (As := [.ref a0, .int x8_149, .int 1]) (rest := [.int r7]) ⟨hx, hb, hml, hown, hta⟩ (oc_L_of l hl9 dC dI cT hO (P_r hP) ((D_r hD).weaken (fun _ _ _ _ => trivial))) (cW hta lm_L_186 mw_L_of ⟨(Nat.le_of_ble_eq_true rfl), (Nat.le_of_ble_eq_true rfl)⟩) ⟨fbU, fun U hU hW => ⟨rfl, hU, va_K.moved hW.alike hK, XS.call hX hS hU hW (freeO hD hS hA), hN.warm hW, ZS.call hZ hS hU hW (freeO hD hS hA), LT.call hT hS hU hW (freeO hD hS hA)⟩⟩ rfl rfl hl.1 rfl (lv_room (Nat.le_of_ble_eq_true rfl)) dL_ranks_162 ⟨by show _ ≤ (150 : Nat); omega, by show _ ≤ (900 : Nat); omega⟩) hS hA hP hD (fun r8 wo H locs hw hP hD hS => ?_)
        obtain ⟨hr9, hO⟩ := hw
        have h := h r8 hr9
        refine lv_isub hx hb dL_ranks_165 ?_
        refine lv_topi (fun v9 e_v => ?_)
        have h := h v9 e_v
        refine lv_istore (lv' := [(10, .int v9), (9, .int s0_149), (0, .ref a0), (1, .int x1_149), (3, .int x3_149), (4, .int x4_149), (5, .int x5_149), (6, .double x6_149), (8, .int x8_149)]) hx hb dL_ranks_166 hl (by decide) rfl (fun ls hl => ?_)
        refine lv_iload_n hx hb dL_ranks_168 rfl (lv_at hl 4 rfl) ?_
        refine lv_if_lt (tgt := 190) hx hb dL_ranks_169 (by decide) (fun c0 => ?_) (fun c0 => ?_)
        · have h := h.1 c0
          exact wB_190 x1_149 x3_149 x4_149 x5_149 x6_149 x8_149 s0_149 σ _ _ _ _ _ _ h hO hP hD hS (lv_sub hl [2, 3, 4, 5, 6, 7, 8, 1] rfl) (by omega) (by omega)
        · have h := h.2 c0
          refine lv_iload hx hb dL_ranks_172 (lv_at hl 0 rfl) ?_
          refine lv_aload_n hx hb dL_ranks_174 rfl (lv_at hl 2 rfl) ?_
          refine lv_iload_n hx hb dL_ranks_175 rfl (lv_at hl 4 rfl) ?_
          refine lv_iconst (v := 2) hx hb dL_ranks_176 (by decide) ?_
          refine coI (vx_runSW (As := [.ref a0, .int x3_149, .int 2]) (rest := [.int v9]) ⟨hx, hb, hml, hown, hta⟩ (oc_L_of l hl9 dC dI cT hO (P_r hP) ((D_r hD).weaken (fun _ _ _ _ => trivial))) (cW hta lm_L_186 mw_L_of ⟨(Nat.le_of_ble_eq_true rfl), (Nat.le_of_ble_eq_true rfl)⟩) ⟨fbU, fun U hU hW => ⟨rfl, hU, va_K.moved hW.alike hK, XS.call hX hS hU hW (freeO hD hS hA), hN.warm hW, ZS.call hZ hS hU hW (freeO hD hS hA), LT.call hT hS hU hW (freeO hD hS hA)⟩⟩ rfl rfl hl.1 rfl (lv_room (Nat.le_of_ble_eq_true rfl)) dL_ranks_177 ⟨by show _ ≤ (150 : Nat); omega, by show _ ≤ (900 : Nat); omega⟩) hS hA hP hD (fun r10 wo H locs hw hP hD hS => ?_)
          obtain ⟨hr9, hO⟩ := hw
          have h := h r10 hr9
          refine lv_aload_n hx hb dL_ranks_180 rfl (lv_at hl 2 rfl) ?_
          refine lv_iload_n hx hb dL_ranks_181 rfl (lv_at hl 4 rfl) ?_
          refine lv_iconst (v := 1) hx hb dL_ranks_182 (by decide) ?_
          refine coI (vx_runSW (As := [.ref a0, .int x3_149, .int 1]) (rest := [.int r10, .int v9]) ⟨hx, hb, hml, hown, hta⟩ (oc_L_of l hl9 dC dI cT hO (P_r hP) ((D_r hD).weaken (fun _ _ _ _ => trivial))) (cW hta lm_L_186 mw_L_of ⟨(Nat.le_of_ble_eq_true rfl), (Nat.le_of_ble_eq_true rfl)⟩) ⟨fbU, fun U hU hW => ⟨rfl, hU, va_K.moved hW.alike hK, XS.call hX hS hU hW (freeO hD hS hA), hN.warm hW, ZS.call hZ hS hU hW (freeO hD hS hA), LT.call hT hS hU hW (freeO hD hS hA)⟩⟩ rfl rfl hl.1 rfl (lv_room (Nat.le_of_ble_eq_true rfl)) dL_ranks_183 ⟨by show _ ≤ (150 : Nat); omega, by show _ ≤ (900 : Nat); omega⟩) hS hA hP hD (fun r11 wo H locs hw hP hD hS => ?_)
          obtain ⟨hr9, hO⟩ := hw
          have h := h r11 hr9
          refine lv_isub hx hb dL_ranks_186 ?_
          refine lv_icmp_le (tgt := 194) hx hb dL_ranks_187 (by decide) (fun c0 => ?_) (fun c0 => ?_)
          · have h := h.1 c0
            refine lv_iconst (v := 0) hx hb dL_ranks_194 (by decide) ?_
            exact wB_195 x1_149 x3_149 x4_149 x5_149 x6_149 x8_149 s0_149 (0 : Int32) σ _ _ _ _ _ _ h hO hP hD hS (lv_sub hl [2, 3, 4, 5, 6, 7, 8, 1] rfl) (by omega) (by omega)
          · have h := h.2 c0
            exact wB_190 x1_149 x3_149 x4_149 x5_149 x6_149 x8_149 s0_149 σ _ _ _ _ _ _ h hO hP hD hS (lv_sub hl [2, 3, 4, 5, 6, 7, 8, 1] rfl) (by omega) (by omega)
      intro x1_123 x3_123 x4_123 x5_123 x6_123 x8_123 σ wo H locs ls cells slots h hO hP hD hS hl hc1 hc2
      rw [wp_L_ranks_b123] at h
      refine lv_iload hx hb dL_ranks_123 (lv_at hl 6 rfl) ?_
      refine lv_aload_n hx hb dL_ranks_125 rfl (lv_at hl 0 rfl) ?_
      refine lv_iconst (v := 0) hx hb dL_ranks_126 (by decide) ?_
      obtain ⟨hq, h⟩ := h
      refine coI (va_runV (As := [.int 0]) (rest := [.int x8_123]) ⟨hx, hb, hml, hown, hta⟩ (oc_X11_account l hl9 dC dI cT hO hq (P_r hP) ((D_r hD).weaken (fun _ _ _ _ => trivial))) (cV hta lm_L_229 md_X11_account ⟨(Nat.le_of_ble_eq_true rfl), (Nat.le_of_ble_eq_true rfl)⟩) ⟨fbU, recvO hK hO (P_r hP), fun U hU hW => ⟨rfl, hU, va_K.moved hW.alike hK, XS.call hX hS hU hW (freeO hD hS hA), hN.warm hW, ZS.call hZ hS hU hW (freeO hD hS hA), LT.call hT hS hU hW (freeO hD hS hA)⟩⟩ rfl rfl hl.1 rfl (lv_room (Nat.le_of_ble_eq_true rfl)) dL_ranks_127 ⟨by show _ ≤ (150 : Nat); omega, by show _ ≤ (900 : Nat); omega⟩) hS hA hP hD (fun r12 wo H locs hw hP hD hS => ?_)
      obtain ⟨hr9, hO⟩ := hw
      have h := h r12 hr9
      refine lv_icmp_ge (tgt := 271) hx hb dL_ranks_130 (by decide) (fun c0 => ?_) (fun c0 => ?_)
      · have h := h.1 c0
        refine lv_aload_n hx hb dL_ranks_271 rfl (lv_at hl 0 rfl) ?_
        refine lv_iload_n hx hb dL_ranks_272 rfl (lv_at hl 1 rfl) ?_
        refine coI (vx_runSW (As := [.ref a0, .int x1_123]) (rest := []) ⟨hx, hb, hml, hown, hta⟩ (oc_L_ranked l hl9 dC dI cT hO (P_r hP) ((D_r hD).weaken (fun _ _ _ _ => trivial))) (cW hta lm_L_293 mw_L_ranked ⟨(Nat.le_of_ble_eq_true rfl), (Nat.le_of_ble_eq_true rfl)⟩) ⟨fbU, fun U hU hW => ⟨rfl, hU, va_K.moved hW.alike hK, XS.call hX hS hU hW (freeO hD hS hA), hN.warm hW, ZS.call hZ hS hU hW (freeO hD hS hA), LT.call hT hS hU hW (freeO hD hS hA)⟩⟩ rfl rfl hl.1 rfl (lv_room (Nat.le_of_ble_eq_true rfl)) dL_ranks_273 ⟨by show _ ≤ (150 : Nat); omega, by show _ ≤ (900 : Nat); omega⟩) hS hA hP hD (fun r13 wo H locs hw hP hD hS => ?_)
        obtain ⟨hr9, hO⟩ := hw
        have h := h r13 hr9
        refine lv_bipush (v := -14) hx hb dL_ranks_276 (by decide) ?_
        refine lv_icmp_ne (tgt := 334) hx hb dL_ranks_278 (by decide) (fun c0 => ?_) (fun c0 => ?_)
        · have h := h.2 c0
          exact wB_334 σ _ _ _ _ _ _ h hO hP hD hS (lv_sub hl [] rfl) (by omega) (by omega)
        · have h := h.1 c0
          refine lv_aload_n hx hb dL_ranks_281 rfl (lv_at hl 0 rfl) ?_
          refine coI (vx_runSW (As := [.ref a0]) (rest := []) ⟨hx, hb, hml, hown, hta⟩ (oc_L_widest l hl9 dC dI cT hO (P_r hP) ((D_r hD).weaken (fun _ _ _ _ => trivial))) (cW hta lm_L_300 mw_L_widest ⟨(Nat.le_of_ble_eq_true rfl), (Nat.le_of_ble_eq_true rfl)⟩) ⟨fbU, fun U hU hW => ⟨rfl, hU, va_K.moved hW.alike hK, XS.call hX hS hU hW (freeO hD hS hA), hN.warm hW, ZS.call hZ hS hU hW (freeO hD hS hA), LT.call hT hS hU hW (freeO hD hS hA)⟩⟩ rfl rfl hl.1 rfl (lv_room (Nat.le_of_ble_eq_true rfl)) dL_ranks_282 ⟨by show _ ≤ (150 : Nat); omega, by show _ ≤ (900 : Nat); omega⟩) hS hA hP hD (fun r14 wo H locs hw hP hD hS => ?_)
          obtain ⟨hr9, hO⟩ := hw
          have h := h r14 hr9
          refine lv_iload_n hx hb dL_ranks_285 rfl (lv_at hl 2 rfl) ?_
          refine lv_icmp_ne (tgt := 334) hx hb dL_ranks_286 (by decide) (fun c0 => ?_) (fun c0 => ?_)
          · have h := h.2 c0
            exact wB_334 σ _ _ _ _ _ _ h hO hP hD hS (lv_sub hl [] rfl) (by omega) (by omega)
          · have h := h.1 c0
            refine lv_aload_n hx hb dL_ranks_289 rfl (lv_at hl 0 rfl) ?_
            refine lv_iconst (v := 3) hx hb dL_ranks_290 (by decide) ?_
            obtain ⟨hq, h⟩ := h
            refine coI (va_runV (As := [.int 3]) (rest := []) ⟨hx, hb, hml, hown, hta⟩ (oc_X11_account l hl9 dC dI cT hO hq (P_r hP) ((D_r hD).weaken (fun _ _ _ _ => trivial))) (cV hta lm_L_229 md_X11_account ⟨(Nat.le_of_ble_eq_true rfl), (Nat.le_of_ble_eq_true rfl)⟩) ⟨fbU, recvO hK hO (P_r hP), fun U hU hW => ⟨rfl, hU, va_K.moved hW.alike hK, XS.call hX hS hU hW (freeO hD hS hA), hN.warm hW, ZS.call hZ hS hU hW (freeO hD hS hA), LT.call hT hS hU hW (freeO hD hS hA)⟩⟩ rfl rfl hl.1 rfl (lv_room (Nat.le_of_ble_eq_true rfl)) dL_ranks_291 ⟨by show _ ≤ (150 : Nat); omega, by show _ ≤ (900 : Nat); omega⟩) hS hA hP hD (fun r15 wo H locs hw hP hD hS => ?_)
            obtain ⟨hr9, hO⟩ := hw
            have h := h r15 hr9
            refine lv_iload hx hb dL_ranks_294 (lv_at hl 3 rfl) ?_
            refine lv_icmp_ne (tgt := 334) hx hb dL_ranks_296 (by decide) (fun c0 => ?_) (fun c0 => ?_)
            · have h := h.2 c0
              exact wB_334 σ _ _ _ _ _ _ h hO hP hD hS (lv_sub hl [] rfl) (by omega) (by omega)
            · have h := h.1 c0
              refine lv_aload_n hx hb dL_ranks_299 rfl (lv_at hl 0 rfl) ?_
              refine lv_bipush (v := 7) hx hb dL_ranks_300 (by decide) ?_
              obtain ⟨hq, h⟩ := h
              refine coI (va_runV (As := [.int 7]) (rest := []) ⟨hx, hb, hml, hown, hta⟩ (oc_X11_account l hl9 dC dI cT hO hq (P_r hP) ((D_r hD).weaken (fun _ _ _ _ => trivial))) (cV hta lm_L_229 md_X11_account ⟨(Nat.le_of_ble_eq_true rfl), (Nat.le_of_ble_eq_true rfl)⟩) ⟨fbU, recvO hK hO (P_r hP), fun U hU hW => ⟨rfl, hU, va_K.moved hW.alike hK, XS.call hX hS hU hW (freeO hD hS hA), hN.warm hW, ZS.call hZ hS hU hW (freeO hD hS hA), LT.call hT hS hU hW (freeO hD hS hA)⟩⟩ rfl rfl hl.1 rfl (lv_room (Nat.le_of_ble_eq_true rfl)) dL_ranks_302 ⟨by show _ ≤ (150 : Nat); omega, by show _ ≤ (900 : Nat); omega⟩) hS hA hP hD (fun r16 wo H locs hw hP hD hS => ?_)
              obtain ⟨hr9, hO⟩ := hw
              have h := h r16 hr9
              refine lv_iload hx hb dL_ranks_305 (lv_at hl 4 rfl) ?_
              refine lv_icmp_ne (tgt := 334) hx hb dL_ranks_307 (by decide) (fun c0 => ?_) (fun c0 => ?_)
              · have h := h.2 c0
                exact wB_334 σ _ _ _ _ _ _ h hO hP hD hS (lv_sub hl [] rfl) (by omega) (by omega)
              · have h := h.1 c0
                refine lv_aload_n hx hb dL_ranks_310 rfl (lv_at hl 0 rfl) ?_
                obtain ⟨hq, h⟩ := h
                refine coL (va_runV (As := []) (rest := []) ⟨hx, hb, hml, hown, hta⟩ (oc_X11_meanBits l hl9 dC dI cT hO hq (P_r hP) ((D_r hD).weaken (fun _ _ _ _ => trivial))) (cV hta lm_L_302 md_X11_meanBits ⟨(Nat.le_of_ble_eq_true rfl), (Nat.le_of_ble_eq_true rfl)⟩) ⟨fbU, recvO hK hO (P_r hP), fun U hU hW => ⟨rfl, hU, va_K.moved hW.alike hK, XS.call hX hS hU hW (freeO hD hS hA), hN.warm hW, ZS.call hZ hS hU hW (freeO hD hS hA), LT.call hT hS hU hW (freeO hD hS hA)⟩⟩ rfl rfl hl.1 rfl (lv_room (Nat.le_of_ble_eq_true rfl)) dL_ranks_311 ⟨by show _ ≤ (150 : Nat); omega, by show _ ≤ (900 : Nat); omega⟩) hS hA hP hD (fun r17 wo H locs hw hP hD hS => ?_)
                obtain ⟨hr9, hO⟩ := hw
                have h := h r17 hr9
                refine lv_dload hx hb dL_ranks_314 (lv_at hl 5 rfl) ?_
                refine lv_aload_n hx hb dL_ranks_316 rfl (lv_at hl 0 rfl) ?_
                refine lv_iconst (v := 0) hx hb dL_ranks_317 (by decide) ?_
                obtain ⟨hq, h⟩ := h
                refine coI (va_runV (As := [.int 0]) (rest := [.double x6_123, .long r17]) ⟨hx, hb, hml, hown, hta⟩ (oc_X11_account l hl9 dC dI cT hO hq (P_r hP) ((D_r hD).weaken (fun _ _ _ _ => trivial))) (cV hta lm_L_229 md_X11_account ⟨(Nat.le_of_ble_eq_true rfl), (Nat.le_of_ble_eq_true rfl)⟩) ⟨fbU, recvO hK hO (P_r hP), fun U hU hW => ⟨rfl, hU, va_K.moved hW.alike hK, XS.call hX hS hU hW (freeO hD hS hA), hN.warm hW, ZS.call hZ hS hU hW (freeO hD hS hA), LT.call hT hS hU hW (freeO hD hS hA)⟩⟩ rfl rfl hl.1 rfl (lv_room (Nat.le_of_ble_eq_true rfl)) dL_ranks_318 ⟨by show _ ≤ (150 : Nat); omega, by show _ ≤ (900 : Nat); omega⟩) hS hA hP hD (fun r18 wo H locs hw hP hD hS => ?_)
                obtain ⟨hr9, hO⟩ := hw
                have h := h r18 hr9
                refine lv_i2d hx hb dL_ranks_321 ?_
                obtain ⟨hc, h⟩ := h
                refine lv_ddiv hx hb dL_ranks_322 (n64_n hc) ?_
                obtain ⟨hc, h⟩ := h
                refine crL (va_runS (As := [.double (FP.ddiv x6_123 (FP.i2d r18))]) (rest := [.long r17]) ⟨hx, hb, hml, hown, hta⟩ (c_Jxe99ae_doubleToLongBits_ccdee l dC dI cT (k_Jlbits hc)) (cS hta lm_L_306 md_Jxe99ae_doubleToLongBits_ccdee ⟨(Nat.le_of_ble_eq_true rfl), (Nat.le_of_ble_eq_true rfl)⟩) ⟨fbK, fun U hU hW => ⟨rfl, hU, va_K.moved hW.alike hK⟩⟩ rfl rfl hl.1 rfl (lv_room (Nat.le_of_ble_eq_true rfl)) dL_ranks_323 ⟨by show _ ≤ (150 : Nat); omega, by show _ ≤ (900 : Nat); omega⟩) hS hA (fun locs hS => ?_)
                refine W.lcmp hx hb dL_ranks_326 ?_
                refine lv_if_ne (tgt := 334) hx hb dL_ranks_327 (by decide) (fun c0 => ?_) (fun c0 => ?_)
                · have h := h.2 c0
                  exact wB_334 σ _ _ _ _ _ _ h hO hP hD hS (lv_sub hl [] rfl) (by omega) (by omega)
                · have h := h.1 c0
                  refine lv_iconst (v := 1) hx hb dL_ranks_330 (by decide) ?_
                  refine lv_goto (tgt := 335) hx hb dL_ranks_331 (by decide) ?_
                  exact wB_335 (1 : Int32) σ _ _ _ _ _ _ h hO hP hD hS (lv_sub hl [] rfl) (by omega) (by omega)
      · have h := h.2 c0
        refine lv_aload_n hx hb dL_ranks_133 rfl (lv_at hl 0 rfl) ?_
        refine lv_iload hx hb dL_ranks_134 (lv_at hl 6 rfl) ?_
        refine lv_iconst (v := 0) hx hb dL_ranks_136 (by decide) ?_
        refine coI (vx_runSW (As := [.ref a0, .int x8_123, .int 0]) (rest := []) ⟨hx, hb, hml, hown, hta⟩ (oc_L_of l hl9 dC dI cT hO (P_r hP) ((D_r hD).weaken (fun _ _ _ _ => trivial))) (cW hta lm_L_186 mw_L_of ⟨(Nat.le_of_ble_eq_true rfl), (Nat.le_of_ble_eq_true rfl)⟩) ⟨fbU, fun U hU hW => ⟨rfl, hU, va_K.moved hW.alike hK, XS.call hX hS hU hW (freeO hD hS hA), hN.warm hW, ZS.call hZ hS hU hW (freeO hD hS hA), LT.call hT hS hU hW (freeO hD hS hA)⟩⟩ rfl rfl hl.1 rfl (lv_room (Nat.le_of_ble_eq_true rfl)) dL_ranks_137 ⟨by show _ ≤ (150 : Nat); omega, by show _ ≤ (900 : Nat); omega⟩) hS hA hP hD (fun r20 wo H locs hw hP hD hS => ?_)
        obtain ⟨hr9, hO⟩ := hw
        have h := h r20 hr9
        refine lv_iconst (v := 1) hx hb dL_ranks_140 (by decide) ?_
        refine lv_icmp_ne (tgt := 148) hx hb dL_ranks_141 (by decide) (fun c0 => ?_) (fun c0 => ?_)
        · have h := h.2 c0
          refine lv_iconst (v := 0) hx hb dL_ranks_148 (by decide) ?_
          exact wB_149 x1_123 x3_123 x4_123 x5_123 x6_123 x8_123 (0 : Int32) σ _ _ _ _ _ _ h hO hP hD hS (lv_sub hl [0, 1, 2, 3, 4, 5, 6] rfl) (by omega) (by omega)
        · have h := h.1 c0
          refine lv_iconst (v := 1) hx hb dL_ranks_144 (by decide) ?_
          refine lv_goto (tgt := 149) hx hb dL_ranks_145 (by decide) ?_
          exact wB_149 x1_123 x3_123 x4_123 x5_123 x6_123 x8_123 (1 : Int32) σ _ _ _ _ _ _ h hO hP hD hS (lv_sub hl [0, 1, 2, 3, 4, 5, 6] rfl) (by omega) (by omega)
  have wB_97 : ∀  (σ : AB) (wo : va_W) (H : Heap) (locs : List Loc) (ls : Array Slot) (cells slots : Nat), wp_L_ranks_b97 K  σ → OB cT a0 σ wo → va_P (dC, dI) vwCl (([] : va_W) ++ wo) H → va_D A (([] : va_W) ++ wo) → va_S A s.heap H locs → lv_has ls 12 [] → cells + (0) ≤ 150 → slots + (0) ≤ 900 → W p l e ({ frames := 9, cells := 150, slots := 900, locals := 168 } : Room) s m [.ref a0].toArray below meth c H locs cells slots Q (F0 m 97 ls []) := by
    intro  σ wo H locs ls cells slots h hO hP hD hS hl hc1 hc2
    unfold wp_L_ranks_b97 at h
    refine lv_iconst (v := 0) hx hb dL_ranks_97 (by decide) ?_
    refine W.widen (k := 150) (n := 900) (by omega) (by omega) ?_
    rw [hQ]
    exact W.zret (ty := .boolean) (v := 0) hx hb hr (bo_n (v := 0) rfl) (fun t ht hW => ⟨⟨0, wo, rfl, ⟨_, h, hO⟩, by rw [ht]; exact P_r hP, D_r hD⟩, hS.F ht⟩) hS.2.2 dL_ranks_98
  have wB_10 : ∀ (n_10 : Nat), ∀ (x1_10 : Int32) (x2_10 : Int32) (x3_10 : Int32) (σ : AB) (wo : va_W) (H : Heap) (locs : List Loc) (ls : Array Slot) (cells slots : Nat), wp_L_ranks_b10 K n_10 x1_10 x2_10 x3_10 σ → OB cT a0 σ wo → va_P (dC, dI) vwCl (([] : va_W) ++ wo) H → va_D A (([] : va_W) ++ wo) → va_S A s.heap H locs → lv_has ls 12 [(0, .ref a0), (1, .int x1_10), (2, .int x2_10), (3, .int x3_10)] → cells + (104 + n_10 * 9) ≤ 150 → slots + (624 + n_10 * 54) ≤ 900 → W p l e ({ frames := 9, cells := 150, slots := 900, locals := 168 } : Room) s m [.ref a0].toArray below meth c H locs cells slots Q (F0 m 10 ls []) := by
    intro n_10
    induction n_10 with
    | zero =>
      intro x1_10 x2_10 x3_10 σ wo H locs ls cells slots h hO hP hD hS hl hc1 hc2
      exact False.elim h
    | succ n_10 ih_10 =>
      have wB_99 : ∀ (x1_99 : Int32) (x3_99 : Int32) (x4_99 : Int32) (σ : AB) (wo : va_W) (H : Heap) (locs : List Loc) (ls : Array Slot) (cells slots : Nat), wp_L_ranks_b99 K (wp_L_ranks_b10 K n_10) x1_99 x3_99 x4_99 σ → OB cT a0 σ wo → va_P (dC, dI) vwCl (([] : va_W) ++ wo) H → va_D A (([] : va_W) ++ wo) → va_S A s.heap H locs → lv_has ls 12 [(0, .ref a0), (1, .int x1_99), (3, .int x3_99), (4, .int x4_99)] → cells + (104 + n_10 * 9) ≤ 150 → slots + (624 + n_10 * 54) ≤ 900 → W p l e ({ frames := 9, cells := 150, slots := 900, locals := 168 } : Room) s m [.ref a0].toArray below meth c H locs cells slots Q (F0 m 99 ls []) := by
        intro x1_99 x3_99 x4_99 σ wo H locs ls cells slots h hO hP hD hS hl hc1 hc2
        unfold wp_L_ranks_b99 at h
        refine lv_iload hx hb dL_ranks_99 (lv_at hl 3 rfl) ?_
        refine lv_istore_n (lv' := [(2, .int x4_99), (0, .ref a0), (1, .int x1_99), (3, .int x3_99), (4, .int x4_99)]) hx hb dL_ranks_101 rfl hl (by decide) rfl (fun ls hl => ?_)
        obtain ⟨v21, e_v⟩ : ∃ y : Int32, y = x3_99 + 1 := ⟨_, rfl⟩
        have h := h v21 e_v
        refine lv_iinc (v := v21) (lv' := [(3, .int v21), (2, .int x4_99), (0, .ref a0), (1, .int x1_99), (4, .int x4_99)]) hx hb dL_ranks_102 hl (k := 3) rfl (by rw [e_v]; rfl) (by decide) rfl (fun ls hl => ?_)
        refine lv_goto (tgt := 10) hx hb dL_ranks_105 (by decide) ?_
        exact ih_10 x1_99 x4_99 v21 σ _ _ _ _ _ _ h hO hP hD hS (lv_sub hl [2, 3, 1, 0] rfl) (by omega) (by omega)
      have wB_79 : ∀ (x1_79 : Int32) (x2_79 : Int32) (x3_79 : Int32) (x4_79 : Int32) (s0_79 : Int32) (σ : AB) (wo : va_W) (H : Heap) (locs : List Loc) (ls : Array Slot) (cells slots : Nat), wp_L_ranks_b79 K (wp_L_ranks_b10 K n_10) x1_79 x2_79 x3_79 x4_79 s0_79 σ → OB cT a0 σ wo → va_P (dC, dI) vwCl (([] : va_W) ++ wo) H → va_D A (([] : va_W) ++ wo) → va_S A s.heap H locs → lv_has ls 12 [(0, .ref a0), (1, .int x1_79), (2, .int x2_79), (3, .int x3_79), (4, .int x4_79)] → cells + (104 + n_10 * 9) ≤ 150 → slots + (624 + n_10 * 54) ≤ 900 → W p l e ({ frames := 9, cells := 150, slots := 900, locals := 168 } : Room) s m [.ref a0].toArray below meth c H locs cells slots Q (F0 m 79 ls [.int s0_79]) := by
        intro x1_79 x2_79 x3_79 x4_79 s0_79 σ wo H locs ls cells slots h hO hP hD hS hl hc1 hc2
        unfold wp_L_ranks_b79 at h
        refine lv_istore (lv' := [(5, .int s0_79), (0, .ref a0), (1, .int x1_79), (2, .int x2_79), (3, .int x3_79), (4, .int x4_79)]) hx hb dL_ranks_79 hl (by decide) rfl (fun ls hl => ?_)
        refine lv_iload hx hb dL_ranks_81 (lv_at hl 0 rfl) ?_
        refine lv_if_lt (tgt := 97) hx hb dL_ranks_83 (by decide) (fun c0 => ?_) (fun c0 => ?_)
        · have h := h.1 c0
          exact wB_97 σ _ _ _ _ _ _ h hO hP hD hS (lv_sub hl [] rfl) (by omega) (by omega)
        · have h := h.2 c0
          refine lv_iload hx hb dL_ranks_86 (lv_at hl 0 rfl) ?_
          refine lv_if_ne (tgt := 99) hx hb dL_ranks_88 (by decide) (fun c0 => ?_) (fun c0 => ?_)
          · have h := h.2 c0
            exact wB_99 x1_79 x3_79 x4_79 σ _ _ _ _ _ _ h hO hP hD hS (lv_sub hl [1, 2, 4, 5] rfl) (by omega) (by omega)
          · have h := h.1 c0
            refine lv_iload hx hb dL_ranks_91 (lv_at hl 5 rfl) ?_
            refine lv_iload_n hx hb dL_ranks_93 rfl (lv_at hl 3 rfl) ?_
            refine lv_icmp_ge (tgt := 99) hx hb dL_ranks_94 (by decide) (fun c0 => ?_) (fun c0 => ?_)
            · have h := h.1 c0
              exact wB_99 x1_79 x3_79 x4_79 σ _ _ _ _ _ _ h hO hP hD hS (lv_sub hl [1, 2, 4, 5] rfl) (by omega) (by omega)
            · have h := h.2 c0
              exact wB_97 σ _ _ _ _ _ _ h hO hP hD hS (lv_sub hl [] rfl) (by omega) (by omega)
      have wB_53 : ∀ (x1_53 : Int32) (x2_53 : Int32) (x3_53 : Int32) (x4_53 : Int32) (s0_53 : Int32) (σ : AB) (wo : va_W) (H : Heap) (locs : List Loc) (ls : Array Slot) (cells slots : Nat), wp_L_ranks_b53 K (wp_L_ranks_b10 K n_10) x1_53 x2_53 x3_53 x4_53 s0_53 σ → OB cT a0 σ wo → va_P (dC, dI) vwCl (([] : va_W) ++ wo) H → va_D A (([] : va_W) ++ wo) → va_S A s.heap H locs → lv_has ls 12 [(0, .ref a0), (1, .int x1_53), (2, .int x2_53), (3, .int x3_53), (4, .int x4_53)] → cells + (108 + n_10 * 9) ≤ 150 → slots + (648 + n_10 * 54) ≤ 900 → W p l e ({ frames := 9, cells := 150, slots := 900, locals := 168 } : Room) s m [.ref a0].toArray below meth c H locs cells slots Q (F0 m 53 ls [.int s0_53]) := by
        intro x1_53 x2_53 x3_53 x4_53 s0_53 σ wo H locs ls cells slots h hO hP hD hS hl hc1 hc2
        unfold wp_L_ranks_b53 at h
        refine lv_istore (lv' := [(5, .int s0_53), (0, .ref a0), (1, .int x1_53), (2, .int x2_53), (3, .int x3_53), (4, .int x4_53)]) hx hb dL_ranks_53 hl (by decide) rfl (fun ls hl => ?_)
        refine lv_iload hx hb dL_ranks_55 (lv_at hl 0 rfl) ?_
        refine lv_if_eq (tgt := 65) hx hb dL_ranks_57 (by decide) (fun c0 => ?_) (fun c0 => ?_)
        · have h := h.1 c0
          refine lv_aload_n hx hb dL_ranks_65 rfl (lv_at hl 1 rfl) ?_
          refine lv_iload_n hx hb dL_ranks_66 rfl (lv_at hl 3 rfl) ?_
          refine lv_iconst (v := 1) hx hb dL_ranks_67 (by decide) ?_
          refine coI (vx_runSW (As := [.ref a0, .int x2_53, .int 1]) (rest := []) ⟨hx, hb, hml, hown, hta⟩ (oc_L_spellOf l hl9 dC dI cT hO (P_r hP) ((D_r hD).weaken (fun _ _ _ _ => trivial))) (cW hta lm_L_247 mw_L_spellOf ⟨(Nat.le_of_ble_eq_true rfl), (Nat.le_of_ble_eq_true rfl)⟩) ⟨fbU, fun U hU hW => ⟨rfl, hU, va_K.moved hW.alike hK, XS.call hX hS hU hW (freeO hD hS hA), hN.warm hW, ZS.call hZ hS hU hW (freeO hD hS hA), LT.call hT hS hU hW (freeO hD hS hA)⟩⟩ rfl rfl hl.1 rfl (lv_room (Nat.le_of_ble_eq_true rfl)) dL_ranks_68 ⟨by show _ ≤ (150 : Nat); omega, by show _ ≤ (900 : Nat); omega⟩) hS hA hP hD (fun r22 wo H locs hw hP hD hS => ?_)
          obtain ⟨hr9, hO⟩ := hw
          have h := h r22 hr9
          refine lv_aload_n hx hb dL_ranks_71 rfl (lv_at hl 1 rfl) ?_
          refine lv_iload hx hb dL_ranks_72 (lv_at hl 5 rfl) ?_
          refine lv_iconst (v := 1) hx hb dL_ranks_74 (by decide) ?_
          refine coI (vx_runSW (As := [.ref a0, .int x4_53, .int 1]) (rest := [.int r22]) ⟨hx, hb, hml, hown, hta⟩ (oc_L_spellOf l hl9 dC dI cT hO (P_r hP) ((D_r hD).weaken (fun _ _ _ _ => trivial))) (cW hta lm_L_247 mw_L_spellOf ⟨(Nat.le_of_ble_eq_true rfl), (Nat.le_of_ble_eq_true rfl)⟩) ⟨fbU, fun U hU hW => ⟨rfl, hU, va_K.moved hW.alike hK, XS.call hX hS hU hW (freeO hD hS hA), hN.warm hW, ZS.call hZ hS hU hW (freeO hD hS hA), LT.call hT hS hU hW (freeO hD hS hA)⟩⟩ rfl rfl hl.1 rfl (lv_room (Nat.le_of_ble_eq_true rfl)) dL_ranks_75 ⟨by show _ ≤ (150 : Nat); omega, by show _ ≤ (900 : Nat); omega⟩) hS hA hP hD (fun r23 wo H locs hw hP hD hS => ?_)
          obtain ⟨hr9, hO⟩ := hw
          have h := h r23 hr9
          refine lv_isub hx hb dL_ranks_78 ?_
          exact wB_79 x1_53 x2_53 x3_53 x4_53 (r22 - r23) σ _ _ _ _ _ _ h hO hP hD hS (lv_sub hl [1, 2, 3, 4, 5] rfl) (by omega) (by omega)
        · have h := h.2 c0
          refine lv_iload hx hb dL_ranks_60 (lv_at hl 0 rfl) ?_
          refine lv_goto (tgt := 79) hx hb dL_ranks_62 (by decide) ?_
          exact wB_79 x1_53 x2_53 x3_53 x4_53 s0_53 σ _ _ _ _ _ _ h hO hP hD hS (lv_sub hl [1, 2, 3, 4, 5] rfl) (by omega) (by omega)
      intro x1_10 x2_10 x3_10 σ wo H locs ls cells slots h hO hP hD hS hl hc1 hc2
      rw [wp_L_ranks_b10] at h
      refine lv_iload_n hx hb dL_ranks_10 rfl (lv_at hl 3 rfl) ?_
      refine lv_iload_n hx hb dL_ranks_11 rfl (lv_at hl 1 rfl) ?_
      refine lv_icmp_ge (tgt := 108) hx hb dL_ranks_12 (by decide) (fun c0 => ?_) (fun c0 => ?_)
      · have h := h.1 c0
        refine lv_bipush (v := -14) hx hb dL_ranks_108 (by decide) ?_
        refine lv_istore_n (lv' := [(3, .int (-14)), (0, .ref a0), (1, .int x1_10), (2, .int x2_10)]) hx hb dL_ranks_110 rfl hl (by decide) rfl (fun ls hl => ?_)
        refine lv_iconst (v := 0) hx hb dL_ranks_111 (by decide) ?_
        refine lv_istore (lv' := [(4, .int 0), (3, .int (-14)), (0, .ref a0), (1, .int x1_10), (2, .int x2_10)]) hx hb dL_ranks_112 hl (by decide) rfl (fun ls hl => ?_)
        refine lv_iconst (v := 0) hx hb dL_ranks_114 (by decide) ?_
        refine lv_istore (lv' := [(5, .int 0), (4, .int 0), (3, .int (-14)), (0, .ref a0), (1, .int x1_10), (2, .int x2_10)]) hx hb dL_ranks_115 hl (by decide) rfl (fun ls hl => ?_)
        refine lv_dconst0 hx hb dL_ranks_117 ?_
        refine lv_dstore (lv' := [(6, .double FP.dconst0), (5, .int 0), (4, .int 0), (3, .int (-14)), (0, .ref a0), (1, .int x1_10), (2, .int x2_10)]) hx hb dL_ranks_118 hl (by decide) rfl (fun ls hl => ?_)
        refine lv_iconst (v := 0) hx hb dL_ranks_120 (by decide) ?_
        refine lv_istore (lv' := [(8, .int 0), (6, .double FP.dconst0), (5, .int 0), (4, .int 0), (3, .int (-14)), (0, .ref a0), (1, .int x1_10), (2, .int x2_10)]) hx hb dL_ranks_121 hl (by decide) rfl (fun ls hl => ?_)
        exact wB_123 7 x1_10 (-14 : Int32) (0 : Int32) (0 : Int32) FP.dconst0 (0 : Int32) σ _ _ _ _ _ _ h hO hP hD hS (lv_sub hl [5, 6, 4, 3, 2, 1, 0] rfl) (by omega) (by omega)
      · have h := h.2 c0
        refine lv_aload_n hx hb dL_ranks_15 rfl (lv_at hl 0 rfl) ?_
        refine lv_iload_n hx hb dL_ranks_16 rfl (lv_at hl 3 rfl) ?_
        refine coI (vx_runSW (As := [.ref a0, .int x3_10]) (rest := []) ⟨hx, hb, hml, hown, hta⟩ (oc_L_ranked l hl9 dC dI cT hO (P_r hP) ((D_r hD).weaken (fun _ _ _ _ => trivial))) (cW hta lm_L_293 mw_L_ranked ⟨(Nat.le_of_ble_eq_true rfl), (Nat.le_of_ble_eq_true rfl)⟩) ⟨fbU, fun U hU hW => ⟨rfl, hU, va_K.moved hW.alike hK, XS.call hX hS hU hW (freeO hD hS hA), hN.warm hW, ZS.call hZ hS hU hW (freeO hD hS hA), LT.call hT hS hU hW (freeO hD hS hA)⟩⟩ rfl rfl hl.1 rfl (lv_room (Nat.le_of_ble_eq_true rfl)) dL_ranks_17 ⟨by show _ ≤ (150 : Nat); omega, by show _ ≤ (900 : Nat); omega⟩) hS hA hP hD (fun r24 wo H locs hw hP hD hS => ?_)
        obtain ⟨hr9, hO⟩ := hw
        have h := h r24 hr9
        refine lv_istore (lv' := [(4, .int r24), (0, .ref a0), (1, .int x1_10), (2, .int x2_10), (3, .int x3_10)]) hx hb dL_ranks_20 hl (by decide) rfl (fun ls hl => ?_)
        refine lv_iload hx hb dL_ranks_22 (lv_at hl 0 rfl) ?_
        refine lv_if_ge (tgt := 31) hx hb dL_ranks_24 (by decide) (fun c0 => ?_) (fun c0 => ?_)
        · have h := h.1 c0
          refine lv_iload_n hx hb dL_ranks_31 rfl (lv_at hl 3 rfl) ?_
          refine lv_if_ge (tgt := 39) hx hb dL_ranks_32 (by decide) (fun c0 => ?_) (fun c0 => ?_)
          · have h := h.1 c0
            refine lv_aload_n hx hb dL_ranks_39 rfl (lv_at hl 1 rfl) ?_
            refine lv_iload hx hb dL_ranks_40 (lv_at hl 0 rfl) ?_
            refine lv_iconst (v := 0) hx hb dL_ranks_42 (by decide) ?_
            refine coI (vx_runSW (As := [.ref a0, .int r24, .int 0]) (rest := []) ⟨hx, hb, hml, hown, hta⟩ (oc_L_spellOf l hl9 dC dI cT hO (P_r hP) ((D_r hD).weaken (fun _ _ _ _ => trivial))) (cW hta lm_L_247 mw_L_spellOf ⟨(Nat.le_of_ble_eq_true rfl), (Nat.le_of_ble_eq_true rfl)⟩) ⟨fbU, fun U hU hW => ⟨rfl, hU, va_K.moved hW.alike hK, XS.call hX hS hU hW (freeO hD hS hA), hN.warm hW, ZS.call hZ hS hU hW (freeO hD hS hA), LT.call hT hS hU hW (freeO hD hS hA)⟩⟩ rfl rfl hl.1 rfl (lv_room (Nat.le_of_ble_eq_true rfl)) dL_ranks_43 ⟨by show _ ≤ (150 : Nat); omega, by show _ ≤ (900 : Nat); omega⟩) hS hA hP hD (fun r25 wo H locs hw hP hD hS => ?_)
            obtain ⟨hr9, hO⟩ := hw
            have h := h r25 hr9
            refine lv_aload_n hx hb dL_ranks_46 rfl (lv_at hl 1 rfl) ?_
            refine lv_iload_n hx hb dL_ranks_47 rfl (lv_at hl 3 rfl) ?_
            refine lv_iconst (v := 0) hx hb dL_ranks_48 (by decide) ?_
            refine coI (vx_runSW (As := [.ref a0, .int x2_10, .int 0]) (rest := [.int r25]) ⟨hx, hb, hml, hown, hta⟩ (oc_L_spellOf l hl9 dC dI cT hO (P_r hP) ((D_r hD).weaken (fun _ _ _ _ => trivial))) (cW hta lm_L_247 mw_L_spellOf ⟨(Nat.le_of_ble_eq_true rfl), (Nat.le_of_ble_eq_true rfl)⟩) ⟨fbU, fun U hU hW => ⟨rfl, hU, va_K.moved hW.alike hK, XS.call hX hS hU hW (freeO hD hS hA), hN.warm hW, ZS.call hZ hS hU hW (freeO hD hS hA), LT.call hT hS hU hW (freeO hD hS hA)⟩⟩ rfl rfl hl.1 rfl (lv_room (Nat.le_of_ble_eq_true rfl)) dL_ranks_49 ⟨by show _ ≤ (150 : Nat); omega, by show _ ≤ (900 : Nat); omega⟩) hS hA hP hD (fun r26 wo H locs hw hP hD hS => ?_)
            obtain ⟨hr9, hO⟩ := hw
            have h := h r26 hr9
            refine lv_isub hx hb dL_ranks_52 ?_
            exact wB_53 x1_10 x2_10 x3_10 r24 (r25 - r26) σ _ _ _ _ _ _ h hO hP hD hS (lv_sub hl [1, 2, 3, 4, 0] rfl) (by omega) (by omega)
          · have h := h.2 c0
            refine lv_iconst (v := 1) hx hb dL_ranks_35 (by decide) ?_
            refine lv_goto (tgt := 53) hx hb dL_ranks_36 (by decide) ?_
            exact wB_53 x1_10 x2_10 x3_10 r24 (1 : Int32) σ _ _ _ _ _ _ h hO hP hD hS (lv_sub hl [1, 2, 3, 4, 0] rfl) (by omega) (by omega)
        · have h := h.2 c0
          refine lv_iconst (v := -1) hx hb dL_ranks_27 (by decide) ?_
          refine lv_goto (tgt := 53) hx hb dL_ranks_28 (by decide) ?_
          exact wB_53 x1_10 x2_10 x3_10 r24 (-1 : Int32) σ _ _ _ _ _ _ h hO hP hD hS (lv_sub hl [1, 2, 3, 4, 0] rfl) (by omega) (by omega)
  unfold wp_L_ranks at h
  have hc1 : (0 : Nat) + 150 ≤ 150 := Nat.le_of_eq (Nat.zero_add _)
  have hc2 : (0 : Nat) + 900 ≤ 900 := Nat.le_of_eq (Nat.zero_add _)
  clear hP0 hD0 hAe
  obtain ⟨wo, e_w⟩ : ∃ z, z = W0 := ⟨W0, rfl⟩
  rw [← e_w] at hO hP hD
  clear e_w
  refine lv_aload_n hx hb dL_ranks_0 rfl (lv_at hl 0 rfl) ?_
  refine lv_iconst (v := 1) hx hb dL_ranks_1 (by decide) ?_
  obtain ⟨hq, h⟩ := h
  refine coI (va_runV (As := [.int 1]) (rest := []) ⟨hx, hb, hml, hown, hta⟩ (oc_X11_account l hl9 dC dI cT hO hq (P_r hP) ((D_r hD).weaken (fun _ _ _ _ => trivial))) (cV hta lm_L_229 md_X11_account ⟨(Nat.le_of_ble_eq_true rfl), (Nat.le_of_ble_eq_true rfl)⟩) ⟨fbU, recvO hK hO (P_r hP), fun U hU hW => ⟨rfl, hU, va_K.moved hW.alike hK, XS.call hX hS hU hW (freeO hD hS hA), hN.warm hW, ZS.call hZ hS hU hW (freeO hD hS hA), LT.call hT hS hU hW (freeO hD hS hA)⟩⟩ rfl rfl hl.1 rfl (lv_room (Nat.le_of_ble_eq_true rfl)) dL_ranks_2 ⟨by show _ ≤ (150 : Nat); omega, by show _ ≤ (900 : Nat); omega⟩) hS hA hP hD (fun r27 wo H locs hw hP hD hS => ?_)
  obtain ⟨hr9, hO⟩ := hw
  have h := h r27 hr9
  refine lv_istore_n (lv' := [(1, .int r27), (0, .ref a0)]) hx hb dL_ranks_5 rfl hl (by decide) rfl (fun ls hl => ?_)
  refine lv_iconst (v := -1) hx hb dL_ranks_6 (by decide) ?_
  refine lv_istore_n (lv' := [(2, .int (-1)), (1, .int r27), (0, .ref a0)]) hx hb dL_ranks_7 rfl hl (by decide) rfl (fun ls hl => ?_)
  refine lv_iconst (v := 0) hx hb dL_ranks_8 (by decide) ?_
  refine lv_istore_n (lv' := [(3, .int 0), (2, .int (-1)), (1, .int r27), (0, .ref a0)]) hx hb dL_ranks_9 rfl hl (by decide) rfl (fun ls hl => ?_)
  exact wB_10 5 r27 (-1 : Int32) (0 : Int32) σ _ _ _ _ _ _ h hO hP hD hS (lv_sub hl [3, 2, 1, 0] rfl) (by omega) (by omega)
