/-! THE LAW's methods (gen/laws41.py) -/
def wp_L_drawn_b320 (K : (AB → Prop)) (sn : Nat) (sg : Nat → Int32) (k_245 : Int32 → Int32 → Int32 → AB → Prop) (x2_320 : Int32) (x3_320 : Int32) (x4_320 : Int32) (tr6_320 : List Nat) (σ : AB) : Prop :=
wp_L_write (fun (r2 : Int32) (σ1 : AB) =>
(r2 = x4_320 →
∀ v3 : Int32, v3 = x4_320 + 1 →
k_245 x2_320 x3_320 v3 σ1) ∧
(¬ r2 = x4_320 →
False)) tr6_320 σ
def wp_L_drawn_b245 (K : (AB → Prop)) (sn : Nat) (sg : Nat → Int32)  : Nat → Int32 → Int32 → Int32 → AB → Prop
  | 0, _, _, _, _ => False
  | n + 1, x2_245, x3_245, x4_245, σ =>
    (¬ (4 : Int32) = 0) ∧
    ∀ v4 : Int32, v4 = (((x2_245.toUInt32 >>> ((4 : Int32).toUInt32 &&& Int32.toUInt32 31)).toInt32) - ((x2_245.toUInt32 >>> ((4 : Int32).toUInt32 &&& Int32.toUInt32 31)).toInt32) / (4 : Int32) * (4 : Int32)) →
    (((1 : Int32) + v4) ≤ x4_245 →
    K σ) ∧
    (¬ ((1 : Int32) + v4) ≤ x4_245 →
    wp_L_cell (fun (r6 : Int32) (σ5 : AB) =>
    ∀ v7 : Int32, v7 = (r6.toUInt32 >>> ((1 : Int32).toUInt32 &&& Int32.toUInt32 31)).toInt32 →
    wp_L_store (fun (ts273_9 : List Nat) (σ8 : AB) =>
    (¬ (2 : Int32) = 0) ∧
    ∀ v10 : Int32, v10 = (v7 - v7 / (2 : Int32) * (2 : Int32)) →
    (v10 = 0 →
    ((([] : List Nat)).length + (ts273_9 : List Nat).length ≤ 16) ∧
    wp_L_cell (fun (r14 : Int32) (σ13 : AB) =>
    wp_L_store (fun (ts309_16 : List Nat) (σ15 : AB) =>
    (((([] : List Nat) ++ ts273_9)).length + (ts309_16 : List Nat).length ≤ 16) ∧
    ((((([] : List Nat) ++ ts273_9) ++ ts309_16)).length < 16) ∧
    wp_L_drawn_b320 K sn sg (wp_L_drawn_b245 K sn sg n) x2_245 x3_245 x4_245 ((([] : List Nat) ++ ts273_9) ++ ts309_16) σ15) ((r14.toUInt32 >>> ((1 : Int32).toUInt32 &&& Int32.toUInt32 31)).toInt32) x3_245 σ13) sn sg ((17 : Int32) + x4_245) σ8) ∧
    (¬ v10 = 0 →
    wp_L_drawn_b320 K sn sg (wp_L_drawn_b245 K sn sg n) x2_245 x3_245 x4_245 ts273_9 σ8)) v7 x3_245 σ5) sn sg ((13 : Int32) + x4_245) σ)
def wp_L_drawn_b224 (K : (AB → Prop)) (sn : Nat) (sg : Nat → Int32) (k_130 : Int32 → Int32 → Int32 → AB → Prop) (x2_224 : Int32) (x3_224 : Int32) (x4_224 : Int32) (s0_224 : Int32) (σ : AB) : Prop :=
((-1000) ≤ s0_224 →
∀ v19 : Int32, v19 = x4_224 + 1 →
k_130 x2_224 x3_224 v19 σ) ∧
(¬ (-1000) ≤ s0_224 →
False)
def wp_L_drawn_b165 (K : (AB → Prop)) (sn : Nat) (sg : Nat → Int32) (k_130 : Int32 → Int32 → Int32 → AB → Prop) (x2_165 : Int32) (x3_165 : Int32) (x4_165 : Int32) (x5_165 : Int32) (s0_165 : Int32) (σ : AB) : Prop :=
∀ r20 : Int32, r20 = f_of σ.1 x4_165 (1 : Int32) →
(s0_165 = 0 →
∀ r21 : Int32, r21 = f_of σ.1 x4_165 (2 : Int32) →
(¬ ((r21 - r20) + 1) = 0) ∧
∀ v22 : Int32, v22 = (x5_165 - x5_165 / ((r21 - r20) + 1) * ((r21 - r20) + 1)) →
∀ (r23 : Int32) (σ24 : AB), (((¬ ∃ c, OKpour σ.1 x4_165 (r20 + v22) c) ∧ r23 ≤ -1001 ∧ REFUSED σ σ24) ∨ (∃ c, OKpour σ.1 x4_165 (r20 + v22) c ∧ r23 = σ.1.1.2.2.2.2.1 c ∧ σ24.1 = (bPour σ.1.1 c (r20 + v22), σ.1.2) ∧ PUSHED σ σ24 ∧ KEPTR σ σ24)) →
GOK σ24 →
wp_L_drawn_b224 K sn sg k_130 x2_165 x3_165 x4_165 r23 σ24) ∧
(¬ s0_165 = 0 →
(¬ (2000 : Int32) = 0) ∧
∀ v25 : Int32, v25 = (x5_165 - x5_165 / (2000 : Int32) * (2000 : Int32)) →
∀ (r26 : Int32) (σ27 : AB), (((¬ ∃ c, OKladle σ.1 x4_165 (v25 - 1000) c) ∧ r26 ≤ -1001 ∧ REFUSED σ σ27) ∨ (∃ c, OKladle σ.1 x4_165 (v25 - 1000) c ∧ (r26 = 0 ∨ r26 = 1) ∧ σ27.1 = (bLadle σ.1.1 c (FP.fdiv (FP.i2f (v25 - 1000)) (1120403456 : UInt32)), σ.1.2) ∧ PUSHED σ σ27 ∧ KEPTR σ σ27)) →
GOK σ27 →
wp_L_drawn_b224 K sn sg k_130 x2_165 x3_165 x4_165 r26 σ27)
def wp_L_drawn_b130 (K : (AB → Prop)) (sn : Nat) (sg : Nat → Int32)  : Nat → Int32 → Int32 → Int32 → AB → Prop
  | 0, _, _, _, _ => False
  | n + 1, x2_130, x3_130, x4_130, σ =>
    (x3_130 ≤ x4_130 →
    wp_L_drawn_b245 K sn sg 6 x2_130 x3_130 (0 : Int32) σ) ∧
    (¬ x3_130 ≤ x4_130 →
    wp_L_cell (fun (r29 : Int32) (σ28 : AB) =>
    ∀ v30 : Int32, v30 = (r29.toUInt32 >>> ((1 : Int32).toUInt32 &&& Int32.toUInt32 31)).toInt32 →
    ∀ r31 : Int32, r31 = f_of σ28.1 x4_130 (0 : Int32) →
    (r31 = 1 →
    wp_L_drawn_b165 K sn sg (wp_L_drawn_b130 K sn sg n) x2_130 x3_130 x4_130 v30 (1 : Int32) σ28) ∧
    (¬ r31 = 1 →
    wp_L_drawn_b165 K sn sg (wp_L_drawn_b130 K sn sg n) x2_130 x3_130 x4_130 v30 (0 : Int32) σ28)) sn sg ((7 : Int32) + x4_130) σ)
def wp_L_drawn_b110 (K : (AB → Prop)) (sn : Nat) (sg : Nat → Int32) (k_25 : Int32 → Int32 → Int32 → AB → Prop) (x2_110 : Int32) (x3_110 : Int32) (x4_110 : Int32) (s0_110 : Int32) (σ : AB) : Prop :=
(s0_110 = x4_110 →
∀ v32 : Int32, v32 = x4_110 + 1 →
k_25 x2_110 x3_110 v32 σ) ∧
(¬ s0_110 = x4_110 →
False)
def wp_L_drawn_b85 (K : (AB → Prop)) (sn : Nat) (sg : Nat → Int32) (k_25 : Int32 → Int32 → Int32 → AB → Prop) (x2_85 : Int32) (x3_85 : Int32) (x4_85 : Int32) (x5_85 : Int32) (x6_85 : Int32) (s0_85 : Int32) (σ : AB) : Prop :=
(¬ (4 : Int32) = 0) ∧
∀ v33 : Int32, v33 = (x5_85 - x5_85 / (4 : Int32) * (4 : Int32)) →
(v33 = 3 →
∀ (r36 : Int32) (σ37 : AB), ((¬ σ.1.2.1 < 6 ∧ r36 < 0 ∧ REFUSED σ σ37) ∨ (σ.1.2.1 < 6 ∧ r36 = nI σ.1.2.1 ∧ σ37.1 = (bNew σ.1.1 σ.1.2.1 1 (-99) 99 0, σ.1.2.1 + 1, σ.1.2.2) ∧ PUSHED σ σ37 ∧ KEPTR σ σ37)) →
GOK σ37 →
wp_L_drawn_b110 K sn sg k_25 x2_85 x3_85 x4_85 r36 σ37) ∧
(¬ v33 = 3 →
∀ (r34 : Int32) (σ35 : AB), ((¬ OKdrams σ.1 x6_85 s0_85 ∧ r34 < 0 ∧ REFUSED σ σ35) ∨ (OKdrams σ.1 x6_85 s0_85 ∧ r34 = nI σ.1.2.1 ∧ σ35.1 = (bNew σ.1.1 σ.1.2.1 0 x6_85 s0_85 (v0 x6_85 s0_85), σ.1.2.1 + 1, σ.1.2.2) ∧ PUSHED σ σ35 ∧ KEPTR σ σ35)) →
GOK σ35 →
wp_L_drawn_b110 K sn sg k_25 x2_85 x3_85 x4_85 r34 σ35)
def wp_L_drawn_b63 (K : (AB → Prop)) (sn : Nat) (sg : Nat → Int32) (k_25 : Int32 → Int32 → Int32 → AB → Prop) (x2_63 : Int32) (x3_63 : Int32) (x4_63 : Int32) (x5_63 : Int32) (s0_63 : Int32) (σ : AB) : Prop :=
(¬ (5 : Int32) = 0) ∧
∀ v38 : Int32, v38 = (x5_63 - x5_63 / (5 : Int32) * (5 : Int32)) →
(v38 = 0 →
wp_L_drawn_b85 K sn sg k_25 x2_63 x3_63 x4_63 x5_63 s0_63 (99 : Int32) σ) ∧
(¬ v38 = 0 →
(¬ (30 : Int32) = 0) ∧
∀ v39 : Int32, v39 = (((x5_63.toUInt32 >>> ((9 : Int32).toUInt32 &&& Int32.toUInt32 31)).toInt32) - ((x5_63.toUInt32 >>> ((9 : Int32).toUInt32 &&& Int32.toUInt32 31)).toInt32) / (30 : Int32) * (30 : Int32)) →
wp_L_drawn_b85 K sn sg k_25 x2_63 x3_63 x4_63 x5_63 s0_63 v39 σ)
def wp_L_drawn_b25 (K : (AB → Prop)) (sn : Nat) (sg : Nat → Int32)  : Nat → Int32 → Int32 → Int32 → AB → Prop
  | 0, _, _, _, _ => False
  | n + 1, x2_25, x3_25, x4_25, σ =>
    (x3_25 ≤ x4_25 →
    wp_L_drawn_b130 K sn sg 7 x2_25 x3_25 (0 : Int32) σ) ∧
    (¬ x3_25 ≤ x4_25 →
    wp_L_cell (fun (r41 : Int32) (σ40 : AB) =>
    ∀ v42 : Int32, v42 = (r41.toUInt32 >>> ((1 : Int32).toUInt32 &&& Int32.toUInt32 31)).toInt32 →
    (¬ (5 : Int32) = 0) ∧
    ∀ v43 : Int32, v43 = (v42 - v42 / (5 : Int32) * (5 : Int32)) →
    (v43 = 0 →
    wp_L_drawn_b63 K sn sg (wp_L_drawn_b25 K sn sg n) x2_25 x3_25 x4_25 v42 (-99 : Int32) σ40) ∧
    (¬ v43 = 0 →
    (¬ (30 : Int32) = 0) ∧
    ∀ v44 : Int32, v44 = ((-((v42.toUInt32 >>> ((3 : Int32).toUInt32 &&& Int32.toUInt32 31)).toInt32)) - (-((v42.toUInt32 >>> ((3 : Int32).toUInt32 &&& Int32.toUInt32 31)).toInt32)) / (30 : Int32) * (30 : Int32)) →
    wp_L_drawn_b63 K sn sg (wp_L_drawn_b25 K sn sg n) x2_25 x3_25 x4_25 v42 v44 σ40)) sn sg ((1 : Int32) + x4_25) σ)
def wp_L_drawn (K : (AB → Prop)) (sn : Nat) (sg : Nat → Int32) (σ : AB) : Prop :=
wp_L_cell (fun (r46 : Int32) (σ45 : AB) =>
∀ v47 : Int32, v47 = (r46.toUInt32 >>> ((1 : Int32).toUInt32 &&& Int32.toUInt32 31)).toInt32 →
(¬ (4 : Int32) = 0) ∧
∀ v48 : Int32, v48 = (v47 - v47 / (4 : Int32) * (4 : Int32)) →
∀ v49 : Int32, v49 = ((2 : Int32) + v48) →
wp_L_drawn_b25 K sn sg 7 v47 v49 (0 : Int32) σ45) sn sg (0 : Int32) σ
set_option maxHeartbeats 4000000 in
set_option maxRecDepth 100000 in
theorem lc_L_drawn (l : Launch) (hl9 : l.stackTraces = false) (dC : Nat → ClassId) (dI : Nat → Nat → Nat) (cT : Nat → ClassId) {Hh : Heap} {b9 sn : Nat} {sg : Nat → Int32} {K : (AB → Prop)} (h : wp_L_drawn K sn sg σ0) : Met l yL_drawn (wA yL_drawn cL_drawn 9 (some (.object "CauldronTypes"))) ({ frames := 9, cells := 689, slots := 17532, locals := 181 } : Room) (PUS b9 sn sg dC dI cT [.ref b9] Hh (va_A ([] : va_W) Hh.size)) (va_Qr (S := va_W) (fun _ => True) (fun u b t => (∃ σ9, K σ9 ∧ OB cT b σ9 u) ∧ va_P (dC, dI) vwCl u t.heap ∧ va_D (va_A ([] : va_W) Hh.size) u) (va_A ([] : va_W) Hh.size)) 689 17532 (va_A ([] : va_W) Hh.size) := by
  refine Met.ofW (cc := cL_drawn) (maxL := 9) (ret := (some (.object "CauldronTypes"))) (by decide) rfl ?_
  intro p e s m args below meth c s₁ B hml hv
  obtain ⟨rfl, hH, hK, hX, hN, hZ, hT, hC⟩ := hv
  subst hH
  have hx := B.exec
  have hb := B.bytes
  have hr := B.returns
  have hta : ∀ w ∈ ALLW, w.before [.ref b9].toArray s = true := fun w hw => atoms_spec (ws := wA yL_drawn cL_drawn 9 (some (.object "CauldronTypes"))) B.pre w (List.mem_cons_of_mem _ hw)
  have hown : s.vm.findClass RL = some m.cls := findClass_of_methodNamed B.named
  have hlocks := B.notSynchronized
  have hD : va_D (va_A ([] : va_W) s.heap.size) ([] : va_W) := ⟨fun i j p q h => by simp at h, fun k q h => by simp at h⟩
  generalize hAe : va_A ([] : va_W) s.heap.size = A at hD hX hZ hT hC ⊢
  have hP : va_P (dC, dI) vwCl ([] : va_W) s.heap := fun k q h => by simp at h
  have hA : ∀ q : Nat, s.heap.size ≤ q → A q := fun q h => by rw [← hAe]; exact Or.inr h
  have hS : va_S A s.heap s.heap [] := va_S.rf
  have hl := lv_entry [.ref b9] (n := 9) (Nat.le_of_ble_eq_true rfl)
  rw [lg_entry_eq]
  generalize (lg_sl [.ref b9] ++ List.replicate (9 - (lg_sl [.ref b9]).length) Slot.unset).toArray = ls at hl ⊢
  have hl : lv_has ls 9 [(0, .ref b9)] := hl
  obtain ⟨Q, hQ⟩ : ∃ Q, Q = MQ below (va_Qr (S := va_W) (fun _ => True) (fun u b t => (∃ σ9, K σ9 ∧ OB cT b σ9 u) ∧ va_P (dC, dI) vwCl u t.heap ∧ va_D A u) A) [.ref b9].toArray s 689 17532 A := ⟨_, rfl⟩
  rw [← hQ]
  have rest8 : ∀ (a0 : Nat) (σ : AB) (wo : va_W) (H : Heap) (locs : List Loc) (ls : Array Slot) (cells slots : Nat), wp_L_drawn K sn sg σ → OB cT a0 σ wo → va_P (dC, dI) vwCl (([] : va_W) ++ wo) H → va_D A (([] : va_W) ++ wo) → va_S A s.heap H locs → lv_has ls 9 [(1, .ref a0), (0, .ref b9)] → cells + 569 ≤ 689 → slots + 16524 ≤ 17532 → W p l e ({ frames := 9, cells := 689, slots := 17532, locals := 181 } : Room) s m [.ref b9].toArray below meth c H locs cells slots Q (F0 m 8 ls []) := by
    clear hP hD hS hl h
    intro a0
    have wB_245 : ∀ (n_245 : Nat), ∀ (x2_245 : Int32) (x3_245 : Int32) (x4_245 : Int32) (σ : AB) (wo : va_W) (H : Heap) (locs : List Loc) (ls : Array Slot) (cells slots : Nat), wp_L_drawn_b245 K sn sg n_245 x2_245 x3_245 x4_245 σ → OB cT a0 σ wo → va_P (dC, dI) vwCl (([] : va_W) ++ wo) H → va_D A (([] : va_W) ++ wo) → va_S A s.heap H locs → lv_has ls 9 [(0, .ref b9), (1, .ref a0), (2, .int x2_245), (3, .int x3_245), (4, .int x4_245)] → cells + (0 + n_245 * 82) ≤ 689 → slots + (0 + n_245 * 2677) ≤ 17532 → W p l e ({ frames := 9, cells := 689, slots := 17532, locals := 181 } : Room) s m [.ref b9].toArray below meth c H locs cells slots Q (F0 m 245 ls []) := by
      intro n_245
      induction n_245 with
      | zero =>
        intro x2_245 x3_245 x4_245 σ wo H locs ls cells slots h hO hP hD hS hl hc1 hc2
        exact False.elim h
      | succ n_245 ih_245 =>
        have wB_320 : ∀ (x2_320 : Int32) (x3_320 : Int32) (x4_320 : Int32) (tr6_320 : List Nat) (ar6_320 : Nat) (vr6_320 : Nat) (gr6_320 : Nat → Int32) (σ : AB) (wo : va_W) (H : Heap) (locs : List Loc) (ls : Array Slot) (cells slots : Nat), TXT tr6_320 gr6_320 → wp_L_drawn_b320 K sn sg (wp_L_drawn_b245 K sn sg n_245) x2_320 x3_320 x4_320 tr6_320 σ → OB cT a0 σ wo → va_P (dC, dI) vwCl (([(ar6_320, .inr (0, [.ref vr6_320, .int 0, .int 0, .int 0])), (vr6_320, .inl (cT 6, (tr6_320).length, .inl gr6_320))] : va_W) ++ wo) H → va_D A (([(ar6_320, .inr (0, [.ref vr6_320, .int 0, .int 0, .int 0])), (vr6_320, .inl (cT 6, (tr6_320).length, .inl gr6_320))] : va_W) ++ wo) → va_S A s.heap H locs → lv_has ls 9 [(0, .ref b9), (1, .ref a0), (2, .int x2_320), (3, .int x3_320), (4, .int x4_320), (6, .ref ar6_320)] → cells + (24 + n_245 * 82) ≤ 689 → slots + (291 + n_245 * 2677) ≤ 17532 → W p l e ({ frames := 9, cells := 689, slots := 17532, locals := 181 } : Room) s m [.ref b9].toArray below meth c H locs cells slots Q (F0 m 320 ls []) := by
          intro x2_320 x3_320 x4_320 tr6_320 ar6_320 vr6_320 gr6_320 σ wo H locs ls cells slots hr6_320 h hO hP hD hS hl hc1 hc2
          unfold wp_L_drawn_b320 at h
          refine lv_aload_n hx hb dL_drawn_320 rfl (lv_at hl 1 rfl) ?_
          refine lv_aload hx hb dL_drawn_321 (lv_at hl 5 rfl) ?_
          have hP9 : va_P (dC, dI) vwCl (([] : va_W) ++ (([(ar6_320, .inr (0, [.ref vr6_320, .int 0, .int 0, .int 0])), (vr6_320, .inl (cT 6, (tr6_320).length, .inl gr6_320))] : va_W) ++ wo)) H := P_xc hP [0, 1] rfl
          have hD9 : va_D A (([] : va_W) ++ (([(ar6_320, .inr (0, [.ref vr6_320, .int 0, .int 0, .int 0])), (vr6_320, .inl (cT 6, (tr6_320).length, .inl gr6_320))] : va_W) ++ wo)) := D_xc hD [0, 1] (by decide) rfl
          refine coI (va_runS (As := [.ref a0, .ref ar6_320]) (rest := []) ⟨hx, hb, hml, hown, hta⟩ (lc_L_write l hl9 dC dI cT h hr6_320 hO (P_r hP9) ((D_r hD9).weaken (fun _ _ _ _ => trivial))) (cS hta lm_L_197 md_L_write ⟨(Nat.le_of_ble_eq_true rfl), (Nat.le_of_ble_eq_true rfl)⟩) ⟨fbU, fun U hU hW => ⟨rfl, hU, va_K.moved hW.alike hK, XS.call hX hS hU hW (freeO hD9 hS hA), hN.warm hW, ZS.call hZ hS hU hW (freeO hD9 hS hA), LT.call hT hS hU hW (freeO hD9 hS hA)⟩⟩ rfl rfl hl.1 rfl (lv_room (Nat.le_of_ble_eq_true rfl)) dL_drawn_323 ⟨by show _ ≤ (689 : Nat); omega, by show _ ≤ (17532 : Nat); omega⟩) hS hA hP9 hD9 (fun r2 W9 H locs hw hP hD hS => ?_)
          obtain ⟨wo, rfl, σ1, h, hO⟩ := hw
          have hP := P_as hP
          have hD := D_as hD
          have hP : va_P (dC, dI) vwCl (([(ar6_320, .inr (0, [.ref vr6_320, .int 0, .int 0, .int 0])), (vr6_320, .inl (cT 6, (tr6_320).length, .inl gr6_320))] : va_W) ++ wo) H := hP
          have hD : va_D A (([(ar6_320, .inr (0, [.ref vr6_320, .int 0, .int 0, .int 0])), (vr6_320, .inl (cT 6, (tr6_320).length, .inl gr6_320))] : va_W) ++ wo) := hD
          refine lv_iload hx hb dL_drawn_326 (lv_at hl 4 rfl) ?_
          refine lv_icmp_eq (tgt := 333) hx hb dL_drawn_328 (by decide) (fun c0 => ?_) (fun c0 => ?_)
          · have h := h.1 c0
            obtain ⟨v3, e_v⟩ : ∃ y : Int32, y = x4_320 + 1 := ⟨_, rfl⟩
            have h := h v3 e_v
            refine lv_iinc (v := v3) (lv' := [(4, .int v3), (0, .ref b9), (1, .ref a0), (2, .int x2_320), (3, .int x3_320), (6, .ref ar6_320)]) hx hb dL_drawn_333 hl (k := 4) rfl (by rw [e_v]; rfl) (by decide) rfl (fun ls hl => ?_)
            refine lv_goto (tgt := 245) hx hb dL_drawn_336 (by decide) ?_
            have hP := P_perm (X' := ([] : va_W)) hP [] rfl
            have hD := D_perm (X' := ([] : va_W)) hD [] (by decide) rfl
            exact ih_245 x2_320 x3_320 v3 σ1 _ _ _ _ _ _ h hO hP hD hS (lv_sub hl [1, 2, 3, 4, 0] rfl) (by omega) (by omega)
          · have h := h.2 c0
            refine lv_null hx hb dL_drawn_331 ?_
            exact False.elim h
        intro x2_245 x3_245 x4_245 σ wo H locs ls cells slots h hO hP hD hS hl hc1 hc2
        rw [wp_L_drawn_b245] at h
        refine lv_iload hx hb dL_drawn_245 (lv_at hl 4 rfl) ?_
        refine lv_iconst (v := 1) hx hb dL_drawn_247 (by decide) ?_
        refine lv_iload_n hx hb dL_drawn_248 rfl (lv_at hl 2 rfl) ?_
        refine lv_iconst (v := 4) hx hb dL_drawn_249 (by decide) ?_
        refine lv_iushr hx hb dL_drawn_250 rfl ?_
        refine lv_iconst (v := 4) hx hb dL_drawn_251 (by decide) ?_
        obtain ⟨hc, h⟩ := h
        refine lv_irem hx hb dL_drawn_252 hc ?_
        refine lv_topi (fun v4 e_v => ?_)
        have h := h v4 e_v
        refine lv_iadd hx hb dL_drawn_253 ?_
        refine lv_icmp_ge (tgt := 339) hx hb dL_drawn_254 (by decide) (fun c0 => ?_) (fun c0 => ?_)
        · have h := h.1 c0
          refine lv_aload_n hx hb dL_drawn_339 rfl (lv_at hl 1 rfl) ?_
          refine W.widen (k := 689) (n := 17532) (by omega) (by omega) ?_
          rw [hQ]
          exact W.aret (v := .ref a0) hx hb hr (Or.inl ⟨_, rfl⟩) (Or.inr ⟨_, rfl⟩) (fun t ht hW => ⟨⟨wo, a0, rfl, trivial, ⟨_, h, hO⟩, by rw [ht]; exact P_r hP, D_r hD⟩, hS.F ht⟩) hS.2.2 dL_drawn_340
        · have h := h.2 c0
          refine lv_aload_n hx hb dL_drawn_257 rfl (lv_at hl 0 rfl) ?_
          refine lv_bipush (v := 13) hx hb dL_drawn_258 (by decide) ?_
          refine lv_iload hx hb dL_drawn_260 (lv_at hl 4 rfl) ?_
          refine lv_iadd hx hb dL_drawn_262 ?_
          refine coI (va_runS (As := [.ref b9, .int ((13 : Int32) + x4_245)]) (rest := []) ⟨hx, hb, hml, hown, hta⟩ (lc_L_cell l hl9 dC dI cT h hO (P_r hP) ((D_r hD).weaken (fun _ _ _ _ => trivial))) (cS hta lm_L_177 md_L_cell ⟨(Nat.le_of_ble_eq_true rfl), (Nat.le_of_ble_eq_true rfl)⟩) ⟨fbUS, fun U hU hW => ⟨rfl, hU, va_K.moved hW.alike hK, XS.call hX hS hU hW (freeO hD hS hA), hN.warm hW, ZS.call hZ hS hU hW (freeO hD hS hA), LT.call hT hS hU hW (freeO hD hS hA), SC.call hC hS hU hW (freeO hD hS hA)⟩⟩ rfl rfl hl.1 rfl (lv_room (Nat.le_of_ble_eq_true rfl)) dL_drawn_263 ⟨by show _ ≤ (689 : Nat); omega, by show _ ≤ (17532 : Nat); omega⟩) hS hA hP hD (fun r6 wo H locs hw hP hD hS => ?_)
          obtain ⟨σ5, h, hO⟩ := hw
          refine lv_iconst (v := 1) hx hb dL_drawn_266 (by decide) ?_
          refine lv_iushr hx hb dL_drawn_267 rfl ?_
          refine lv_topi (fun v7 e_v => ?_)
          have h := h v7 e_v
          refine lv_istore (lv' := [(5, .int v7), (0, .ref b9), (1, .ref a0), (2, .int x2_245), (3, .int x3_245), (4, .int x4_245)]) hx hb dL_drawn_268 hl (by decide) rfl (fun ls hl => ?_)
          refine lv_iload hx hb dL_drawn_270 (lv_at hl 0 rfl) ?_
          refine lv_iload_n hx hb dL_drawn_272 rfl (lv_at hl 4 rfl) ?_
          refine coS (va_runS (As := [.int v7, .int x3_245]) (rest := []) ⟨hx, hb, hml, hown, hta⟩ (lc_L_store l hl9 dC dI cT h hO (P_r hP) ((D_r hD).weaken (fun _ _ _ _ => trivial))) (cS hta lm_L_193 md_L_store ⟨(Nat.le_of_ble_eq_true rfl), (Nat.le_of_ble_eq_true rfl)⟩) ⟨fbU, fun U hU hW => ⟨rfl, hU, va_K.moved hW.alike hK, XS.call hX hS hU hW (freeO hD hS hA), hN.warm hW, ZS.call hZ hS hU hW (freeO hD hS hA), LT.call hT hS hU hW (freeO hD hS hA)⟩⟩ rfl rfl hl.1 rfl (lv_room (Nat.le_of_ble_eq_true rfl)) dL_drawn_273 ⟨by show _ ≤ (689 : Nat); omega, by show _ ≤ (17532 : Nat); omega⟩) hS hA hP hD (fun ts273_9 vs273_9 gs273_9 wo as273_9 H locs hs273_9 hw hP hD hS => ?_)
          obtain ⟨σ8, h, hO⟩ := hw
          have hP : va_P (dC, dI) vwCl (([(as273_9, .inr (0, [.ref vs273_9, .int 0, .int 0, .int 0])), (vs273_9, .inl (cT 6, (ts273_9).length, .inl gs273_9))] : va_W) ++ wo) H := hP
          have hD : va_D A (([(as273_9, .inr (0, [.ref vs273_9, .int 0, .int 0, .int 0])), (vs273_9, .inl (cT 6, (ts273_9).length, .inl gs273_9))] : va_W) ++ wo) := hD
          refine lv_astore (lv' := [(6, .ref as273_9), (5, .int v7), (0, .ref b9), (1, .ref a0), (2, .int x2_245), (3, .int x3_245), (4, .int x4_245)]) hx hb dL_drawn_276 hl (by decide) rfl (fun ls hl => ?_)
          refine lv_iload hx hb dL_drawn_278 (lv_at hl 1 rfl) ?_
          refine lv_iconst (v := 2) hx hb dL_drawn_280 (by decide) ?_
          obtain ⟨hc, h⟩ := h
          refine lv_irem hx hb dL_drawn_281 hc ?_
          refine lv_topi (fun v10 e_v => ?_)
          have h := h v10 e_v
          refine lv_if_ne (tgt := 320) hx hb dL_drawn_282 (by decide) (fun c0 => ?_) (fun c0 => ?_)
          · have h := h.2 c0
            exact wB_320 x2_245 x3_245 x4_245 ts273_9 as273_9 vs273_9 gs273_9 σ8 _ _ _ _ _ _ hs273_9 h hO hP hD hS (lv_sub hl [2, 3, 4, 5, 6, 0] rfl) (by omega) (by omega)
          · have h := h.1 c0
            refine va_new (ci := 1) (fs := [.null, .int 0, .int 0, .int 0]) (C := RJ4) (T := TJ4) (N := 4) hx hb hta inJ4w tyJ4 tyJ4_ok hown (hta _ lc_L_144) (hta _ inst_J4) (hta _ ini_J4) hK hP hD hS hA rfl (fun j hj => by rcases (show j = 0 ∨ j = 1 ∨ j = 2 ∨ j = 3 by omega) with rfl | rfl | rfl | rfl <;> rfl) (by show _ ≤ (689 : Nat); omega) (by show _ ≤ (17532 : Nat); omega) dL_drawn_285 (fun ab285_11 H hP hD hS => ?_)
            have hP : va_P (dC, dI) vwCl (([(as273_9, .inr (0, [.ref vs273_9, .int 0, .int 0, .int 0])), (vs273_9, .inl (cT 6, (ts273_9).length, .inl gs273_9)), (ab285_11, .inr (1, [.null, .int 0, .int 0, .int 0]))] : va_W) ++ wo) H := P_mv hP
            have hD : va_D A (([(as273_9, .inr (0, [.ref vs273_9, .int 0, .int 0, .int 0])), (vs273_9, .inl (cT 6, (ts273_9).length, .inl gs273_9)), (ab285_11, .inr (1, [.null, .int 0, .int 0, .int 0]))] : va_W) ++ wo) := D_mv hD
            refine lv_dup hx hb dL_drawn_288 rfl ?_
            refine cvX (wr := [(as273_9, .inr (0, [.ref vs273_9, .int 0, .int 0, .int 0])), (vs273_9, .inl (cT 6, (ts273_9).length, .inl gs273_9))]) (va_runI (As := []) (rest := [.ref ab285_11]) ⟨hx, hb, hml, hown, hta⟩ (cJ_init l dC dI cT rfl ((P_l hP).sub (ws' := [(ab285_11, .inr (1, [.null, .int 0, .int 0, .int 0]))]) [2] rfl) (ds (D_l hD) [2] (by decide) rfl)) (cI hta lm_L_146 md_J4_init_da8c8 ⟨(Nat.le_of_ble_eq_true rfl), (Nat.le_of_ble_eq_true rfl)⟩) ⟨fbJ, fun U hU hW => ⟨rfl, hU, va_K.moved hW.alike hK, ZS.call hZ hS hU hW (va_free (D_l hD) hS hA [2] rfl)⟩⟩ rfl rfl hl.1 rfl (lv_room (Nat.le_of_ble_eq_true rfl)) dL_drawn_289 ⟨by show _ ≤ (689 : Nat); omega, by show _ ≤ (17532 : Nat); omega⟩) hS hA hP hD [2] [0, 1] rfl rfl (by decide) (by decide) (fun v9 H locs _ hP hD hS => ?_)
            obtain ⟨ub285_11, e9⟩ : ∃ y : BU, y = (v9 0, 16, (fun _ => 0), 0) := ⟨_, rfl⟩
            have hxb285_11 : LX [] ub285_11 := by rw [e9]; exact lx_0
            have hP : va_P (dC, dI) vwCl (([(as273_9, .inr (0, [.ref vs273_9, .int 0, .int 0, .int 0])), (vs273_9, .inl (cT 6, (ts273_9).length, .inl gs273_9)), (ab285_11, .inr (1, [.ref ub285_11.1, .int 0, .int ub285_11.2.2.2, .int (nI (([] : List Nat)).length)])), (ub285_11.1, .inl (cT 6, ub285_11.2.1, .inl ub285_11.2.2.1))] : va_W) ++ wo) H := by rw [e9]; exact hP
            have hD : va_D A (([(as273_9, .inr (0, [.ref vs273_9, .int 0, .int 0, .int 0])), (vs273_9, .inl (cT 6, (ts273_9).length, .inl gs273_9)), (ab285_11, .inr (1, [.ref ub285_11.1, .int 0, .int ub285_11.2.2.2, .int (nI (([] : List Nat)).length)])), (ub285_11.1, .inl (cT 6, ub285_11.2.1, .inl ub285_11.2.2.1))] : va_W) ++ wo) := by rw [e9]; exact hD
            refine lv_aload hx hb dL_drawn_292 (lv_at hl 0 rfl) ?_
            obtain ⟨hc, h⟩ := h
            refine cqX (wr := []) (va_runV (As := [.ref as273_9]) (rest := []) ⟨hx, hb, hml, hown, hta⟩ (cS_appM l dC dI cT (n := (([] : List Nat)).length) (sn := (ts273_9 : List Nat).length) hs273_9.2.2 hxb285_11.1.2.1 (Nat.le_trans hc (cap16 hxb285_11.1.2.2.1)) hxb285_11.1.2.2.1 hxb285_11.1.2.2.2.2 rfl ((P_l hP).sub (ws' := [(ab285_11, .inr (1, [.ref ub285_11.1, .int 0, .int ub285_11.2.2.2, .int (nI (([] : List Nat)).length)])), (ub285_11.1, .inl (cT 6, ub285_11.2.1, .inl ub285_11.2.2.1)), (as273_9, .inr (0, [.ref vs273_9, .int 0, .int 0, .int 0])), (vs273_9, .inl (cT 6, (ts273_9).length, .inl gs273_9))]) [2, 3, 0, 1] rfl) (ds (D_l hD) [2, 3, 0, 1] (by decide) rfl)) (cV hta lm_L_149 md_J4_append_15ec4 ⟨(Nat.le_of_ble_eq_true rfl), (Nat.le_of_ble_eq_true rfl)⟩) ⟨fbJM, va_recv hK hP (ci := 1) (q0 := 2) rfl rfl, fun U hU hW => ⟨rfl, hU, va_K.moved hW.alike hK, ZS.call hZ hS hU hW (va_free (D_l hD) hS hA [2, 3, 0, 1] rfl), SP.warm hW hT.1⟩⟩ rfl rfl hl.1 rfl (lv_room (Nat.le_of_ble_eq_true rfl)) dL_drawn_294 ⟨by show _ ≤ (689 : Nat); omega, by show _ ≤ (17532 : Nat); omega⟩) hS hA hP hD [2, 3, 0, 1] [] rfl rfl (by decide) (by decide) (fun r9 u12 H locs hu hP hD hS => ?_)
            obtain ⟨rfl, hu⟩ := hu
            have hxb285_11u12 : LX (([] : List Nat) ++ ts273_9) u12 := lx_aps hxb285_11 hs273_9 hu
            have el : ((([] : List Nat) ++ ts273_9)).length = (([] : List Nat)).length + (ts273_9 : List Nat).length := (by rw [List.length_append])
            have hP : va_P (dC, dI) vwCl (([(ab285_11, .inr (1, [.ref u12.1, .int 0, .int u12.2.2.2, .int (nI ((([] : List Nat) ++ ts273_9)).length)])), (u12.1, .inl (cT 6, u12.2.1, .inl u12.2.2.1)), (as273_9, .inr (0, [.ref vs273_9, .int 0, .int 0, .int 0])), (vs273_9, .inl (cT 6, (ts273_9).length, .inl gs273_9))] : va_W) ++ wo) H := by rw [el]; exact hP
            have hD : va_D A (([(ab285_11, .inr (1, [.ref u12.1, .int 0, .int u12.2.2.2, .int (nI ((([] : List Nat) ++ ts273_9)).length)])), (u12.1, .inl (cT 6, u12.2.1, .inl u12.2.2.1)), (as273_9, .inr (0, [.ref vs273_9, .int 0, .int 0, .int 0])), (vs273_9, .inl (cT 6, (ts273_9).length, .inl gs273_9))] : va_W) ++ wo) := by rw [el]; exact hD
            refine W.eq (g2 := F0 m 297 ls [.ref ab285_11]) rfl ?_
            refine lv_aload_n hx hb dL_drawn_297 rfl (lv_at hl 2 rfl) ?_
            refine lv_bipush (v := 17) hx hb dL_drawn_298 (by decide) ?_
            refine lv_iload hx hb dL_drawn_300 (lv_at hl 6 rfl) ?_
            refine lv_iadd hx hb dL_drawn_302 ?_
            refine coI (va_runS (As := [.ref b9, .int ((17 : Int32) + x4_245)]) (rest := [.ref ab285_11]) ⟨hx, hb, hml, hown, hta⟩ (lc_L_cell l hl9 dC dI cT h hO (P_r hP) ((D_r hD).weaken (fun _ _ _ _ => trivial))) (cS hta lm_L_177 md_L_cell ⟨(Nat.le_of_ble_eq_true rfl), (Nat.le_of_ble_eq_true rfl)⟩) ⟨fbUS, fun U hU hW => ⟨rfl, hU, va_K.moved hW.alike hK, XS.call hX hS hU hW (freeO hD hS hA), hN.warm hW, ZS.call hZ hS hU hW (freeO hD hS hA), LT.call hT hS hU hW (freeO hD hS hA), SC.call hC hS hU hW (freeO hD hS hA)⟩⟩ rfl rfl hl.1 rfl (lv_room (Nat.le_of_ble_eq_true rfl)) dL_drawn_303 ⟨by show _ ≤ (689 : Nat); omega, by show _ ≤ (17532 : Nat); omega⟩) hS hA hP hD (fun r14 wo H locs hw hP hD hS => ?_)
            obtain ⟨σ13, h, hO⟩ := hw
            refine lv_iconst (v := 1) hx hb dL_drawn_306 (by decide) ?_
            refine lv_iushr hx hb dL_drawn_307 rfl ?_
            refine lv_iload_n hx hb dL_drawn_308 rfl (lv_at hl 5 rfl) ?_
            refine coS (va_runS (As := [.int ((r14.toUInt32 >>> ((1 : Int32).toUInt32 &&& Int32.toUInt32 31)).toInt32), .int x3_245]) (rest := [.ref ab285_11]) ⟨hx, hb, hml, hown, hta⟩ (lc_L_store l hl9 dC dI cT h hO (P_r hP) ((D_r hD).weaken (fun _ _ _ _ => trivial))) (cS hta lm_L_193 md_L_store ⟨(Nat.le_of_ble_eq_true rfl), (Nat.le_of_ble_eq_true rfl)⟩) ⟨fbU, fun U hU hW => ⟨rfl, hU, va_K.moved hW.alike hK, XS.call hX hS hU hW (freeO hD hS hA), hN.warm hW, ZS.call hZ hS hU hW (freeO hD hS hA), LT.call hT hS hU hW (freeO hD hS hA)⟩⟩ rfl rfl hl.1 rfl (lv_room (Nat.le_of_ble_eq_true rfl)) dL_drawn_309 ⟨by show _ ≤ (689 : Nat); omega, by show _ ≤ (17532 : Nat); omega⟩) hS hA hP hD (fun ts309_16 vs309_16 gs309_16 wo as309_16 H locs hs309_16 hw hP hD hS => ?_)
            obtain ⟨σ15, h, hO⟩ := hw
            have hP : va_P (dC, dI) vwCl (([(ab285_11, .inr (1, [.ref u12.1, .int 0, .int u12.2.2.2, .int (nI ((([] : List Nat) ++ ts273_9)).length)])), (u12.1, .inl (cT 6, u12.2.1, .inl u12.2.2.1)), (as273_9, .inr (0, [.ref vs273_9, .int 0, .int 0, .int 0])), (vs273_9, .inl (cT 6, (ts273_9).length, .inl gs273_9)), (as309_16, .inr (0, [.ref vs309_16, .int 0, .int 0, .int 0])), (vs309_16, .inl (cT 6, (ts309_16).length, .inl gs309_16))] : va_W) ++ wo) H := hP
            have hD : va_D A (([(ab285_11, .inr (1, [.ref u12.1, .int 0, .int u12.2.2.2, .int (nI ((([] : List Nat) ++ ts273_9)).length)])), (u12.1, .inl (cT 6, u12.2.1, .inl u12.2.2.1)), (as273_9, .inr (0, [.ref vs273_9, .int 0, .int 0, .int 0])), (vs273_9, .inl (cT 6, (ts273_9).length, .inl gs273_9)), (as309_16, .inr (0, [.ref vs309_16, .int 0, .int 0, .int 0])), (vs309_16, .inl (cT 6, (ts309_16).length, .inl gs309_16))] : va_W) ++ wo) := hD
            obtain ⟨hc, h⟩ := h
            refine cqX (wr := [(as273_9, .inr (0, [.ref vs273_9, .int 0, .int 0, .int 0])), (vs273_9, .inl (cT 6, (ts273_9).length, .inl gs273_9))]) (va_runV (As := [.ref as309_16]) (rest := []) ⟨hx, hb, hml, hown, hta⟩ (cS_appM l dC dI cT (n := ((([] : List Nat) ++ ts273_9)).length) (sn := (ts309_16 : List Nat).length) hs309_16.2.2 hxb285_11u12.1.2.1 (Nat.le_trans hc (cap16 hxb285_11u12.1.2.2.1)) hxb285_11u12.1.2.2.1 hxb285_11u12.1.2.2.2.2 rfl ((P_l hP).sub (ws' := [(ab285_11, .inr (1, [.ref u12.1, .int 0, .int u12.2.2.2, .int (nI ((([] : List Nat) ++ ts273_9)).length)])), (u12.1, .inl (cT 6, u12.2.1, .inl u12.2.2.1)), (as309_16, .inr (0, [.ref vs309_16, .int 0, .int 0, .int 0])), (vs309_16, .inl (cT 6, (ts309_16).length, .inl gs309_16))]) [0, 1, 4, 5] rfl) (ds (D_l hD) [0, 1, 4, 5] (by decide) rfl)) (cV hta lm_L_149 md_J4_append_15ec4 ⟨(Nat.le_of_ble_eq_true rfl), (Nat.le_of_ble_eq_true rfl)⟩) ⟨fbJM, va_recv hK hP (ci := 1) (q0 := 0) rfl rfl, fun U hU hW => ⟨rfl, hU, va_K.moved hW.alike hK, ZS.call hZ hS hU hW (va_free (D_l hD) hS hA [0, 1, 4, 5] rfl), SP.warm hW hT.1⟩⟩ rfl rfl hl.1 rfl (lv_room (Nat.le_of_ble_eq_true rfl)) dL_drawn_312 ⟨by show _ ≤ (689 : Nat); omega, by show _ ≤ (17532 : Nat); omega⟩) hS hA hP hD [0, 1, 4, 5] [2, 3] rfl rfl (by decide) (by decide) (fun r9 u17 H locs hu hP hD hS => ?_)
            obtain ⟨rfl, hu⟩ := hu
            have hxb285_11u17 : LX ((([] : List Nat) ++ ts273_9) ++ ts309_16) u17 := lx_aps hxb285_11u12 hs309_16 hu
            have el : (((([] : List Nat) ++ ts273_9) ++ ts309_16)).length = ((([] : List Nat) ++ ts273_9)).length + (ts309_16 : List Nat).length := (by rw [List.length_append])
            have hP : va_P (dC, dI) vwCl (([(as273_9, .inr (0, [.ref vs273_9, .int 0, .int 0, .int 0])), (vs273_9, .inl (cT 6, (ts273_9).length, .inl gs273_9)), (ab285_11, .inr (1, [.ref u17.1, .int 0, .int u17.2.2.2, .int (nI (((([] : List Nat) ++ ts273_9) ++ ts309_16)).length)])), (u17.1, .inl (cT 6, u17.2.1, .inl u17.2.2.1)), (as309_16, .inr (0, [.ref vs309_16, .int 0, .int 0, .int 0])), (vs309_16, .inl (cT 6, (ts309_16).length, .inl gs309_16))] : va_W) ++ wo) H := by rw [el]; exact hP
            have hD : va_D A (([(as273_9, .inr (0, [.ref vs273_9, .int 0, .int 0, .int 0])), (vs273_9, .inl (cT 6, (ts273_9).length, .inl gs273_9)), (ab285_11, .inr (1, [.ref u17.1, .int 0, .int u17.2.2.2, .int (nI (((([] : List Nat) ++ ts273_9) ++ ts309_16)).length)])), (u17.1, .inl (cT 6, u17.2.1, .inl u17.2.2.1)), (as309_16, .inr (0, [.ref vs309_16, .int 0, .int 0, .int 0])), (vs309_16, .inl (cT 6, (ts309_16).length, .inl gs309_16))] : va_W) ++ wo) := by rw [el]; exact hD
            refine W.eq (g2 := F0 m 315 ls [.ref ab285_11]) rfl ?_
            obtain ⟨hc, h⟩ := h
            refine crX (wr := [(as273_9, .inr (0, [.ref vs273_9, .int 0, .int 0, .int 0])), (vs273_9, .inl (cT 6, (ts273_9).length, .inl gs273_9)), (as309_16, .inr (0, [.ref vs309_16, .int 0, .int 0, .int 0])), (vs309_16, .inl (cT 6, (ts309_16).length, .inl gs309_16))]) (va_runV (As := []) (rest := []) ⟨hx, hb, hml, hown, hta⟩ (cS_toString l dC dI cT (n := (((([] : List Nat) ++ ts273_9) ++ ts309_16)).length) (Nat.lt_of_lt_of_le hc (cap16 hxb285_11u17.1.2.2.1)) hxb285_11u17.1.2.2.1.le hxb285_11u17.1.2.2.2.2 rfl ((P_l hP).sub (ws' := [(ab285_11, .inr (1, [.ref u17.1, .int 0, .int u17.2.2.2, .int (nI (((([] : List Nat) ++ ts273_9) ++ ts309_16)).length)])), (u17.1, .inl (cT 6, u17.2.1, .inl u17.2.2.1))]) [2, 3] rfl) (ds (D_l hD) [2, 3] (by decide) rfl)) (cV hta lm_L_155 md_J4_toString_0e30d ⟨(Nat.le_of_ble_eq_true rfl), (Nat.le_of_ble_eq_true rfl)⟩) ⟨fbJM, va_recv hK hP (ci := 1) (q0 := 2) rfl rfl, fun U hU hW => ⟨rfl, hU, va_K.moved hW.alike hK, ZS.call hZ hS hU hW (va_free (D_l hD) hS hA [2, 3] rfl), SP.warm hW hT.1⟩⟩ rfl rfl hl.1 rfl (lv_room (Nat.le_of_ble_eq_true rfl)) dL_drawn_315 ⟨by show _ ≤ (689 : Nat); omega, by show _ ≤ (17532 : Nat); omega⟩) hS hA hP hD [2, 3] [0, 1, 4, 5] rfl rfl (by decide) (by decide) (fun w9 as315_18 H locs hu hP hD hS => ?_)
            obtain ⟨vs315_18, gs315_18⟩ := w9
            have hs315_18 : TXT (((([] : List Nat) ++ ts273_9) ++ ts309_16)) gs315_18 := lx_txt hxb285_11u17 hu
            have hP : va_P (dC, dI) vwCl (([(as273_9, .inr (0, [.ref vs273_9, .int 0, .int 0, .int 0])), (vs273_9, .inl (cT 6, (ts273_9).length, .inl gs273_9)), (as309_16, .inr (0, [.ref vs309_16, .int 0, .int 0, .int 0])), (vs309_16, .inl (cT 6, (ts309_16).length, .inl gs309_16)), (ab285_11, .inr (1, [.ref u17.1, .int 0, .int u17.2.2.2, .int (nI (((([] : List Nat) ++ ts273_9) ++ ts309_16)).length)])), (u17.1, .inl (cT 6, u17.2.1, .inl u17.2.2.1)), (as315_18, .inr (0, [.ref vs315_18, .int 0, .int 0, .int 0])), (vs315_18, .inl (cT 6, (((([] : List Nat) ++ ts273_9) ++ ts309_16)).length, .inl gs315_18))] : va_W) ++ wo) H := hP
            have hD : va_D A (([(as273_9, .inr (0, [.ref vs273_9, .int 0, .int 0, .int 0])), (vs273_9, .inl (cT 6, (ts273_9).length, .inl gs273_9)), (as309_16, .inr (0, [.ref vs309_16, .int 0, .int 0, .int 0])), (vs309_16, .inl (cT 6, (ts309_16).length, .inl gs309_16)), (ab285_11, .inr (1, [.ref u17.1, .int 0, .int u17.2.2.2, .int (nI (((([] : List Nat) ++ ts273_9) ++ ts309_16)).length)])), (u17.1, .inl (cT 6, u17.2.1, .inl u17.2.2.1)), (as315_18, .inr (0, [.ref vs315_18, .int 0, .int 0, .int 0])), (vs315_18, .inl (cT 6, (((([] : List Nat) ++ ts273_9) ++ ts309_16)).length, .inl gs315_18))] : va_W) ++ wo) := hD
            have hP : va_P (dC, dI) vwCl (([(as273_9, .inr (0, [.ref vs273_9, .int 0, .int 0, .int 0])), (vs273_9, .inl (cT 6, (ts273_9).length, .inl gs273_9)), (as309_16, .inr (0, [.ref vs309_16, .int 0, .int 0, .int 0])), (vs309_16, .inl (cT 6, (ts309_16).length, .inl gs309_16)), (as315_18, .inr (0, [.ref vs315_18, .int 0, .int 0, .int 0])), (vs315_18, .inl (cT 6, (((([] : List Nat) ++ ts273_9) ++ ts309_16)).length, .inl gs315_18))] : va_W) ++ wo) H := P_perm hP [0, 1, 2, 3, 6, 7] rfl
            have hD : va_D A (([(as273_9, .inr (0, [.ref vs273_9, .int 0, .int 0, .int 0])), (vs273_9, .inl (cT 6, (ts273_9).length, .inl gs273_9)), (as309_16, .inr (0, [.ref vs309_16, .int 0, .int 0, .int 0])), (vs309_16, .inl (cT 6, (ts309_16).length, .inl gs309_16)), (as315_18, .inr (0, [.ref vs315_18, .int 0, .int 0, .int 0])), (vs315_18, .inl (cT 6, (((([] : List Nat) ++ ts273_9) ++ ts309_16)).length, .inl gs315_18))] : va_W) ++ wo) := D_perm hD [0, 1, 2, 3, 6, 7] (by decide) rfl
            refine lv_astore (lv' := [(6, .ref as315_18), (5, .int v7), (0, .ref b9), (1, .ref a0), (2, .int x2_245), (3, .int x3_245), (4, .int x4_245)]) hx hb dL_drawn_318 hl (by decide) rfl (fun ls hl => ?_)
            have hP := P_perm (X' := ([(as315_18, .inr (0, [.ref vs315_18, .int 0, .int 0, .int 0])), (vs315_18, .inl (cT 6, (((([] : List Nat) ++ ts273_9) ++ ts309_16)).length, .inl gs315_18))] : va_W)) hP [4, 5] rfl
            have hD := D_perm (X' := ([(as315_18, .inr (0, [.ref vs315_18, .int 0, .int 0, .int 0])), (vs315_18, .inl (cT 6, (((([] : List Nat) ++ ts273_9) ++ ts309_16)).length, .inl gs315_18))] : va_W)) hD [4, 5] (by decide) rfl
            exact wB_320 x2_245 x3_245 x4_245 ((([] : List Nat) ++ ts273_9) ++ ts309_16) as315_18 vs315_18 gs315_18 σ15 _ _ _ _ _ _ hs315_18 h hO hP hD hS (lv_sub hl [2, 3, 4, 5, 6, 0] rfl) (by omega) (by omega)
    have wB_130 : ∀ (n_130 : Nat), ∀ (x2_130 : Int32) (x3_130 : Int32) (x4_130 : Int32) (σ : AB) (wo : va_W) (H : Heap) (locs : List Loc) (ls : Array Slot) (cells slots : Nat), wp_L_drawn_b130 K sn sg n_130 x2_130 x3_130 x4_130 σ → OB cT a0 σ wo → va_P (dC, dI) vwCl (([] : va_W) ++ wo) H → va_D A (([] : va_W) ++ wo) → va_S A s.heap H locs → lv_has ls 9 [(0, .ref b9), (1, .ref a0), (2, .int x2_130), (3, .int x3_130), (4, .int x4_130)] → cells + (492 + n_130 * 9) ≤ 689 → slots + (16062 + n_130 * 54) ≤ 17532 → W p l e ({ frames := 9, cells := 689, slots := 17532, locals := 181 } : Room) s m [.ref b9].toArray below meth c H locs cells slots Q (F0 m 130 ls []) := by
      intro n_130
      induction n_130 with
      | zero =>
        intro x2_130 x3_130 x4_130 σ wo H locs ls cells slots h hO hP hD hS hl hc1 hc2
        exact False.elim h
      | succ n_130 ih_130 =>
        have wB_224 : ∀ (x2_224 : Int32) (x3_224 : Int32) (x4_224 : Int32) (s0_224 : Int32) (σ : AB) (wo : va_W) (H : Heap) (locs : List Loc) (ls : Array Slot) (cells slots : Nat), wp_L_drawn_b224 K sn sg (wp_L_drawn_b130 K sn sg n_130) x2_224 x3_224 x4_224 s0_224 σ → OB cT a0 σ wo → va_P (dC, dI) vwCl (([] : va_W) ++ wo) H → va_D A (([] : va_W) ++ wo) → va_S A s.heap H locs → lv_has ls 9 [(0, .ref b9), (1, .ref a0), (2, .int x2_224), (3, .int x3_224), (4, .int x4_224)] → cells + (492 + n_130 * 9) ≤ 689 → slots + (16062 + n_130 * 54) ≤ 17532 → W p l e ({ frames := 9, cells := 689, slots := 17532, locals := 181 } : Room) s m [.ref b9].toArray below meth c H locs cells slots Q (F0 m 224 ls [.int s0_224]) := by
          intro x2_224 x3_224 x4_224 s0_224 σ wo H locs ls cells slots h hO hP hD hS hl hc1 hc2
          unfold wp_L_drawn_b224 at h
          refine lv_istore (lv' := [(8, .int s0_224), (0, .ref b9), (1, .ref a0), (2, .int x2_224), (3, .int x3_224), (4, .int x4_224)]) hx hb dL_drawn_224 hl (by decide) rfl (fun ls hl => ?_)
          refine lv_iload hx hb dL_drawn_226 (lv_at hl 0 rfl) ?_
          refine lv_sipush (v := -1000) hx hb dL_drawn_228 (by decide) ?_
          refine lv_icmp_ge (tgt := 236) hx hb dL_drawn_231 (by decide) (fun c0 => ?_) (fun c0 => ?_)
          · have h := h.1 c0
            obtain ⟨v19, e_v⟩ : ∃ y : Int32, y = x4_224 + 1 := ⟨_, rfl⟩
            have h := h v19 e_v
            refine lv_iinc (v := v19) (lv' := [(4, .int v19), (8, .int s0_224), (0, .ref b9), (1, .ref a0), (2, .int x2_224), (3, .int x3_224)]) hx hb dL_drawn_236 hl (k := 5) rfl (by rw [e_v]; rfl) (by decide) rfl (fun ls hl => ?_)
            refine lv_goto (tgt := 130) hx hb dL_drawn_239 (by decide) ?_
            exact ih_130 x2_224 x3_224 v19 σ _ _ _ _ _ _ h hO hP hD hS (lv_sub hl [2, 3, 4, 5, 0] rfl) (by omega) (by omega)
          · have h := h.2 c0
            refine lv_null hx hb dL_drawn_234 ?_
            exact False.elim h
        have wB_165 : ∀ (x2_165 : Int32) (x3_165 : Int32) (x4_165 : Int32) (x5_165 : Int32) (s0_165 : Int32) (σ : AB) (wo : va_W) (H : Heap) (locs : List Loc) (ls : Array Slot) (cells slots : Nat), wp_L_drawn_b165 K sn sg (wp_L_drawn_b130 K sn sg n_130) x2_165 x3_165 x4_165 x5_165 s0_165 σ → OB cT a0 σ wo → va_P (dC, dI) vwCl (([] : va_W) ++ wo) H → va_D A (([] : va_W) ++ wo) → va_S A s.heap H locs → lv_has ls 9 [(0, .ref b9), (1, .ref a0), (2, .int x2_165), (3, .int x3_165), (4, .int x4_165), (5, .int x5_165)] → cells + (499 + n_130 * 9) ≤ 689 → slots + (16104 + n_130 * 54) ≤ 17532 → W p l e ({ frames := 9, cells := 689, slots := 17532, locals := 181 } : Room) s m [.ref b9].toArray below meth c H locs cells slots Q (F0 m 165 ls [.int s0_165]) := by
          intro x2_165 x3_165 x4_165 x5_165 s0_165 σ wo H locs ls cells slots h hO hP hD hS hl hc1 hc2
          unfold wp_L_drawn_b165 at h
          refine lv_istore (lv' := [(6, .int s0_165), (0, .ref b9), (1, .ref a0), (2, .int x2_165), (3, .int x3_165), (4, .int x4_165), (5, .int x5_165)]) hx hb dL_drawn_165 hl (by decide) rfl (fun ls hl => ?_)
          refine lv_aload_n hx hb dL_drawn_167 rfl (lv_at hl 2 rfl) ?_
          refine lv_iload hx hb dL_drawn_168 (lv_at hl 5 rfl) ?_
          refine lv_iconst (v := 1) hx hb dL_drawn_170 (by decide) ?_
          refine coI (vx_runSW (As := [.ref a0, .int x4_165, .int 1]) (rest := []) ⟨hx, hb, hml, hown, hta⟩ (oc_L_of l hl9 dC dI cT hO (P_r hP) ((D_r hD).weaken (fun _ _ _ _ => trivial))) (cW hta lm_L_186 mw_L_of ⟨(Nat.le_of_ble_eq_true rfl), (Nat.le_of_ble_eq_true rfl)⟩) ⟨fbU, fun U hU hW => ⟨rfl, hU, va_K.moved hW.alike hK, XS.call hX hS hU hW (freeO hD hS hA), hN.warm hW, ZS.call hZ hS hU hW (freeO hD hS hA), LT.call hT hS hU hW (freeO hD hS hA)⟩⟩ rfl rfl hl.1 rfl (lv_room (Nat.le_of_ble_eq_true rfl)) dL_drawn_171 ⟨by show _ ≤ (689 : Nat); omega, by show _ ≤ (17532 : Nat); omega⟩) hS hA hP hD (fun r20 wo H locs hw hP hD hS => ?_)
          obtain ⟨hr9, hO⟩ := hw
          have h := h r20 hr9
          refine lv_istore (lv' := [(7, .int r20), (6, .int s0_165), (0, .ref b9), (1, .ref a0), (2, .int x2_165), (3, .int x3_165), (4, .int x4_165), (5, .int x5_165)]) hx hb dL_drawn_174 hl (by decide) rfl (fun ls hl => ?_)
          refine lv_iload hx hb dL_drawn_176 (lv_at hl 1 rfl) ?_
          refine lv_if_eq (tgt := 200) hx hb dL_drawn_178 (by decide) (fun c0 => ?_) (fun c0 => ?_)
          · have h := h.1 c0
            refine lv_aload_n hx hb dL_drawn_200 rfl (lv_at hl 3 rfl) ?_
            refine lv_iload hx hb dL_drawn_201 (lv_at hl 6 rfl) ?_
            refine lv_iload hx hb dL_drawn_203 (lv_at hl 0 rfl) ?_
            refine lv_iload hx hb dL_drawn_205 (lv_at hl 7 rfl) ?_
            refine lv_aload_n hx hb dL_drawn_207 rfl (lv_at hl 3 rfl) ?_
            refine lv_iload hx hb dL_drawn_208 (lv_at hl 6 rfl) ?_
            refine lv_iconst (v := 2) hx hb dL_drawn_210 (by decide) ?_
            refine coI (vx_runSW (As := [.ref a0, .int x4_165, .int 2]) (rest := [.int x5_165, .int r20, .int x4_165, .ref a0]) ⟨hx, hb, hml, hown, hta⟩ (oc_L_of l hl9 dC dI cT hO (P_r hP) ((D_r hD).weaken (fun _ _ _ _ => trivial))) (cW hta lm_L_186 mw_L_of ⟨(Nat.le_of_ble_eq_true rfl), (Nat.le_of_ble_eq_true rfl)⟩) ⟨fbU, fun U hU hW => ⟨rfl, hU, va_K.moved hW.alike hK, XS.call hX hS hU hW (freeO hD hS hA), hN.warm hW, ZS.call hZ hS hU hW (freeO hD hS hA), LT.call hT hS hU hW (freeO hD hS hA)⟩⟩ rfl rfl hl.1 rfl (lv_room (Nat.le_of_ble_eq_true rfl)) dL_drawn_211 ⟨by show _ ≤ (689 : Nat); omega, by show _ ≤ (17532 : Nat); omega⟩) hS hA hP hD (fun r21 wo H locs hw hP hD hS => ?_)
            obtain ⟨hr9, hO⟩ := hw
            have h := h r21 hr9
            refine lv_iload hx hb dL_drawn_214 (lv_at hl 0 rfl) ?_
            refine lv_isub hx hb dL_drawn_216 ?_
            refine lv_iconst (v := 1) hx hb dL_drawn_217 (by decide) ?_
            refine lv_iadd hx hb dL_drawn_218 ?_
            obtain ⟨hc, h⟩ := h
            refine lv_irem hx hb dL_drawn_219 hc ?_
            refine lv_topi (fun v22 e_v => ?_)
            have h := h v22 e_v
            refine lv_iadd hx hb dL_drawn_220 ?_
            refine coI (vx_runSW (As := [.ref a0, .int x4_165, .int (r20 + v22)]) (rest := []) ⟨hx, hb, hml, hown, hta⟩ (oc_L_pour l hl9 dC dI cT hO (P_r hP) ((D_r hD).weaken (fun _ _ _ _ => trivial))) (cW hta lm_L_191 mw_L_pour ⟨(Nat.le_of_ble_eq_true rfl), (Nat.le_of_ble_eq_true rfl)⟩) ⟨fbU, fun U hU hW => ⟨rfl, hU, va_K.moved hW.alike hK, XS.call hX hS hU hW (freeO hD hS hA), hN.warm hW, ZS.call hZ hS hU hW (freeO hD hS hA), LT.call hT hS hU hW (freeO hD hS hA)⟩⟩ rfl rfl hl.1 rfl (lv_room (Nat.le_of_ble_eq_true rfl)) dL_drawn_221 ⟨by show _ ≤ (689 : Nat); omega, by show _ ≤ (17532 : Nat); omega⟩) hS hA hP hD (fun r23 wo H locs hw hP hD hS => ?_)
            obtain ⟨σ24, hr9, hO⟩ := hw
            have h := h r23 σ24 hr9 (OB_gok hO)
            exact wB_224 x2_165 x3_165 x4_165 r23 σ24 _ _ _ _ _ _ h hO hP hD hS (lv_sub hl [2, 3, 4, 5, 6] rfl) (by omega) (by omega)
          · have h := h.2 c0
            refine lv_aload_n hx hb dL_drawn_181 rfl (lv_at hl 3 rfl) ?_
            refine lv_iload hx hb dL_drawn_182 (lv_at hl 6 rfl) ?_
            refine lv_iload hx hb dL_drawn_184 (lv_at hl 7 rfl) ?_
            refine lv_sipush (v := 2000) hx hb dL_drawn_186 (by decide) ?_
            obtain ⟨hc, h⟩ := h
            refine lv_irem hx hb dL_drawn_189 hc ?_
            refine lv_topi (fun v25 e_v => ?_)
            have h := h v25 e_v
            refine lv_sipush (v := 1000) hx hb dL_drawn_190 (by decide) ?_
            refine lv_isub hx hb dL_drawn_193 ?_
            refine coI (vx_runSW (As := [.ref a0, .int x4_165, .int (v25 - 1000)]) (rest := []) ⟨hx, hb, hml, hown, hta⟩ (oc_L_ladle l hl9 dC dI cT hO (P_r hP) ((D_r hD).weaken (fun _ _ _ _ => trivial))) (cW hta lm_L_189 mw_L_ladle ⟨(Nat.le_of_ble_eq_true rfl), (Nat.le_of_ble_eq_true rfl)⟩) ⟨fbU, fun U hU hW => ⟨rfl, hU, va_K.moved hW.alike hK, XS.call hX hS hU hW (freeO hD hS hA), hN.warm hW, ZS.call hZ hS hU hW (freeO hD hS hA), LT.call hT hS hU hW (freeO hD hS hA)⟩⟩ rfl rfl hl.1 rfl (lv_room (Nat.le_of_ble_eq_true rfl)) dL_drawn_194 ⟨by show _ ≤ (689 : Nat); omega, by show _ ≤ (17532 : Nat); omega⟩) hS hA hP hD (fun r26 wo H locs hw hP hD hS => ?_)
            obtain ⟨σ27, hr9, hO⟩ := hw
            have h := h r26 σ27 hr9 (OB_gok hO)
            refine lv_goto (tgt := 224) hx hb dL_drawn_197 (by decide) ?_
            exact wB_224 x2_165 x3_165 x4_165 r26 σ27 _ _ _ _ _ _ h hO hP hD hS (lv_sub hl [2, 3, 4, 5, 6] rfl) (by omega) (by omega)
        intro x2_130 x3_130 x4_130 σ wo H locs ls cells slots h hO hP hD hS hl hc1 hc2
        rw [wp_L_drawn_b130] at h
        refine lv_iload hx hb dL_drawn_130 (lv_at hl 4 rfl) ?_
        refine lv_iload_n hx hb dL_drawn_132 rfl (lv_at hl 3 rfl) ?_
        refine lv_icmp_ge (tgt := 242) hx hb dL_drawn_133 (by decide) (fun c0 => ?_) (fun c0 => ?_)
        · have h := h.1 c0
          refine lv_iconst (v := 0) hx hb dL_drawn_242 (by decide) ?_
          refine lv_istore (lv' := [(4, .int 0), (0, .ref b9), (1, .ref a0), (2, .int x2_130), (3, .int x3_130)]) hx hb dL_drawn_243 hl (by decide) rfl (fun ls hl => ?_)
          exact wB_245 6 x2_130 x3_130 (0 : Int32) σ _ _ _ _ _ _ h hO hP hD hS (lv_sub hl [1, 2, 3, 4, 0] rfl) (by omega) (by omega)
        · have h := h.2 c0
          refine lv_aload_n hx hb dL_drawn_136 rfl (lv_at hl 0 rfl) ?_
          refine lv_bipush (v := 7) hx hb dL_drawn_137 (by decide) ?_
          refine lv_iload hx hb dL_drawn_139 (lv_at hl 4 rfl) ?_
          refine lv_iadd hx hb dL_drawn_141 ?_
          refine coI (va_runS (As := [.ref b9, .int ((7 : Int32) + x4_130)]) (rest := []) ⟨hx, hb, hml, hown, hta⟩ (lc_L_cell l hl9 dC dI cT h hO (P_r hP) ((D_r hD).weaken (fun _ _ _ _ => trivial))) (cS hta lm_L_177 md_L_cell ⟨(Nat.le_of_ble_eq_true rfl), (Nat.le_of_ble_eq_true rfl)⟩) ⟨fbUS, fun U hU hW => ⟨rfl, hU, va_K.moved hW.alike hK, XS.call hX hS hU hW (freeO hD hS hA), hN.warm hW, ZS.call hZ hS hU hW (freeO hD hS hA), LT.call hT hS hU hW (freeO hD hS hA), SC.call hC hS hU hW (freeO hD hS hA)⟩⟩ rfl rfl hl.1 rfl (lv_room (Nat.le_of_ble_eq_true rfl)) dL_drawn_142 ⟨by show _ ≤ (689 : Nat); omega, by show _ ≤ (17532 : Nat); omega⟩) hS hA hP hD (fun r29 wo H locs hw hP hD hS => ?_)
          obtain ⟨σ28, h, hO⟩ := hw
          refine lv_iconst (v := 1) hx hb dL_drawn_145 (by decide) ?_
          refine lv_iushr hx hb dL_drawn_146 rfl ?_
          refine lv_topi (fun v30 e_v => ?_)
          have h := h v30 e_v
          refine lv_istore (lv' := [(5, .int v30), (0, .ref b9), (1, .ref a0), (2, .int x2_130), (3, .int x3_130), (4, .int x4_130)]) hx hb dL_drawn_147 hl (by decide) rfl (fun ls hl => ?_)
          refine lv_aload_n hx hb dL_drawn_149 rfl (lv_at hl 2 rfl) ?_
          refine lv_iload hx hb dL_drawn_150 (lv_at hl 5 rfl) ?_
          refine lv_iconst (v := 0) hx hb dL_drawn_152 (by decide) ?_
          refine coI (vx_runSW (As := [.ref a0, .int x4_130, .int 0]) (rest := []) ⟨hx, hb, hml, hown, hta⟩ (oc_L_of l hl9 dC dI cT hO (P_r hP) ((D_r hD).weaken (fun _ _ _ _ => trivial))) (cW hta lm_L_186 mw_L_of ⟨(Nat.le_of_ble_eq_true rfl), (Nat.le_of_ble_eq_true rfl)⟩) ⟨fbU, fun U hU hW => ⟨rfl, hU, va_K.moved hW.alike hK, XS.call hX hS hU hW (freeO hD hS hA), hN.warm hW, ZS.call hZ hS hU hW (freeO hD hS hA), LT.call hT hS hU hW (freeO hD hS hA)⟩⟩ rfl rfl hl.1 rfl (lv_room (Nat.le_of_ble_eq_true rfl)) dL_drawn_153 ⟨by show _ ≤ (689 : Nat); omega, by show _ ≤ (17532 : Nat); omega⟩) hS hA hP hD (fun r31 wo H locs hw hP hD hS => ?_)
          obtain ⟨hr9, hO⟩ := hw
          have h := h r31 hr9
          refine lv_iconst (v := 1) hx hb dL_drawn_156 (by decide) ?_
          refine lv_icmp_ne (tgt := 164) hx hb dL_drawn_157 (by decide) (fun c0 => ?_) (fun c0 => ?_)
          · have h := h.2 c0
            refine lv_iconst (v := 0) hx hb dL_drawn_164 (by decide) ?_
            exact wB_165 x2_130 x3_130 x4_130 v30 (0 : Int32) σ28 _ _ _ _ _ _ h hO hP hD hS (lv_sub hl [1, 2, 3, 4, 5, 0] rfl) (by omega) (by omega)
          · have h := h.1 c0
            refine lv_iconst (v := 1) hx hb dL_drawn_160 (by decide) ?_
            refine lv_goto (tgt := 165) hx hb dL_drawn_161 (by decide) ?_
            exact wB_165 x2_130 x3_130 x4_130 v30 (1 : Int32) σ28 _ _ _ _ _ _ h hO hP hD hS (lv_sub hl [1, 2, 3, 4, 5, 0] rfl) (by omega) (by omega)
    have wB_25 : ∀ (n_25 : Nat), ∀ (x2_25 : Int32) (x3_25 : Int32) (x4_25 : Int32) (σ : AB) (wo : va_W) (H : Heap) (locs : List Loc) (ls : Array Slot) (cells slots : Nat), wp_L_drawn_b25 K sn sg n_25 x2_25 x3_25 x4_25 σ → OB cT a0 σ wo → va_P (dC, dI) vwCl (([] : va_W) ++ wo) H → va_D A (([] : va_W) ++ wo) → va_S A s.heap H locs → lv_has ls 9 [(0, .ref b9), (1, .ref a0), (2, .int x2_25), (3, .int x3_25), (4, .int x4_25)] → cells + (555 + n_25 * 2) ≤ 689 → slots + (16440 + n_25 * 12) ≤ 17532 → W p l e ({ frames := 9, cells := 689, slots := 17532, locals := 181 } : Room) s m [.ref b9].toArray below meth c H locs cells slots Q (F0 m 25 ls []) := by
      intro n_25
      induction n_25 with
      | zero =>
        intro x2_25 x3_25 x4_25 σ wo H locs ls cells slots h hO hP hD hS hl hc1 hc2
        exact False.elim h
      | succ n_25 ih_25 =>
        have wB_110 : ∀ (x2_110 : Int32) (x3_110 : Int32) (x4_110 : Int32) (s0_110 : Int32) (σ : AB) (wo : va_W) (H : Heap) (locs : List Loc) (ls : Array Slot) (cells slots : Nat), wp_L_drawn_b110 K sn sg (wp_L_drawn_b25 K sn sg n_25) x2_110 x3_110 x4_110 s0_110 σ → OB cT a0 σ wo → va_P (dC, dI) vwCl (([] : va_W) ++ wo) H → va_D A (([] : va_W) ++ wo) → va_S A s.heap H locs → lv_has ls 9 [(0, .ref b9), (1, .ref a0), (2, .int x2_110), (3, .int x3_110), (4, .int x4_110)] → cells + (555 + n_25 * 2) ≤ 689 → slots + (16440 + n_25 * 12) ≤ 17532 → W p l e ({ frames := 9, cells := 689, slots := 17532, locals := 181 } : Room) s m [.ref b9].toArray below meth c H locs cells slots Q (F0 m 110 ls [.int s0_110]) := by
          intro x2_110 x3_110 x4_110 s0_110 σ wo H locs ls cells slots h hO hP hD hS hl hc1 hc2
          unfold wp_L_drawn_b110 at h
          refine lv_istore (lv' := [(8, .int s0_110), (0, .ref b9), (1, .ref a0), (2, .int x2_110), (3, .int x3_110), (4, .int x4_110)]) hx hb dL_drawn_110 hl (by decide) rfl (fun ls hl => ?_)
          refine lv_iload hx hb dL_drawn_112 (lv_at hl 0 rfl) ?_
          refine lv_iload hx hb dL_drawn_114 (lv_at hl 5 rfl) ?_
          refine lv_icmp_eq (tgt := 121) hx hb dL_drawn_116 (by decide) (fun c0 => ?_) (fun c0 => ?_)
          · have h := h.1 c0
            obtain ⟨v32, e_v⟩ : ∃ y : Int32, y = x4_110 + 1 := ⟨_, rfl⟩
            have h := h v32 e_v
            refine lv_iinc (v := v32) (lv' := [(4, .int v32), (8, .int s0_110), (0, .ref b9), (1, .ref a0), (2, .int x2_110), (3, .int x3_110)]) hx hb dL_drawn_121 hl (k := 5) rfl (by rw [e_v]; rfl) (by decide) rfl (fun ls hl => ?_)
            refine lv_goto (tgt := 25) hx hb dL_drawn_124 (by decide) ?_
            exact ih_25 x2_110 x3_110 v32 σ _ _ _ _ _ _ h hO hP hD hS (lv_sub hl [2, 3, 4, 5, 0] rfl) (by omega) (by omega)
          · have h := h.2 c0
            refine lv_null hx hb dL_drawn_119 ?_
            exact False.elim h
        have wB_85 : ∀ (x2_85 : Int32) (x3_85 : Int32) (x4_85 : Int32) (x5_85 : Int32) (x6_85 : Int32) (s0_85 : Int32) (σ : AB) (wo : va_W) (H : Heap) (locs : List Loc) (ls : Array Slot) (cells slots : Nat), wp_L_drawn_b85 K sn sg (wp_L_drawn_b25 K sn sg n_25) x2_85 x3_85 x4_85 x5_85 x6_85 s0_85 σ → OB cT a0 σ wo → va_P (dC, dI) vwCl (([] : va_W) ++ wo) H → va_D A (([] : va_W) ++ wo) → va_S A s.heap H locs → lv_has ls 9 [(0, .ref b9), (1, .ref a0), (2, .int x2_85), (3, .int x3_85), (4, .int x4_85), (5, .int x5_85), (6, .int x6_85)] → cells + (557 + n_25 * 2) ≤ 689 → slots + (16452 + n_25 * 12) ≤ 17532 → W p l e ({ frames := 9, cells := 689, slots := 17532, locals := 181 } : Room) s m [.ref b9].toArray below meth c H locs cells slots Q (F0 m 85 ls [.int s0_85]) := by
          intro x2_85 x3_85 x4_85 x5_85 x6_85 s0_85 σ wo H locs ls cells slots h hO hP hD hS hl hc1 hc2
          unfold wp_L_drawn_b85 at h
          refine lv_istore (lv' := [(7, .int s0_85), (0, .ref b9), (1, .ref a0), (2, .int x2_85), (3, .int x3_85), (4, .int x4_85), (5, .int x5_85), (6, .int x6_85)]) hx hb dL_drawn_85 hl (by decide) rfl (fun ls hl => ?_)
          refine lv_iload hx hb dL_drawn_87 (lv_at hl 6 rfl) ?_
          refine lv_iconst (v := 4) hx hb dL_drawn_89 (by decide) ?_
          obtain ⟨hc, h⟩ := h
          refine lv_irem hx hb dL_drawn_90 hc ?_
          refine lv_topi (fun v33 e_v => ?_)
          have h := h v33 e_v
          refine lv_iconst (v := 3) hx hb dL_drawn_91 (by decide) ?_
          refine lv_icmp_ne (tgt := 102) hx hb dL_drawn_92 (by decide) (fun c0 => ?_) (fun c0 => ?_)
          · have h := h.2 c0
            refine lv_aload_n hx hb dL_drawn_102 rfl (lv_at hl 2 rfl) ?_
            refine lv_iload hx hb dL_drawn_103 (lv_at hl 7 rfl) ?_
            refine lv_iload hx hb dL_drawn_105 (lv_at hl 0 rfl) ?_
            refine coI (vx_runSW (As := [.ref a0, .int x6_85, .int s0_85]) (rest := []) ⟨hx, hb, hml, hown, hta⟩ (oc_L_drams l hl9 dC dI cT hO (P_r hP) ((D_r hD).weaken (fun _ _ _ _ => trivial))) (cW hta lm_L_183 mw_L_drams ⟨(Nat.le_of_ble_eq_true rfl), (Nat.le_of_ble_eq_true rfl)⟩) ⟨fbU, fun U hU hW => ⟨rfl, hU, va_K.moved hW.alike hK, XS.call hX hS hU hW (freeO hD hS hA), hN.warm hW, ZS.call hZ hS hU hW (freeO hD hS hA), LT.call hT hS hU hW (freeO hD hS hA)⟩⟩ rfl rfl hl.1 rfl (lv_room (Nat.le_of_ble_eq_true rfl)) dL_drawn_107 ⟨by show _ ≤ (689 : Nat); omega, by show _ ≤ (17532 : Nat); omega⟩) hS hA hP hD (fun r34 wo H locs hw hP hD hS => ?_)
            obtain ⟨σ35, hr9, hO⟩ := hw
            have h := h r34 σ35 hr9 (OB_gok hO)
            exact wB_110 x2_85 x3_85 x4_85 r34 σ35 _ _ _ _ _ _ h hO hP hD hS (lv_sub hl [1, 2, 3, 4, 5] rfl) (by omega) (by omega)
          · have h := h.1 c0
            refine lv_aload_n hx hb dL_drawn_95 rfl (lv_at hl 2 rfl) ?_
            refine coI (vx_runSW (As := [.ref a0]) (rest := []) ⟨hx, hb, hml, hown, hta⟩ (oc_L_broth l hl9 dC dI cT hO (P_r hP) ((D_r hD).weaken (fun _ _ _ _ => trivial))) (cW hta lm_L_181 mw_L_broth ⟨(Nat.le_of_ble_eq_true rfl), (Nat.le_of_ble_eq_true rfl)⟩) ⟨fbU, fun U hU hW => ⟨rfl, hU, va_K.moved hW.alike hK, XS.call hX hS hU hW (freeO hD hS hA), hN.warm hW, ZS.call hZ hS hU hW (freeO hD hS hA), LT.call hT hS hU hW (freeO hD hS hA)⟩⟩ rfl rfl hl.1 rfl (lv_room (Nat.le_of_ble_eq_true rfl)) dL_drawn_96 ⟨by show _ ≤ (689 : Nat); omega, by show _ ≤ (17532 : Nat); omega⟩) hS hA hP hD (fun r36 wo H locs hw hP hD hS => ?_)
            obtain ⟨σ37, hr9, hO⟩ := hw
            have h := h r36 σ37 hr9 (OB_gok hO)
            refine lv_goto (tgt := 110) hx hb dL_drawn_99 (by decide) ?_
            exact wB_110 x2_85 x3_85 x4_85 r36 σ37 _ _ _ _ _ _ h hO hP hD hS (lv_sub hl [1, 2, 3, 4, 5] rfl) (by omega) (by omega)
        have wB_63 : ∀ (x2_63 : Int32) (x3_63 : Int32) (x4_63 : Int32) (x5_63 : Int32) (s0_63 : Int32) (σ : AB) (wo : va_W) (H : Heap) (locs : List Loc) (ls : Array Slot) (cells slots : Nat), wp_L_drawn_b63 K sn sg (wp_L_drawn_b25 K sn sg n_25) x2_63 x3_63 x4_63 x5_63 s0_63 σ → OB cT a0 σ wo → va_P (dC, dI) vwCl (([] : va_W) ++ wo) H → va_D A (([] : va_W) ++ wo) → va_S A s.heap H locs → lv_has ls 9 [(0, .ref b9), (1, .ref a0), (2, .int x2_63), (3, .int x3_63), (4, .int x4_63), (5, .int x5_63)] → cells + (557 + n_25 * 2) ≤ 689 → slots + (16452 + n_25 * 12) ≤ 17532 → W p l e ({ frames := 9, cells := 689, slots := 17532, locals := 181 } : Room) s m [.ref b9].toArray below meth c H locs cells slots Q (F0 m 63 ls [.int s0_63]) := by
          intro x2_63 x3_63 x4_63 x5_63 s0_63 σ wo H locs ls cells slots h hO hP hD hS hl hc1 hc2
          unfold wp_L_drawn_b63 at h
          refine lv_istore (lv' := [(6, .int s0_63), (0, .ref b9), (1, .ref a0), (2, .int x2_63), (3, .int x3_63), (4, .int x4_63), (5, .int x5_63)]) hx hb dL_drawn_63 hl (by decide) rfl (fun ls hl => ?_)
          refine lv_iload hx hb dL_drawn_65 (lv_at hl 6 rfl) ?_
          refine lv_iconst (v := 5) hx hb dL_drawn_67 (by decide) ?_
          obtain ⟨hc, h⟩ := h
          refine lv_irem hx hb dL_drawn_68 hc ?_
          refine lv_topi (fun v38 e_v => ?_)
          have h := h v38 e_v
          refine lv_if_ne (tgt := 77) hx hb dL_drawn_69 (by decide) (fun c0 => ?_) (fun c0 => ?_)
          · have h := h.2 c0
            refine lv_iload hx hb dL_drawn_77 (lv_at hl 6 rfl) ?_
            refine lv_bipush (v := 9) hx hb dL_drawn_79 (by decide) ?_
            refine lv_iushr hx hb dL_drawn_81 rfl ?_
            refine lv_bipush (v := 30) hx hb dL_drawn_82 (by decide) ?_
            obtain ⟨hc, h⟩ := h
            refine lv_irem hx hb dL_drawn_84 hc ?_
            refine lv_topi (fun v39 e_v => ?_)
            have h := h v39 e_v
            exact wB_85 x2_63 x3_63 x4_63 x5_63 s0_63 v39 σ _ _ _ _ _ _ h hO hP hD hS (lv_sub hl [1, 2, 3, 4, 5, 6, 0] rfl) (by omega) (by omega)
          · have h := h.1 c0
            refine lv_bipush (v := 99) hx hb dL_drawn_72 (by decide) ?_
            refine lv_goto (tgt := 85) hx hb dL_drawn_74 (by decide) ?_
            exact wB_85 x2_63 x3_63 x4_63 x5_63 s0_63 (99 : Int32) σ _ _ _ _ _ _ h hO hP hD hS (lv_sub hl [1, 2, 3, 4, 5, 6, 0] rfl) (by omega) (by omega)
        intro x2_25 x3_25 x4_25 σ wo H locs ls cells slots h hO hP hD hS hl hc1 hc2
        rw [wp_L_drawn_b25] at h
        refine lv_iload hx hb dL_drawn_25 (lv_at hl 4 rfl) ?_
        refine lv_iload_n hx hb dL_drawn_27 rfl (lv_at hl 3 rfl) ?_
        refine lv_icmp_ge (tgt := 127) hx hb dL_drawn_28 (by decide) (fun c0 => ?_) (fun c0 => ?_)
        · have h := h.1 c0
          refine lv_iconst (v := 0) hx hb dL_drawn_127 (by decide) ?_
          refine lv_istore (lv' := [(4, .int 0), (0, .ref b9), (1, .ref a0), (2, .int x2_25), (3, .int x3_25)]) hx hb dL_drawn_128 hl (by decide) rfl (fun ls hl => ?_)
          exact wB_130 7 x2_25 x3_25 (0 : Int32) σ _ _ _ _ _ _ h hO hP hD hS (lv_sub hl [1, 2, 3, 4, 0] rfl) (by omega) (by omega)
        · have h := h.2 c0
          refine lv_aload_n hx hb dL_drawn_31 rfl (lv_at hl 0 rfl) ?_
          refine lv_iconst (v := 1) hx hb dL_drawn_32 (by decide) ?_
          refine lv_iload hx hb dL_drawn_33 (lv_at hl 4 rfl) ?_
          refine lv_iadd hx hb dL_drawn_35 ?_
          refine coI (va_runS (As := [.ref b9, .int ((1 : Int32) + x4_25)]) (rest := []) ⟨hx, hb, hml, hown, hta⟩ (lc_L_cell l hl9 dC dI cT h hO (P_r hP) ((D_r hD).weaken (fun _ _ _ _ => trivial))) (cS hta lm_L_177 md_L_cell ⟨(Nat.le_of_ble_eq_true rfl), (Nat.le_of_ble_eq_true rfl)⟩) ⟨fbUS, fun U hU hW => ⟨rfl, hU, va_K.moved hW.alike hK, XS.call hX hS hU hW (freeO hD hS hA), hN.warm hW, ZS.call hZ hS hU hW (freeO hD hS hA), LT.call hT hS hU hW (freeO hD hS hA), SC.call hC hS hU hW (freeO hD hS hA)⟩⟩ rfl rfl hl.1 rfl (lv_room (Nat.le_of_ble_eq_true rfl)) dL_drawn_36 ⟨by show _ ≤ (689 : Nat); omega, by show _ ≤ (17532 : Nat); omega⟩) hS hA hP hD (fun r41 wo H locs hw hP hD hS => ?_)
          obtain ⟨σ40, h, hO⟩ := hw
          refine lv_iconst (v := 1) hx hb dL_drawn_39 (by decide) ?_
          refine lv_iushr hx hb dL_drawn_40 rfl ?_
          refine lv_topi (fun v42 e_v => ?_)
          have h := h v42 e_v
          refine lv_istore (lv' := [(5, .int v42), (0, .ref b9), (1, .ref a0), (2, .int x2_25), (3, .int x3_25), (4, .int x4_25)]) hx hb dL_drawn_41 hl (by decide) rfl (fun ls hl => ?_)
          refine lv_iload hx hb dL_drawn_43 (lv_at hl 0 rfl) ?_
          refine lv_iconst (v := 5) hx hb dL_drawn_45 (by decide) ?_
          obtain ⟨hc, h⟩ := h
          refine lv_irem hx hb dL_drawn_46 hc ?_
          refine lv_topi (fun v43 e_v => ?_)
          have h := h v43 e_v
          refine lv_if_ne (tgt := 55) hx hb dL_drawn_47 (by decide) (fun c0 => ?_) (fun c0 => ?_)
          · have h := h.2 c0
            refine lv_iload hx hb dL_drawn_55 (lv_at hl 0 rfl) ?_
            refine lv_iconst (v := 3) hx hb dL_drawn_57 (by decide) ?_
            refine lv_iushr hx hb dL_drawn_58 rfl ?_
            refine lv_ineg hx hb dL_drawn_59 ?_
            refine lv_bipush (v := 30) hx hb dL_drawn_60 (by decide) ?_
            obtain ⟨hc, h⟩ := h
            refine lv_irem hx hb dL_drawn_62 hc ?_
            refine lv_topi (fun v44 e_v => ?_)
            have h := h v44 e_v
            exact wB_63 x2_25 x3_25 x4_25 v42 v44 σ40 _ _ _ _ _ _ h hO hP hD hS (lv_sub hl [1, 2, 3, 4, 5, 0] rfl) (by omega) (by omega)
          · have h := h.1 c0
            refine lv_bipush (v := -99) hx hb dL_drawn_50 (by decide) ?_
            refine lv_goto (tgt := 63) hx hb dL_drawn_52 (by decide) ?_
            exact wB_63 x2_25 x3_25 x4_25 v42 (-99 : Int32) σ40 _ _ _ _ _ _ h hO hP hD hS (lv_sub hl [1, 2, 3, 4, 5, 0] rfl) (by omega) (by omega)
    intro σ wo H locs ls cells slots h hO hP hD hS hl hc1 hc2
    unfold wp_L_drawn at h
    refine lv_aload_n hx hb dL_drawn_8 rfl (lv_at hl 1 rfl) ?_
    refine lv_iconst (v := 0) hx hb dL_drawn_9 (by decide) ?_
    refine coI (va_runS (As := [.ref b9, .int 0]) (rest := []) ⟨hx, hb, hml, hown, hta⟩ (lc_L_cell l hl9 dC dI cT h hO (P_r hP) ((D_r hD).weaken (fun _ _ _ _ => trivial))) (cS hta lm_L_177 md_L_cell ⟨(Nat.le_of_ble_eq_true rfl), (Nat.le_of_ble_eq_true rfl)⟩) ⟨fbUS, fun U hU hW => ⟨rfl, hU, va_K.moved hW.alike hK, XS.call hX hS hU hW (freeO hD hS hA), hN.warm hW, ZS.call hZ hS hU hW (freeO hD hS hA), LT.call hT hS hU hW (freeO hD hS hA), SC.call hC hS hU hW (freeO hD hS hA)⟩⟩ rfl rfl hl.1 rfl (lv_room (Nat.le_of_ble_eq_true rfl)) dL_drawn_10 ⟨by show _ ≤ (689 : Nat); omega, by show _ ≤ (17532 : Nat); omega⟩) hS hA hP hD (fun r46 wo H locs hw hP hD hS => ?_)
    obtain ⟨σ45, h, hO⟩ := hw
    refine lv_iconst (v := 1) hx hb dL_drawn_13 (by decide) ?_
    refine lv_iushr hx hb dL_drawn_14 rfl ?_
    refine lv_topi (fun v47 e_v => ?_)
    have h := h v47 e_v
    refine lv_istore_n (lv' := [(2, .int v47), (1, .ref a0), (0, .ref b9)]) hx hb dL_drawn_15 rfl hl (by decide) rfl (fun ls hl => ?_)
    refine lv_iconst (v := 2) hx hb dL_drawn_16 (by decide) ?_
    refine lv_iload_n hx hb dL_drawn_17 rfl (lv_at hl 0 rfl) ?_
    refine lv_iconst (v := 4) hx hb dL_drawn_18 (by decide) ?_
    obtain ⟨hc, h⟩ := h
    refine lv_irem hx hb dL_drawn_19 hc ?_
    refine lv_topi (fun v48 e_v => ?_)
    have h := h v48 e_v
    refine lv_iadd hx hb dL_drawn_20 ?_
    refine lv_topi (fun v49 e_v => ?_)
    have h := h v49 e_v
    refine lv_istore_n (lv' := [(3, .int v49), (2, .int v47), (1, .ref a0), (0, .ref b9)]) hx hb dL_drawn_21 rfl hl (by decide) rfl (fun ls hl => ?_)
    refine lv_iconst (v := 0) hx hb dL_drawn_22 (by decide) ?_
    refine lv_istore (lv' := [(4, .int 0), (3, .int v49), (2, .int v47), (1, .ref a0), (0, .ref b9)]) hx hb dL_drawn_23 hl (by decide) rfl (fun ls hl => ?_)
    exact wB_25 7 v47 v49 (0 : Int32) σ45 _ _ _ _ _ _ h hO hP hD hS (lv_sub hl [4, 3, 2, 1, 0] rfl) (by omega) (by omega)
  refine va_new (ci := 14) (fs := [.null, .null, .int 0, .null, .null, .null, .null, .null, .null, .null, .null, .int 0, .int 0, .null, .int 0]) (C := RX11) (T := TX11) (N := 15) hx hb hta inX11w tyX11 tyX11_ok hown (hta _ lc_L_9) (hta _ inst_X11) (hta _ ini_X11) hK hP hD hS hA rfl (fun j hj => by rcases (show j = 0 ∨ j = 1 ∨ j = 2 ∨ j = 3 ∨ j = 4 ∨ j = 5 ∨ j = 6 ∨ j = 7 ∨ j = 8 ∨ j = 9 ∨ j = 10 ∨ j = 11 ∨ j = 12 ∨ j = 13 ∨ j = 14 by omega) with rfl | rfl | rfl | rfl | rfl | rfl | rfl | rfl | rfl | rfl | rfl | rfl | rfl | rfl | rfl <;> rfl) (Nat.le_of_ble_eq_true rfl) (Nat.le_of_ble_eq_true rfl) dL_drawn_0 (fun q0 H hP hD hS => ?_)
  have hP : va_P (dC, dI) vwCl [(q0, .inr (14, [.null, .null, .int 0, .null, .null, .null, .null, .null, .null, .null, .null, .int 0, .int 0, .null, .int 0]))] H := hP
  have hD : va_D A [(q0, .inr (14, [.null, .null, .int 0, .null, .null, .null, .null, .null, .null, .null, .null, .int 0, .int 0, .null, .int 0]))] := hD
  refine lv_dup hx hb dL_drawn_3 rfl ?_
  refine cfV (wr := []) (va_runI (As := []) (rest := [.ref q0]) ⟨hx, hb, hml, hown, hta⟩ (c_X11_init l dC dI cT hP (ds hD [0] (by decide) rfl)) (cI hta lm_L_176 md_X11_init ⟨(Nat.le_of_ble_eq_true rfl), (Nat.le_of_ble_eq_true rfl)⟩) ⟨fbNS, fun U9 hU9 hW9 => ⟨rfl, hU9, va_K.moved hW9.alike hK, NX.warm hW9 hN, ZS.call hZ hS hU9 hW9 (va_free hD hS hA [0] rfl)⟩⟩ rfl rfl hl.1 rfl (lv_room (Nat.le_of_ble_eq_true rfl)) dL_drawn_4 ⟨(Nat.le_of_ble_eq_true rfl), (Nat.le_of_ble_eq_true rfl)⟩) hS hA hP hD [0] [] rfl rfl (by decide) (by decide) (fun u H locs hP hD hS => ?_)
  have hP : va_P (dC, dI) vwCl (([] : va_W) ++ nw_X11_init cT q0 u) H := hP
  have hD : va_D A (([] : va_W) ++ nw_X11_init cT q0 u) := hD
  refine lv_astore_n (lv' := [(1, .ref q0), (0, .ref b9)]) hx hb dL_drawn_7 rfl hl (by decide) rfl (fun ls hl => ?_)
  exact rest8 q0 σ0 _ H locs ls _ _ h (OB_0 cT q0 u) hP hD hS hl (by omega) (by omega)
