/-! THE LAW's methods (gen/laws41.py) -/
def wp_L_undone_b377 (K : (Int32 → AB → Prop)) (sn : Nat) (sg : Nat → Int32)   (σ : AB) : Prop :=
K (0 : Int32) σ
def wp_L_undone_b353 (K : (Int32 → AB → Prop)) (sn : Nat) (sg : Nat → Int32)  : Nat → Int32 → Nat → (Nat → Int64) → AB → Prop
  | 0, _, _, _, _ => False
  | n + 1, x4_353, mr2_353, fr2_353, σ =>
    (x4_353 < 0 →
    K (1 : Int32) σ) ∧
    (¬ x4_353 < 0 →
    ∀ (r1 : Int32) (σ2 : AB), ((σ.2.1 = 0 ∧ r1 = -14 ∧ σ2 = σ) ∨ (0 < σ.2.1 ∧ r1 = nI (σ.2.1 - 1) ∧ BEB σ2.1 (σ.2.2.1 0) ∧ σ2.2.1 = σ.2.1 - 1 ∧ (∀ r1, σ2.2.2.1 r1 = σ.2.2.1 (r1 + 1)) ∧ KEPTR σ σ2 ∧ σ2.2.2.2.2.2.1 = σ.2.2.2.2.2.1)) →
    GOK σ2 →
    (r1 < 0 →
    wp_L_undone_b377 K sn sg σ2) ∧
    (¬ r1 < 0 →
    wp_L_sum (fun (r4 : Int64) (σ3 : AB) =>
    (inb x4_353 mr2_353 = true) ∧
    ((lg_cmp r4 (fr2_353 x4_353.toNatClampNeg)) = 0 →
    ∀ v5 : Int32, v5 = x4_353 + (-1) →
    wp_L_undone_b353 K sn sg n v5 mr2_353 fr2_353 σ3) ∧
    (¬ (lg_cmp r4 (fr2_353 x4_353.toNatClampNeg)) = 0 →
    wp_L_undone_b377 K sn sg σ3))  σ2))
def wp_L_undone_b340 (K : (Int32 → AB → Prop)) (sn : Nat) (sg : Nat → Int32) (k_10 : Int32 → Int32 → Nat → (Nat → Int64) → AB → Prop) (x4_340 : Int32) (s0_340 : Int32) (s1_340 : Int32) (mr2_340 : Nat) (fr2_340 : Nat → Int64) (σ : AB) : Prop :=
∀ v6 : Int32, v6 = (s1_340 + s0_340) →
∀ v7 : Int32, v7 = x4_340 + 1 →
k_10 v6 v7 mr2_340 fr2_340 σ
def wp_L_undone_b329 (K : (Int32 → AB → Prop)) (sn : Nat) (sg : Nat → Int32) (k_10 : Int32 → Int32 → Nat → (Nat → Int64) → AB → Prop) (x3_329 : Int32) (x4_329 : Int32) (x9_329 : Int32) (mr2_329 : Nat) (fr2_329 : Nat → Int64) (σ : AB) : Prop :=
(x9_329 = 0 →
wp_L_undone_b340 K sn sg k_10 x4_329 (0 : Int32) x3_329 mr2_329 fr2_329 σ) ∧
(¬ x9_329 = 0 →
wp_L_undone_b340 K sn sg k_10 x4_329 (1 : Int32) x3_329 mr2_329 fr2_329 σ)
def wp_L_undone_b309 (K : (Int32 → AB → Prop)) (sn : Nat) (sg : Nat → Int32) (k_10 : Int32 → Int32 → Nat → (Nat → Int64) → AB → Prop) (x3_309 : Int32) (x4_309 : Int32) (s0_309 : Int32) (mr2_309 : Nat) (fr2_309 : Nat → Int64) (σ : AB) : Prop :=
(s0_309 = 0 →
wp_L_sum (fun (r9 : Int64) (σ8 : AB) =>
(inb x3_309 mr2_309 = true) ∧
((lg_cmp r9 (fr2_309 x3_309.toNatClampNeg)) = 0 →
wp_L_undone_b329 K sn sg k_10 x3_309 x4_309 s0_309 mr2_309 fr2_309 σ8) ∧
(¬ (lg_cmp r9 (fr2_309 x3_309.toNatClampNeg)) = 0 →
K (0 : Int32) σ8))  σ) ∧
(¬ s0_309 = 0 →
wp_L_undone_b329 K sn sg k_10 x3_309 x4_309 s0_309 mr2_309 fr2_309 σ)
def wp_L_undone_b299 (K : (Int32 → AB → Prop)) (sn : Nat) (sg : Nat → Int32) (k_10 : Int32 → Int32 → Nat → (Nat → Int64) → AB → Prop) (x3_299 : Int32) (x4_299 : Int32) (x8_299 : Int32) (mr2_299 : Nat) (fr2_299 : Nat → Int64) (σ : AB) : Prop :=
(x8_299 < 0 →
wp_L_undone_b309 K sn sg k_10 x3_299 x4_299 (0 : Int32) mr2_299 fr2_299 σ) ∧
(¬ x8_299 < 0 →
wp_L_undone_b309 K sn sg k_10 x3_299 x4_299 (1 : Int32) mr2_299 fr2_299 σ)
def wp_L_undone_b265 (K : (Int32 → AB → Prop)) (sn : Nat) (sg : Nat → Int32) (k_10 : Int32 → Int32 → Nat → (Nat → Int64) → AB → Prop) (x3_265 : Int32) (x4_265 : Int32) (x5_265 : Int32) (x8_265 : Int32) (mr2_265 : Nat) (fr2_265 : Nat → Int64) (σ : AB) : Prop :=
(¬ (9 : Int32) = 0) ∧
∀ v10 : Int32, v10 = (x5_265 - x5_265 / (9 : Int32) * (9 : Int32)) →
(v10 ≤ 1 →
wp_L_undone_b299 K sn sg k_10 x3_265 x4_265 x8_265 mr2_265 fr2_265 σ) ∧
(¬ v10 ≤ 1 →
(¬ (9 : Int32) = 0) ∧
∀ v11 : Int32, v11 = (x5_265 - x5_265 / (9 : Int32) * (9 : Int32)) →
(5 ≤ v11 →
wp_L_undone_b299 K sn sg k_10 x3_265 x4_265 x8_265 mr2_265 fr2_265 σ) ∧
(¬ 5 ≤ v11 →
(x8_265 ≤ (-1000) →
wp_L_undone_b309 K sn sg k_10 x3_265 x4_265 (0 : Int32) mr2_265 fr2_265 σ) ∧
(¬ x8_265 ≤ (-1000) →
wp_L_undone_b309 K sn sg k_10 x3_265 x4_265 (1 : Int32) mr2_265 fr2_265 σ)))
def wp_L_undone_b10 (K : (Int32 → AB → Prop)) (sn : Nat) (sg : Nat → Int32)  : Nat → Int32 → Int32 → Nat → (Nat → Int64) → AB → Prop
  | 0, _, _, _, _, _ => False
  | n + 1, x3_10, x4_10, mr2_10, fr2_10, σ =>
    (6 ≤ x4_10 →
    ∀ v12 : Int32, v12 = (x3_10 - 1) →
    wp_L_undone_b353 K sn sg 7 v12 mr2_10 fr2_10 σ) ∧
    (¬ 6 ≤ x4_10 →
    wp_L_cell (fun (r14 : Int32) (σ13 : AB) =>
    ∀ v15 : Int32, v15 = (r14.toUInt32 >>> ((1 : Int32).toUInt32 &&& Int32.toUInt32 31)).toInt32 →
    ∀ v16 : Int32, v16 = (v15.toUInt32 >>> ((4 : Int32).toUInt32 &&& Int32.toUInt32 31)).toInt32 →
    (∃ n, n < 8 ∧ (0 : Int32) = nI n) ∧
    ∀ r17 : Int32, r17 = f_account σ13.1 σ13.2.2.2.2.2.2 (0 : Int32) →
    wp_L_sum (fun (r19 : Int64) (σ18 : AB) =>
    (inb x3_10 mr2_10 = true) ∧
    ∀ f20 : Nat → Int64, f20 = (vp_updL fr2_10 x3_10.toNatClampNeg r19) →
    (¬ (9 : Int32) = 0) ∧
    ∀ v21 : Int32, v21 = (v15 - v15 / (9 : Int32) * (9 : Int32)) →
    (v21 = 0 →
    (¬ (30 : Int32) = 0) ∧
    ∀ v22 : Int32, v22 = (v16 - v16 / (30 : Int32) * (30 : Int32)) →
    (¬ (30 : Int32) = 0) ∧
    ∀ v23 : Int32, v23 = (((v16.toUInt32 >>> ((5 : Int32).toUInt32 &&& Int32.toUInt32 31)).toInt32) - ((v16.toUInt32 >>> ((5 : Int32).toUInt32 &&& Int32.toUInt32 31)).toInt32) / (30 : Int32) * (30 : Int32)) →
    ∀ (r24 : Int32) (σ25 : AB), ((¬ OKdrams σ18.1 (v22 - 20) v23 ∧ r24 < 0 ∧ REFUSED σ18 σ25) ∨ (OKdrams σ18.1 (v22 - 20) v23 ∧ r24 = nI σ18.1.2.1 ∧ σ25.1 = (bNew σ18.1.1 σ18.1.2.1 0 (v22 - 20) v23 (v0 (v22 - 20) v23), σ18.1.2.1 + 1, σ18.1.2.2) ∧ PUSHED σ18 σ25 ∧ KEPTR σ18 σ25)) →
    GOK σ25 →
    wp_L_undone_b265 K sn sg (wp_L_undone_b10 K sn sg n) x3_10 x4_10 v15 r24 mr2_10 f20 σ25) ∧
    (¬ v21 = 0 →
    (v21 = 1 →
    ∀ (r26 : Int32) (σ27 : AB), ((¬ σ18.1.2.1 < 6 ∧ r26 < 0 ∧ REFUSED σ18 σ27) ∨ (σ18.1.2.1 < 6 ∧ r26 = nI σ18.1.2.1 ∧ σ27.1 = (bNew σ18.1.1 σ18.1.2.1 1 (-99) 99 0, σ18.1.2.1 + 1, σ18.1.2.2) ∧ PUSHED σ18 σ27 ∧ KEPTR σ18 σ27)) →
    GOK σ27 →
    wp_L_undone_b265 K sn sg (wp_L_undone_b10 K sn sg n) x3_10 x4_10 v15 r26 mr2_10 f20 σ27) ∧
    (¬ v21 = 1 →
    (v21 = 2 →
    (¬ (6 : Int32) = 0) ∧
    ∀ v28 : Int32, v28 = (v16 - v16 / (6 : Int32) * (6 : Int32)) →
    (¬ (60 : Int32) = 0) ∧
    ∀ v29 : Int32, v29 = (((v16.toUInt32 >>> ((3 : Int32).toUInt32 &&& Int32.toUInt32 31)).toInt32) - ((v16.toUInt32 >>> ((3 : Int32).toUInt32 &&& Int32.toUInt32 31)).toInt32) / (60 : Int32) * (60 : Int32)) →
    ∀ (r30 : Int32) (σ31 : AB), (((¬ ∃ c, OKpour σ18.1 v28 (v29 - 30) c) ∧ r30 ≤ -1001 ∧ REFUSED σ18 σ31) ∨ (∃ c, OKpour σ18.1 v28 (v29 - 30) c ∧ r30 = σ18.1.1.2.2.2.2.1 c ∧ σ31.1 = (bPour σ18.1.1 c (v29 - 30), σ18.1.2) ∧ PUSHED σ18 σ31 ∧ KEPTR σ18 σ31)) →
    GOK σ31 →
    wp_L_undone_b265 K sn sg (wp_L_undone_b10 K sn sg n) x3_10 x4_10 v15 r30 mr2_10 f20 σ31) ∧
    (¬ v21 = 2 →
    (v21 = 3 →
    (¬ (6 : Int32) = 0) ∧
    ∀ v32 : Int32, v32 = (v16 - v16 / (6 : Int32) * (6 : Int32)) →
    (¬ (22000 : Int32) = 0) ∧
    ∀ v33 : Int32, v33 = (((v16.toUInt32 >>> ((3 : Int32).toUInt32 &&& Int32.toUInt32 31)).toInt32) - ((v16.toUInt32 >>> ((3 : Int32).toUInt32 &&& Int32.toUInt32 31)).toInt32) / (22000 : Int32) * (22000 : Int32)) →
    ∀ (r34 : Int32) (σ35 : AB), (((¬ ∃ c, OKladle σ18.1 v32 (v33 - 11000) c) ∧ r34 ≤ -1001 ∧ REFUSED σ18 σ35) ∨ (∃ c, OKladle σ18.1 v32 (v33 - 11000) c ∧ (r34 = 0 ∨ r34 = 1) ∧ σ35.1 = (bLadle σ18.1.1 c (FP.fdiv (FP.i2f (v33 - 11000)) (1120403456 : UInt32)), σ18.1.2) ∧ PUSHED σ18 σ35 ∧ KEPTR σ18 σ35)) →
    GOK σ35 →
    wp_L_undone_b265 K sn sg (wp_L_undone_b10 K sn sg n) x3_10 x4_10 v15 r34 mr2_10 f20 σ35) ∧
    (¬ v21 = 3 →
    (v21 = 4 →
    (¬ (6 : Int32) = 0) ∧
    ∀ v36 : Int32, v36 = (v16 - v16 / (6 : Int32) * (6 : Int32)) →
    (¬ (40 : Int32) = 0) ∧
    ∀ v37 : Int32, v37 = ((-((v16.toUInt32 >>> ((3 : Int32).toUInt32 &&& Int32.toUInt32 31)).toInt32)) - (-((v16.toUInt32 >>> ((3 : Int32).toUInt32 &&& Int32.toUInt32 31)).toInt32)) / (40 : Int32) * (40 : Int32)) →
    (¬ (40 : Int32) = 0) ∧
    ∀ v38 : Int32, v38 = (((v16.toUInt32 >>> ((9 : Int32).toUInt32 &&& Int32.toUInt32 31)).toInt32) - ((v16.toUInt32 >>> ((9 : Int32).toUInt32 &&& Int32.toUInt32 31)).toInt32) / (40 : Int32) * (40 : Int32)) →
    ∀ (r39 : Int32) (σ40 : AB), (((¬ ∃ c, OKbounds σ18.1 v36 v37 v38 c) ∧ r39 ≤ -1001 ∧ REFUSED σ18 σ40) ∨ (∃ c, OKbounds σ18.1 v36 v37 v38 c ∧ (∃ u v, u < 5 ∧ v < 5 ∧ r39 = nI u - nI v) ∧ σ40.1 = (bBnds σ18.1.1 c v37 v38, σ18.1.2) ∧ PUSHED σ18 σ40 ∧ KEPTR σ18 σ40)) →
    GOK σ40 →
    wp_L_undone_b265 K sn sg (wp_L_undone_b10 K sn sg n) x3_10 x4_10 v15 r39 mr2_10 f20 σ40) ∧
    (¬ v21 = 4 →
    (v21 = 5 →
    wp_L_store (fun (ts222_42 : List Nat) (σ41 : AB) =>
    wp_L_write (fun (r44 : Int32) (σ43 : AB) =>
    wp_L_undone_b265 K sn sg (wp_L_undone_b10 K sn sg n) x3_10 x4_10 v15 r44 mr2_10 f20 σ43) ts222_42 σ41) v16 (if (1 : Int32) < r17 then r17 else (1 : Int32)) σ18) ∧
    (¬ v21 = 5 →
    (v21 = 6 →
    (¬ (4 : Int32) = 0) ∧
    ∀ v45 : Int32, v45 = (v16 - v16 / (4 : Int32) * (4 : Int32)) →
    ∀ (r46 : Int32) (σ47 : AB), ((OUT v45 σ18.1.2.2.1 ∧ r46 = -1 ∧ REFUSED σ18 σ47) ∨ (∃ i, i < σ18.1.2.2.1 ∧ v45 = nI i ∧ r46 = nI (σ18.1.2.2.1 - 1) ∧ PUSHED σ18 σ47 ∧ KEPTR σ18 σ47)) →
    GOK σ47 →
    wp_L_undone_b265 K sn sg (wp_L_undone_b10 K sn sg n) x3_10 x4_10 v15 r46 mr2_10 f20 σ47) ∧
    (¬ v21 = 6 →
    (v21 = 7 →
    (¬ (4 : Int32) = 0) ∧
    ∀ v48 : Int32, v48 = (v16 - v16 / (4 : Int32) * (4 : Int32)) →
    ∀ (r49 : Int32) (σ50 : AB), ((OUT v48 σ18.1.2.2.1 ∧ r49 = -1 ∧ REFUSED σ18 σ50) ∨ (∃ i z, i < σ18.1.2.2.1 ∧ v48 = nI i ∧ flC σ18.1.1.2.2.2.2.2.2.1 σ18.1.1.2.2.2.2.2.2.2.1 σ18.1.1.2.2.2.2.2.2.2.2.1 (CNo σ18.1) (σ18.1.2.2.2 i) = some z ∧ r49 = -2 ∧ (σ50.1 = σ18.1 ∧ σ50.2.1 = σ18.2.1 ∧ σ50.2.2.1 = σ18.2.2.1 ∧ σ50.2.2.2.1 = σ18.2.2.2.1 ∧ σ50.2.2.2.2.1 = σ18.2.2.2.2.1) ∧ σ50.2.2.2.2.2.2 = σ18.2.2.2.2.2.2 + 1 ∧ σ50.2.2.2.2.2.1 = (1, 6, nI z)) ∨ (∃ i, i < σ18.1.2.2.1 ∧ v48 = nI i ∧ flC σ18.1.1.2.2.2.2.2.2.1 σ18.1.1.2.2.2.2.2.2.2.1 σ18.1.1.2.2.2.2.2.2.2.2.1 (CNo σ18.1) (σ18.1.2.2.2 i) = none ∧ COOKED σ18.1 i r49 σ50.1.1 ∧ σ50.1.2 = σ18.1.2 ∧ PUSHED σ18 σ50 ∧ KEPTR σ18 σ50)) →
    GOK σ50 →
    wp_L_undone_b265 K sn sg (wp_L_undone_b10 K sn sg n) x3_10 x4_10 v15 r49 mr2_10 f20 σ50) ∧
    (¬ v21 = 7 →
    ∀ (r51 : Int32) (σ52 : AB), ((r51 = -2 ∧ REFUSED σ18 σ52) ∨ ((∃ k, k < 5 ∧ r51 = nI k) ∧ PUSHED σ18 σ52 ∧ KEPTR σ18 σ52)) →
    GOK σ52 →
    wp_L_undone_b265 K sn sg (wp_L_undone_b10 K sn sg n) x3_10 x4_10 v15 r51 mr2_10 f20 σ52)))))))))  σ13) sn sg ((21 : Int32) + x4_10) σ)
def wp_L_undone (K : (Int32 → AB → Prop)) (sn : Nat) (sg : Nat → Int32)  (σ : AB) : Prop :=
wp_L_undone_b10 K sn sg 7 (0 : Int32) (0 : Int32) 7 (fun _ => 0) σ
set_option maxHeartbeats 4000000 in
set_option maxRecDepth 100000 in
theorem lc_L_undone (l : Launch) (hl9 : l.stackTraces = false) (dC : Nat → ClassId) (dI : Nat → Nat → Nat) (cT : Nat → ClassId) {Hh : Heap} {a0 : Nat} {σ : AB} {W0 : va_W} {b9 sn : Nat} {sg : Nat → Int32} {K : (Int32 → AB → Prop)} (h : wp_L_undone K sn sg σ) (hO : OB cT a0 σ W0) (hP0 : va_P (dC, dI) vwCl W0 Hh) (hD0 : va_D (fun _ => True) W0) : Met l yL_undone (wA yL_undone cL_undone 10 (some .boolean)) ({ frames := 11, cells := 17774, slots := 541517, locals := 228 } : Room) (PUS b9 sn sg dC dI cT [.ref b9, .ref a0] Hh (va_A W0 Hh.size)) (QEI dC dI (fun r W1 => ∃ σ9, K r σ9 ∧ OB cT a0 σ9 W1) (va_A W0 Hh.size)) 17774 541517 (va_A W0 Hh.size) := by
  refine Met.ofW (cc := cL_undone) (maxL := 10) (ret := (some .boolean)) (by decide) rfl ?_
  intro p e s m args below meth c s₁ B hml hv
  obtain ⟨rfl, hH, hK, hX, hN, hZ, hT, hC⟩ := hv
  subst hH
  have hx := B.exec
  have hb := B.bytes
  have hr := B.returns
  have hta : ∀ w ∈ ALLW, w.before [.ref b9, .ref a0].toArray s = true := fun w hw => atoms_spec (ws := wA yL_undone cL_undone 10 (some .boolean)) B.pre w (List.mem_cons_of_mem _ hw)
  have hown : s.vm.findClass RL = some m.cls := findClass_of_methodNamed B.named
  have hlocks := B.notSynchronized
  have hD : va_D (va_A W0 s.heap.size) (([] : va_W) ++ W0) := hD0.self (sz := s.heap.size)
  generalize hAe : va_A W0 s.heap.size = A at hD hX hZ hT hC ⊢
  have hP : va_P (dC, dI) vwCl (([] : va_W) ++ W0) s.heap := hP0
  have hA : ∀ q : Nat, s.heap.size ≤ q → A q := fun q h => by rw [← hAe]; exact Or.inr h
  have hS : va_S A s.heap s.heap [] := va_S.rf
  have hl := lv_entry [.ref b9, .ref a0] (n := 10) (Nat.le_of_ble_eq_true rfl)
  rw [lg_entry_eq]
  generalize (lg_sl [.ref b9, .ref a0] ++ List.replicate (10 - (lg_sl [.ref b9, .ref a0]).length) Slot.unset).toArray = ls at hl ⊢
  have hl : lv_has ls 10 [(0, .ref b9), (1, .ref a0)] := hl
  obtain ⟨Q, hQ⟩ : ∃ Q, Q = MQ below (QEI dC dI (fun r W1 => ∃ σ9, K r σ9 ∧ OB cT a0 σ9 W1) A) [.ref b9, .ref a0].toArray s 17774 541517 A := ⟨_, rfl⟩
  rw [← hQ]
  have wB_377 : ∀  (σ : AB) (wo : va_W) (H : Heap) (locs : List Loc) (ls : Array Slot) (cells slots : Nat), wp_L_undone_b377 K sn sg  σ → OB cT a0 σ wo → va_P (dC, dI) vwCl (([] : va_W) ++ wo) H → va_D A (([] : va_W) ++ wo) → va_S A s.heap H locs → lv_has ls 10 [] → cells + (0) ≤ 17774 → slots + (0) ≤ 541517 → W p l e ({ frames := 11, cells := 17774, slots := 541517, locals := 228 } : Room) s m [.ref b9, .ref a0].toArray below meth c H locs cells slots Q (F0 m 377 ls []) := by
    intro  σ wo H locs ls cells slots h hO hP hD hS hl hc1 hc2
    unfold wp_L_undone_b377 at h
    refine lv_iconst (v := 0) hx hb dL_undone_377 (by decide) ?_
    refine W.widen (k := 17774) (n := 541517) (by omega) (by omega) ?_
    rw [hQ]
    exact W.zret (ty := .boolean) (v := 0) hx hb hr (bo_n (v := 0) rfl) (fun t ht hW => ⟨⟨0, wo, rfl, ⟨_, h, hO⟩, by rw [ht]; exact P_r hP, D_r hD⟩, hS.F ht⟩) hS.2.2 dL_undone_378
  have wB_353 : ∀ (n_353 : Nat), ∀ (x4_353 : Int32) (mr2_353 : Nat) (fr2_353 : Nat → Int64) (ar2_353 : Nat) (σ : AB) (wo : va_W) (H : Heap) (locs : List Loc) (ls : Array Slot) (cells slots : Nat), wp_L_undone_b353 K sn sg n_353 x4_353 mr2_353 fr2_353 σ → OB cT a0 σ wo → va_P (dC, dI) vwCl (([(ar2_353, .inl (cT 3, mr2_353, .inr (.inl fr2_353)))] : va_W) ++ wo) H → va_D A (([(ar2_353, .inl (cT 3, mr2_353, .inr (.inl fr2_353)))] : va_W) ++ wo) → va_S A s.heap H locs → lv_has ls 10 [(1, .ref a0), (2, .ref ar2_353), (4, .int x4_353)] → cells + (0 + n_353 * 830) ≤ 17774 → slots + (0 + n_353 * 25330) ≤ 541517 → W p l e ({ frames := 11, cells := 17774, slots := 541517, locals := 228 } : Room) s m [.ref b9, .ref a0].toArray below meth c H locs cells slots Q (F0 m 353 ls []) := by
    intro n_353
    induction n_353 with
    | zero =>
      intro x4_353 mr2_353 fr2_353 ar2_353 σ wo H locs ls cells slots h hO hP hD hS hl hc1 hc2
      exact False.elim h
    | succ n_353 ih_353 =>
      intro x4_353 mr2_353 fr2_353 ar2_353 σ wo H locs ls cells slots h hO hP hD hS hl hc1 hc2
      rw [wp_L_undone_b353] at h
      refine lv_iload hx hb dL_undone_353 (lv_at hl 2 rfl) ?_
      refine lv_if_lt (tgt := 385) hx hb dL_undone_355 (by decide) (fun c0 => ?_) (fun c0 => ?_)
      · have h := h.1 c0
        refine lv_iconst (v := 1) hx hb dL_undone_385 (by decide) ?_
        refine W.widen (k := 17774) (n := 541517) (by omega) (by omega) ?_
        rw [hQ]
        exact W.zret (ty := .boolean) (v := 1) hx hb hr (bo_n (v := 1) rfl) (fun t ht hW => ⟨⟨1, wo, rfl, ⟨_, h, hO⟩, by rw [ht]; exact P_r hP, D_r hD⟩, hS.F ht⟩) hS.2.2 dL_undone_386
      · have h := h.2 c0
        refine lv_aload_n hx hb dL_undone_358 rfl (lv_at hl 0 rfl) ?_
        refine coI (vx_runSW (As := [.ref a0]) (rest := []) ⟨hx, hb, hml, hown, hta⟩ (oc_L_undo l hl9 dC dI cT hO (P_r hP) ((D_r hD).weaken (fun _ _ _ _ => trivial))) (cW hta lm_L_287 mw_L_undo ⟨(Nat.le_of_ble_eq_true rfl), (Nat.le_of_ble_eq_true rfl)⟩) ⟨fbU, fun U hU hW => ⟨rfl, hU, va_K.moved hW.alike hK, XS.call hX hS hU hW (freeO hD hS hA), hN.warm hW, ZS.call hZ hS hU hW (freeO hD hS hA), LT.call hT hS hU hW (freeO hD hS hA)⟩⟩ rfl rfl hl.1 rfl (lv_room (Nat.le_of_ble_eq_true rfl)) dL_undone_359 ⟨by show _ ≤ (17774 : Nat); omega, by show _ ≤ (541517 : Nat); omega⟩) hS hA hP hD (fun r1 wo H locs hw hP hD hS => ?_)
        obtain ⟨σ2, hr9, hO⟩ := hw
        have h := h r1 σ2 hr9 (OB_gok hO)
        refine lv_if_lt (tgt := 377) hx hb dL_undone_362 (by decide) (fun c0 => ?_) (fun c0 => ?_)
        · have h := h.1 c0
          have hP := P_perm (X' := ([] : va_W)) hP [] rfl
          have hD := D_perm (X' := ([] : va_W)) hD [] (by decide) rfl
          exact wB_377 σ2 _ _ _ _ _ _ h hO hP hD hS (lv_sub hl [] rfl) (by omega) (by omega)
        · have h := h.2 c0
          refine lv_aload_n hx hb dL_undone_365 rfl (lv_at hl 0 rfl) ?_
          refine coL (va_runS (As := [.ref a0]) (rest := []) ⟨hx, hb, hml, hown, hta⟩ (lc_L_sum l hl9 dC dI cT h hO (P_r hP) ((D_r hD).weaken (fun _ _ _ _ => trivial))) (cS hta lm_L_336 md_L_sum ⟨(Nat.le_of_ble_eq_true rfl), (Nat.le_of_ble_eq_true rfl)⟩) ⟨fbU, fun U hU hW => ⟨rfl, hU, va_K.moved hW.alike hK, XS.call hX hS hU hW (freeO hD hS hA), hN.warm hW, ZS.call hZ hS hU hW (freeO hD hS hA), LT.call hT hS hU hW (freeO hD hS hA)⟩⟩ rfl rfl hl.1 rfl (lv_room (Nat.le_of_ble_eq_true rfl)) dL_undone_366 ⟨by show _ ≤ (17774 : Nat); omega, by show _ ≤ (541517 : Nat); omega⟩) hS hA hP hD (fun r4 wo H locs hw hP hD hS => ?_)
          obtain ⟨σ3, h, hO⟩ := hw
          refine lv_aload_n hx hb dL_undone_369 rfl (lv_at hl 1 rfl) ?_
          refine lv_iload hx hb dL_undone_370 (lv_at hl 2 rfl) ?_
          obtain ⟨hc, h⟩ := h
          refine va_lald hx hb hK hP 0 3 rfl rfl (inb_in hc) dL_undone_372 ?_
          refine W.lcmp hx hb dL_undone_373 ?_
          refine lv_if_eq (tgt := 379) hx hb dL_undone_374 (by decide) (fun c0 => ?_) (fun c0 => ?_)
          · have h := h.1 c0
            obtain ⟨v5, e_v⟩ : ∃ y : Int32, y = x4_353 + (-1) := ⟨_, rfl⟩
            have h := h v5 e_v
            refine lv_iinc (v := v5) (lv' := [(4, .int v5), (1, .ref a0), (2, .ref ar2_353)]) hx hb dL_undone_379 hl (k := 2) rfl (by rw [e_v]; rfl) (by decide) rfl (fun ls hl => ?_)
            refine lv_goto (tgt := 353) hx hb dL_undone_382 (by decide) ?_
            exact ih_353 v5 mr2_353 fr2_353 ar2_353 σ3 _ _ _ _ _ _ h hO hP hD hS (lv_sub hl [1, 2, 0] rfl) (by omega) (by omega)
          · have h := h.2 c0
            have hP := P_perm (X' := ([] : va_W)) hP [] rfl
            have hD := D_perm (X' := ([] : va_W)) hD [] (by decide) rfl
            exact wB_377 σ3 _ _ _ _ _ _ h hO hP hD hS (lv_sub hl [] rfl) (by omega) (by omega)
  have wB_10 : ∀ (n_10 : Nat), ∀ (x3_10 : Int32) (x4_10 : Int32) (mr2_10 : Nat) (fr2_10 : Nat → Int64) (ar2_10 : Nat) (σ : AB) (wo : va_W) (H : Heap) (locs : List Loc) (ls : Array Slot) (cells slots : Nat), wp_L_undone_b10 K sn sg n_10 x3_10 x4_10 mr2_10 fr2_10 σ → OB cT a0 σ wo → va_P (dC, dI) vwCl (([(ar2_10, .inl (cT 3, mr2_10, .inr (.inl fr2_10)))] : va_W) ++ wo) H → va_D A (([(ar2_10, .inl (cT 3, mr2_10, .inr (.inl fr2_10)))] : va_W) ++ wo) → va_S A s.heap H locs → lv_has ls 10 [(0, .ref b9), (1, .ref a0), (2, .ref ar2_10), (3, .int x3_10), (4, .int x4_10)] → cells + (5810 + n_10 * 1709) ≤ 17774 → slots + (177310 + n_10 * 52021) ≤ 541517 → W p l e ({ frames := 11, cells := 17774, slots := 541517, locals := 228 } : Room) s m [.ref b9, .ref a0].toArray below meth c H locs cells slots Q (F0 m 10 ls []) := by
    intro n_10
    induction n_10 with
    | zero =>
      intro x3_10 x4_10 mr2_10 fr2_10 ar2_10 σ wo H locs ls cells slots h hO hP hD hS hl hc1 hc2
      exact False.elim h
    | succ n_10 ih_10 =>
      have wB_340 : ∀ (x4_340 : Int32) (s0_340 : Int32) (s1_340 : Int32) (mr2_340 : Nat) (fr2_340 : Nat → Int64) (ar2_340 : Nat) (σ : AB) (wo : va_W) (H : Heap) (locs : List Loc) (ls : Array Slot) (cells slots : Nat), wp_L_undone_b340 K sn sg (wp_L_undone_b10 K sn sg n_10) x4_340 s0_340 s1_340 mr2_340 fr2_340 σ → OB cT a0 σ wo → va_P (dC, dI) vwCl (([(ar2_340, .inl (cT 3, mr2_340, .inr (.inl fr2_340)))] : va_W) ++ wo) H → va_D A (([(ar2_340, .inl (cT 3, mr2_340, .inr (.inl fr2_340)))] : va_W) ++ wo) → va_S A s.heap H locs → lv_has ls 10 [(0, .ref b9), (1, .ref a0), (2, .ref ar2_340), (4, .int x4_340)] → cells + (5810 + n_10 * 1709) ≤ 17774 → slots + (177310 + n_10 * 52021) ≤ 541517 → W p l e ({ frames := 11, cells := 17774, slots := 541517, locals := 228 } : Room) s m [.ref b9, .ref a0].toArray below meth c H locs cells slots Q (F0 m 340 ls [.int s0_340, .int s1_340]) := by
        intro x4_340 s0_340 s1_340 mr2_340 fr2_340 ar2_340 σ wo H locs ls cells slots h hO hP hD hS hl hc1 hc2
        unfold wp_L_undone_b340 at h
        refine lv_iadd hx hb dL_undone_340 ?_
        refine lv_topi (fun v6 e_v => ?_)
        have h := h v6 e_v
        refine lv_istore_n (lv' := [(3, .int v6), (0, .ref b9), (1, .ref a0), (2, .ref ar2_340), (4, .int x4_340)]) hx hb dL_undone_341 rfl hl (by decide) rfl (fun ls hl => ?_)
        obtain ⟨v7, e_v⟩ : ∃ y : Int32, y = x4_340 + 1 := ⟨_, rfl⟩
        have h := h v7 e_v
        refine lv_iinc (v := v7) (lv' := [(4, .int v7), (3, .int v6), (0, .ref b9), (1, .ref a0), (2, .ref ar2_340)]) hx hb dL_undone_342 hl (k := 4) rfl (by rw [e_v]; rfl) (by decide) rfl (fun ls hl => ?_)
        refine lv_goto (tgt := 10) hx hb dL_undone_345 (by decide) ?_
        exact ih_10 v6 v7 mr2_340 fr2_340 ar2_340 σ _ _ _ _ _ _ h hO hP hD hS (lv_sub hl [2, 3, 4, 1, 0] rfl) (by omega) (by omega)
      have wB_329 : ∀ (x3_329 : Int32) (x4_329 : Int32) (x9_329 : Int32) (mr2_329 : Nat) (fr2_329 : Nat → Int64) (ar2_329 : Nat) (σ : AB) (wo : va_W) (H : Heap) (locs : List Loc) (ls : Array Slot) (cells slots : Nat), wp_L_undone_b329 K sn sg (wp_L_undone_b10 K sn sg n_10) x3_329 x4_329 x9_329 mr2_329 fr2_329 σ → OB cT a0 σ wo → va_P (dC, dI) vwCl (([(ar2_329, .inl (cT 3, mr2_329, .inr (.inl fr2_329)))] : va_W) ++ wo) H → va_D A (([(ar2_329, .inl (cT 3, mr2_329, .inr (.inl fr2_329)))] : va_W) ++ wo) → va_S A s.heap H locs → lv_has ls 10 [(0, .ref b9), (1, .ref a0), (2, .ref ar2_329), (3, .int x3_329), (4, .int x4_329), (9, .int x9_329)] → cells + (5810 + n_10 * 1709) ≤ 17774 → slots + (177310 + n_10 * 52021) ≤ 541517 → W p l e ({ frames := 11, cells := 17774, slots := 541517, locals := 228 } : Room) s m [.ref b9, .ref a0].toArray below meth c H locs cells slots Q (F0 m 329 ls []) := by
        intro x3_329 x4_329 x9_329 mr2_329 fr2_329 ar2_329 σ wo H locs ls cells slots h hO hP hD hS hl hc1 hc2
        unfold wp_L_undone_b329 at h
        refine lv_iload_n hx hb dL_undone_329 rfl (lv_at hl 3 rfl) ?_
        refine lv_iload hx hb dL_undone_330 (lv_at hl 5 rfl) ?_
        refine lv_if_eq (tgt := 339) hx hb dL_undone_332 (by decide) (fun c0 => ?_) (fun c0 => ?_)
        · have h := h.1 c0
          refine lv_iconst (v := 0) hx hb dL_undone_339 (by decide) ?_
          exact wB_340 x4_329 (0 : Int32) x3_329 mr2_329 fr2_329 ar2_329 σ _ _ _ _ _ _ h hO hP hD hS (lv_sub hl [0, 1, 2, 4] rfl) (by omega) (by omega)
        · have h := h.2 c0
          refine lv_iconst (v := 1) hx hb dL_undone_335 (by decide) ?_
          refine lv_goto (tgt := 340) hx hb dL_undone_336 (by decide) ?_
          exact wB_340 x4_329 (1 : Int32) x3_329 mr2_329 fr2_329 ar2_329 σ _ _ _ _ _ _ h hO hP hD hS (lv_sub hl [0, 1, 2, 4] rfl) (by omega) (by omega)
      have wB_309 : ∀ (x3_309 : Int32) (x4_309 : Int32) (s0_309 : Int32) (mr2_309 : Nat) (fr2_309 : Nat → Int64) (ar2_309 : Nat) (σ : AB) (wo : va_W) (H : Heap) (locs : List Loc) (ls : Array Slot) (cells slots : Nat), wp_L_undone_b309 K sn sg (wp_L_undone_b10 K sn sg n_10) x3_309 x4_309 s0_309 mr2_309 fr2_309 σ → OB cT a0 σ wo → va_P (dC, dI) vwCl (([(ar2_309, .inl (cT 3, mr2_309, .inr (.inl fr2_309)))] : va_W) ++ wo) H → va_D A (([(ar2_309, .inl (cT 3, mr2_309, .inr (.inl fr2_309)))] : va_W) ++ wo) → va_S A s.heap H locs → lv_has ls 10 [(0, .ref b9), (1, .ref a0), (2, .ref ar2_309), (3, .int x3_309), (4, .int x4_309)] → cells + (6639 + n_10 * 1709) ≤ 17774 → slots + (202634 + n_10 * 52021) ≤ 541517 → W p l e ({ frames := 11, cells := 17774, slots := 541517, locals := 228 } : Room) s m [.ref b9, .ref a0].toArray below meth c H locs cells slots Q (F0 m 309 ls [.int s0_309]) := by
        intro x3_309 x4_309 s0_309 mr2_309 fr2_309 ar2_309 σ wo H locs ls cells slots h hO hP hD hS hl hc1 hc2
        unfold wp_L_undone_b309 at h
        refine lv_istore (lv' := [(9, .int s0_309), (0, .ref b9), (1, .ref a0), (2, .ref ar2_309), (3, .int x3_309), (4, .int x4_309)]) hx hb dL_undone_309 hl (by decide) rfl (fun ls hl => ?_)
        refine lv_iload hx hb dL_undone_311 (lv_at hl 0 rfl) ?_
        refine lv_if_ne (tgt := 329) hx hb dL_undone_313 (by decide) (fun c0 => ?_) (fun c0 => ?_)
        · have h := h.2 c0
          exact wB_329 x3_309 x4_309 s0_309 mr2_309 fr2_309 ar2_309 σ _ _ _ _ _ _ h hO hP hD hS (lv_sub hl [1, 2, 3, 4, 5, 0] rfl) (by omega) (by omega)
        · have h := h.1 c0
          refine lv_aload_n hx hb dL_undone_316 rfl (lv_at hl 2 rfl) ?_
          refine coL (va_runS (As := [.ref a0]) (rest := []) ⟨hx, hb, hml, hown, hta⟩ (lc_L_sum l hl9 dC dI cT h hO (P_r hP) ((D_r hD).weaken (fun _ _ _ _ => trivial))) (cS hta lm_L_336 md_L_sum ⟨(Nat.le_of_ble_eq_true rfl), (Nat.le_of_ble_eq_true rfl)⟩) ⟨fbU, fun U hU hW => ⟨rfl, hU, va_K.moved hW.alike hK, XS.call hX hS hU hW (freeO hD hS hA), hN.warm hW, ZS.call hZ hS hU hW (freeO hD hS hA), LT.call hT hS hU hW (freeO hD hS hA)⟩⟩ rfl rfl hl.1 rfl (lv_room (Nat.le_of_ble_eq_true rfl)) dL_undone_317 ⟨by show _ ≤ (17774 : Nat); omega, by show _ ≤ (541517 : Nat); omega⟩) hS hA hP hD (fun r9 wo H locs hw hP hD hS => ?_)
          obtain ⟨σ8, h, hO⟩ := hw
          refine lv_aload_n hx hb dL_undone_320 rfl (lv_at hl 3 rfl) ?_
          refine lv_iload_n hx hb dL_undone_321 rfl (lv_at hl 4 rfl) ?_
          obtain ⟨hc, h⟩ := h
          refine va_lald hx hb hK hP 0 3 rfl rfl (inb_in hc) dL_undone_322 ?_
          refine W.lcmp hx hb dL_undone_323 ?_
          refine lv_if_eq (tgt := 329) hx hb dL_undone_324 (by decide) (fun c0 => ?_) (fun c0 => ?_)
          · have h := h.1 c0
            exact wB_329 x3_309 x4_309 s0_309 mr2_309 fr2_309 ar2_309 σ8 _ _ _ _ _ _ h hO hP hD hS (lv_sub hl [1, 2, 3, 4, 5, 0] rfl) (by omega) (by omega)
          · have h := h.2 c0
            refine lv_iconst (v := 0) hx hb dL_undone_327 (by decide) ?_
            refine W.widen (k := 17774) (n := 541517) (by omega) (by omega) ?_
            rw [hQ]
            exact W.zret (ty := .boolean) (v := 0) hx hb hr (bo_n (v := 0) rfl) (fun t ht hW => ⟨⟨0, wo, rfl, ⟨_, h, hO⟩, by rw [ht]; exact P_r hP, D_r hD⟩, hS.F ht⟩) hS.2.2 dL_undone_328
      have wB_299 : ∀ (x3_299 : Int32) (x4_299 : Int32) (x8_299 : Int32) (mr2_299 : Nat) (fr2_299 : Nat → Int64) (ar2_299 : Nat) (σ : AB) (wo : va_W) (H : Heap) (locs : List Loc) (ls : Array Slot) (cells slots : Nat), wp_L_undone_b299 K sn sg (wp_L_undone_b10 K sn sg n_10) x3_299 x4_299 x8_299 mr2_299 fr2_299 σ → OB cT a0 σ wo → va_P (dC, dI) vwCl (([(ar2_299, .inl (cT 3, mr2_299, .inr (.inl fr2_299)))] : va_W) ++ wo) H → va_D A (([(ar2_299, .inl (cT 3, mr2_299, .inr (.inl fr2_299)))] : va_W) ++ wo) → va_S A s.heap H locs → lv_has ls 10 [(0, .ref b9), (1, .ref a0), (2, .ref ar2_299), (3, .int x3_299), (4, .int x4_299), (8, .int x8_299)] → cells + (6639 + n_10 * 1709) ≤ 17774 → slots + (202634 + n_10 * 52021) ≤ 541517 → W p l e ({ frames := 11, cells := 17774, slots := 541517, locals := 228 } : Room) s m [.ref b9, .ref a0].toArray below meth c H locs cells slots Q (F0 m 299 ls []) := by
        intro x3_299 x4_299 x8_299 mr2_299 fr2_299 ar2_299 σ wo H locs ls cells slots h hO hP hD hS hl hc1 hc2
        unfold wp_L_undone_b299 at h
        refine lv_iload hx hb dL_undone_299 (lv_at hl 5 rfl) ?_
        refine lv_if_lt (tgt := 308) hx hb dL_undone_301 (by decide) (fun c0 => ?_) (fun c0 => ?_)
        · have h := h.1 c0
          refine lv_iconst (v := 0) hx hb dL_undone_308 (by decide) ?_
          exact wB_309 x3_299 x4_299 (0 : Int32) mr2_299 fr2_299 ar2_299 σ _ _ _ _ _ _ h hO hP hD hS (lv_sub hl [0, 1, 2, 3, 4] rfl) (by omega) (by omega)
        · have h := h.2 c0
          refine lv_iconst (v := 1) hx hb dL_undone_304 (by decide) ?_
          refine lv_goto (tgt := 309) hx hb dL_undone_305 (by decide) ?_
          exact wB_309 x3_299 x4_299 (1 : Int32) mr2_299 fr2_299 ar2_299 σ _ _ _ _ _ _ h hO hP hD hS (lv_sub hl [0, 1, 2, 3, 4] rfl) (by omega) (by omega)
      have wB_265 : ∀ (x3_265 : Int32) (x4_265 : Int32) (x5_265 : Int32) (x8_265 : Int32) (mr2_265 : Nat) (fr2_265 : Nat → Int64) (ar2_265 : Nat) (σ : AB) (wo : va_W) (H : Heap) (locs : List Loc) (ls : Array Slot) (cells slots : Nat), wp_L_undone_b265 K sn sg (wp_L_undone_b10 K sn sg n_10) x3_265 x4_265 x5_265 x8_265 mr2_265 fr2_265 σ → OB cT a0 σ wo → va_P (dC, dI) vwCl (([(ar2_265, .inl (cT 3, mr2_265, .inr (.inl fr2_265)))] : va_W) ++ wo) H → va_D A (([(ar2_265, .inl (cT 3, mr2_265, .inr (.inl fr2_265)))] : va_W) ++ wo) → va_S A s.heap H locs → lv_has ls 10 [(0, .ref b9), (1, .ref a0), (2, .ref ar2_265), (3, .int x3_265), (4, .int x4_265), (5, .int x5_265), (8, .int x8_265)] → cells + (6639 + n_10 * 1709) ≤ 17774 → slots + (202634 + n_10 * 52021) ≤ 541517 → W p l e ({ frames := 11, cells := 17774, slots := 541517, locals := 228 } : Room) s m [.ref b9, .ref a0].toArray below meth c H locs cells slots Q (F0 m 265 ls []) := by
        intro x3_265 x4_265 x5_265 x8_265 mr2_265 fr2_265 ar2_265 σ wo H locs ls cells slots h hO hP hD hS hl hc1 hc2
        unfold wp_L_undone_b265 at h
        refine lv_iload hx hb dL_undone_265 (lv_at hl 5 rfl) ?_
        refine lv_bipush (v := 9) hx hb dL_undone_267 (by decide) ?_
        obtain ⟨hc, h⟩ := h
        refine lv_irem hx hb dL_undone_269 hc ?_
        refine lv_topi (fun v10 e_v => ?_)
        have h := h v10 e_v
        refine lv_iconst (v := 1) hx hb dL_undone_270 (by decide) ?_
        refine lv_icmp_le (tgt := 299) hx hb dL_undone_271 (by decide) (fun c0 => ?_) (fun c0 => ?_)
        · have h := h.1 c0
          exact wB_299 x3_265 x4_265 x8_265 mr2_265 fr2_265 ar2_265 σ _ _ _ _ _ _ h hO hP hD hS (lv_sub hl [0, 1, 2, 3, 4, 6] rfl) (by omega) (by omega)
        · have h := h.2 c0
          refine lv_iload hx hb dL_undone_274 (lv_at hl 5 rfl) ?_
          refine lv_bipush (v := 9) hx hb dL_undone_276 (by decide) ?_
          obtain ⟨hc, h⟩ := h
          refine lv_irem hx hb dL_undone_278 hc ?_
          refine lv_topi (fun v11 e_v => ?_)
          have h := h v11 e_v
          refine lv_iconst (v := 5) hx hb dL_undone_279 (by decide) ?_
          refine lv_icmp_ge (tgt := 299) hx hb dL_undone_280 (by decide) (fun c0 => ?_) (fun c0 => ?_)
          · have h := h.1 c0
            exact wB_299 x3_265 x4_265 x8_265 mr2_265 fr2_265 ar2_265 σ _ _ _ _ _ _ h hO hP hD hS (lv_sub hl [0, 1, 2, 3, 4, 6] rfl) (by omega) (by omega)
          · have h := h.2 c0
            refine lv_iload hx hb dL_undone_283 (lv_at hl 6 rfl) ?_
            refine lv_sipush (v := -1000) hx hb dL_undone_285 (by decide) ?_
            refine lv_icmp_le (tgt := 295) hx hb dL_undone_288 (by decide) (fun c0 => ?_) (fun c0 => ?_)
            · have h := h.1 c0
              refine lv_iconst (v := 0) hx hb dL_undone_295 (by decide) ?_
              refine lv_goto (tgt := 309) hx hb dL_undone_296 (by decide) ?_
              exact wB_309 x3_265 x4_265 (0 : Int32) mr2_265 fr2_265 ar2_265 σ _ _ _ _ _ _ h hO hP hD hS (lv_sub hl [0, 1, 2, 3, 4] rfl) (by omega) (by omega)
            · have h := h.2 c0
              refine lv_iconst (v := 1) hx hb dL_undone_291 (by decide) ?_
              refine lv_goto (tgt := 309) hx hb dL_undone_292 (by decide) ?_
              exact wB_309 x3_265 x4_265 (1 : Int32) mr2_265 fr2_265 ar2_265 σ _ _ _ _ _ _ h hO hP hD hS (lv_sub hl [0, 1, 2, 3, 4] rfl) (by omega) (by omega)
      intro x3_10 x4_10 mr2_10 fr2_10 ar2_10 σ wo H locs ls cells slots h hO hP hD hS hl hc1 hc2
      rw [wp_L_undone_b10] at h
      refine lv_iload hx hb dL_undone_10 (lv_at hl 4 rfl) ?_
      refine lv_bipush (v := 6) hx hb dL_undone_12 (by decide) ?_
      refine lv_icmp_ge (tgt := 348) hx hb dL_undone_14 (by decide) (fun c0 => ?_) (fun c0 => ?_)
      · have h := h.1 c0
        refine lv_iload_n hx hb dL_undone_348 rfl (lv_at hl 3 rfl) ?_
        refine lv_iconst (v := 1) hx hb dL_undone_349 (by decide) ?_
        refine lv_isub hx hb dL_undone_350 ?_
        refine lv_topi (fun v12 e_v => ?_)
        have h := h v12 e_v
        refine lv_istore (lv' := [(4, .int v12), (0, .ref b9), (1, .ref a0), (2, .ref ar2_10), (3, .int x3_10)]) hx hb dL_undone_351 hl (by decide) rfl (fun ls hl => ?_)
        exact wB_353 7 v12 mr2_10 fr2_10 ar2_10 σ _ _ _ _ _ _ h hO hP hD hS (lv_sub hl [2, 3, 0] rfl) (by omega) (by omega)
      · have h := h.2 c0
        refine lv_aload_n hx hb dL_undone_17 rfl (lv_at hl 0 rfl) ?_
        refine lv_bipush (v := 21) hx hb dL_undone_18 (by decide) ?_
        refine lv_iload hx hb dL_undone_20 (lv_at hl 4 rfl) ?_
        refine lv_iadd hx hb dL_undone_22 ?_
        refine coI (va_runS (As := [.ref b9, .int ((21 : Int32) + x4_10)]) (rest := []) ⟨hx, hb, hml, hown, hta⟩ (lc_L_cell l hl9 dC dI cT h hO (P_r hP) ((D_r hD).weaken (fun _ _ _ _ => trivial))) (cS hta lm_L_177 md_L_cell ⟨(Nat.le_of_ble_eq_true rfl), (Nat.le_of_ble_eq_true rfl)⟩) ⟨fbUS, fun U hU hW => ⟨rfl, hU, va_K.moved hW.alike hK, XS.call hX hS hU hW (freeO hD hS hA), hN.warm hW, ZS.call hZ hS hU hW (freeO hD hS hA), LT.call hT hS hU hW (freeO hD hS hA), SC.call hC hS hU hW (freeO hD hS hA)⟩⟩ rfl rfl hl.1 rfl (lv_room (Nat.le_of_ble_eq_true rfl)) dL_undone_23 ⟨by show _ ≤ (17774 : Nat); omega, by show _ ≤ (541517 : Nat); omega⟩) hS hA hP hD (fun r14 wo H locs hw hP hD hS => ?_)
        obtain ⟨σ13, h, hO⟩ := hw
        refine lv_iconst (v := 1) hx hb dL_undone_26 (by decide) ?_
        refine lv_iushr hx hb dL_undone_27 rfl ?_
        refine lv_topi (fun v15 e_v => ?_)
        have h := h v15 e_v
        refine lv_istore (lv' := [(5, .int v15), (0, .ref b9), (1, .ref a0), (2, .ref ar2_10), (3, .int x3_10), (4, .int x4_10)]) hx hb dL_undone_28 hl (by decide) rfl (fun ls hl => ?_)
        refine lv_iload hx hb dL_undone_30 (lv_at hl 0 rfl) ?_
        refine lv_iconst (v := 4) hx hb dL_undone_32 (by decide) ?_
        refine lv_iushr hx hb dL_undone_33 rfl ?_
        refine lv_topi (fun v16 e_v => ?_)
        have h := h v16 e_v
        refine lv_istore (lv' := [(6, .int v16), (5, .int v15), (0, .ref b9), (1, .ref a0), (2, .ref ar2_10), (3, .int x3_10), (4, .int x4_10)]) hx hb dL_undone_34 hl (by decide) rfl (fun ls hl => ?_)
        refine lv_aload_n hx hb dL_undone_36 rfl (lv_at hl 3 rfl) ?_
        refine lv_iconst (v := 0) hx hb dL_undone_37 (by decide) ?_
        obtain ⟨hq, h⟩ := h
        refine coI (va_runV (As := [.int 0]) (rest := []) ⟨hx, hb, hml, hown, hta⟩ (oc_X11_account l hl9 dC dI cT hO hq (P_r hP) ((D_r hD).weaken (fun _ _ _ _ => trivial))) (cV hta lm_L_229 md_X11_account ⟨(Nat.le_of_ble_eq_true rfl), (Nat.le_of_ble_eq_true rfl)⟩) ⟨fbU, recvO hK hO (P_r hP), fun U hU hW => ⟨rfl, hU, va_K.moved hW.alike hK, XS.call hX hS hU hW (freeO hD hS hA), hN.warm hW, ZS.call hZ hS hU hW (freeO hD hS hA), LT.call hT hS hU hW (freeO hD hS hA)⟩⟩ rfl rfl hl.1 rfl (lv_room (Nat.le_of_ble_eq_true rfl)) dL_undone_38 ⟨by show _ ≤ (17774 : Nat); omega, by show _ ≤ (541517 : Nat); omega⟩) hS hA hP hD (fun r17 wo H locs hw hP hD hS => ?_)
        obtain ⟨hr9, hO⟩ := hw
        have h := h r17 hr9
        refine lv_istore (lv' := [(7, .int r17), (6, .int v16), (5, .int v15), (0, .ref b9), (1, .ref a0), (2, .ref ar2_10), (3, .int x3_10), (4, .int x4_10)]) hx hb dL_undone_41 hl (by decide) rfl (fun ls hl => ?_)
        refine lv_aload_n hx hb dL_undone_43 rfl (lv_at hl 5 rfl) ?_
        refine lv_iload_n hx hb dL_undone_44 rfl (lv_at hl 6 rfl) ?_
        refine lv_aload_n hx hb dL_undone_45 rfl (lv_at hl 4 rfl) ?_
        refine coL (va_runS (As := [.ref a0]) (rest := [.int x3_10, .ref ar2_10]) ⟨hx, hb, hml, hown, hta⟩ (lc_L_sum l hl9 dC dI cT h hO (P_r hP) ((D_r hD).weaken (fun _ _ _ _ => trivial))) (cS hta lm_L_336 md_L_sum ⟨(Nat.le_of_ble_eq_true rfl), (Nat.le_of_ble_eq_true rfl)⟩) ⟨fbU, fun U hU hW => ⟨rfl, hU, va_K.moved hW.alike hK, XS.call hX hS hU hW (freeO hD hS hA), hN.warm hW, ZS.call hZ hS hU hW (freeO hD hS hA), LT.call hT hS hU hW (freeO hD hS hA)⟩⟩ rfl rfl hl.1 rfl (lv_room (Nat.le_of_ble_eq_true rfl)) dL_undone_46 ⟨by show _ ≤ (17774 : Nat); omega, by show _ ≤ (541517 : Nat); omega⟩) hS hA hP hD (fun r19 wo H locs hw hP hD hS => ?_)
        obtain ⟨σ18, h, hO⟩ := hw
        obtain ⟨hc, h⟩ := h
        refine va_last hx hb hK hP hD hS 0 3 rfl rfl (inb_in hc) dL_undone_49 (fun H locs hP hD hS => ?_)
        obtain ⟨f20, e_f⟩ : ∃ y : Nat → Int64, y = (vp_updL fr2_10 x3_10.toNatClampNeg r19) := ⟨_, rfl⟩
        have h := h f20 e_f
        have hP : va_P (dC, dI) vwCl (([(ar2_10, .inl (cT 3, mr2_10, .inr (.inl f20)))] : va_W) ++ wo) H := by rw [e_f]; exact hP
        have hD : va_D A (([(ar2_10, .inl (cT 3, mr2_10, .inr (.inl f20)))] : va_W) ++ wo) := by rw [e_f]; exact hD
        refine lv_iload hx hb dL_undone_50 (lv_at hl 2 rfl) ?_
        refine lv_bipush (v := 9) hx hb dL_undone_52 (by decide) ?_
        obtain ⟨hc, h⟩ := h
        refine lv_irem hx hb dL_undone_54 hc ?_
        refine lv_topi (fun v21 e_v => ?_)
        have h := h v21 e_v
        by_cases cs8 : v21 = 0
        · have h := h.1 cs8
          refine lv_tableIn (tgt := 100) (off := 45) hx hb dL_undone_55 (by rw [cs8]; decide) (by rw [cs8]; decide) (by rw [cs8]; rfl) (by decide) ?_
          refine lv_aload_n hx hb dL_undone_100 rfl (lv_at hl 4 rfl) ?_
          refine lv_iload hx hb dL_undone_101 (lv_at hl 1 rfl) ?_
          refine lv_bipush (v := 30) hx hb dL_undone_103 (by decide) ?_
          obtain ⟨hc, h⟩ := h
          refine lv_irem hx hb dL_undone_105 hc ?_
          refine lv_topi (fun v22 e_v => ?_)
          have h := h v22 e_v
          refine lv_bipush (v := 20) hx hb dL_undone_106 (by decide) ?_
          refine lv_isub hx hb dL_undone_108 ?_
          refine lv_iload hx hb dL_undone_109 (lv_at hl 1 rfl) ?_
          refine lv_iconst (v := 5) hx hb dL_undone_111 (by decide) ?_
          refine lv_iushr hx hb dL_undone_112 rfl ?_
          refine lv_bipush (v := 30) hx hb dL_undone_113 (by decide) ?_
          obtain ⟨hc, h⟩ := h
          refine lv_irem hx hb dL_undone_115 hc ?_
          refine lv_topi (fun v23 e_v => ?_)
          have h := h v23 e_v
          refine coI (vx_runSW (As := [.ref a0, .int (v22 - 20), .int v23]) (rest := []) ⟨hx, hb, hml, hown, hta⟩ (oc_L_drams l hl9 dC dI cT hO (P_r hP) ((D_r hD).weaken (fun _ _ _ _ => trivial))) (cW hta lm_L_183 mw_L_drams ⟨(Nat.le_of_ble_eq_true rfl), (Nat.le_of_ble_eq_true rfl)⟩) ⟨fbU, fun U hU hW => ⟨rfl, hU, va_K.moved hW.alike hK, XS.call hX hS hU hW (freeO hD hS hA), hN.warm hW, ZS.call hZ hS hU hW (freeO hD hS hA), LT.call hT hS hU hW (freeO hD hS hA)⟩⟩ rfl rfl hl.1 rfl (lv_room (Nat.le_of_ble_eq_true rfl)) dL_undone_116 ⟨by show _ ≤ (17774 : Nat); omega, by show _ ≤ (541517 : Nat); omega⟩) hS hA hP hD (fun r24 wo H locs hw hP hD hS => ?_)
          obtain ⟨σ25, hr9, hO⟩ := hw
          have h := h r24 σ25 hr9 (OB_gok hO)
          refine lv_istore (lv' := [(8, .int r24), (7, .int r17), (6, .int v16), (5, .int v15), (0, .ref b9), (1, .ref a0), (2, .ref ar2_10), (3, .int x3_10), (4, .int x4_10)]) hx hb dL_undone_119 hl (by decide) rfl (fun ls hl => ?_)
          refine lv_goto (tgt := 265) hx hb dL_undone_121 (by decide) ?_
          exact wB_265 x3_10 x4_10 v15 r24 mr2_10 f20 ar2_10 σ25 _ _ _ _ _ _ h hO hP hD hS (lv_sub hl [4, 5, 6, 7, 8, 3, 0] rfl) (by omega) (by omega)
        · have h := h.2 cs8
          by_cases cs7 : v21 = 1
          · have h := h.1 cs7
            refine lv_tableIn (tgt := 124) (off := 69) hx hb dL_undone_55 (by rw [cs7]; decide) (by rw [cs7]; decide) (by rw [cs7]; rfl) (by decide) ?_
            refine lv_aload_n hx hb dL_undone_124 rfl (lv_at hl 4 rfl) ?_
            refine coI (vx_runSW (As := [.ref a0]) (rest := []) ⟨hx, hb, hml, hown, hta⟩ (oc_L_broth l hl9 dC dI cT hO (P_r hP) ((D_r hD).weaken (fun _ _ _ _ => trivial))) (cW hta lm_L_181 mw_L_broth ⟨(Nat.le_of_ble_eq_true rfl), (Nat.le_of_ble_eq_true rfl)⟩) ⟨fbU, fun U hU hW => ⟨rfl, hU, va_K.moved hW.alike hK, XS.call hX hS hU hW (freeO hD hS hA), hN.warm hW, ZS.call hZ hS hU hW (freeO hD hS hA), LT.call hT hS hU hW (freeO hD hS hA)⟩⟩ rfl rfl hl.1 rfl (lv_room (Nat.le_of_ble_eq_true rfl)) dL_undone_125 ⟨by show _ ≤ (17774 : Nat); omega, by show _ ≤ (541517 : Nat); omega⟩) hS hA hP hD (fun r26 wo H locs hw hP hD hS => ?_)
            obtain ⟨σ27, hr9, hO⟩ := hw
            have h := h r26 σ27 hr9 (OB_gok hO)
            refine lv_istore (lv' := [(8, .int r26), (7, .int r17), (6, .int v16), (5, .int v15), (0, .ref b9), (1, .ref a0), (2, .ref ar2_10), (3, .int x3_10), (4, .int x4_10)]) hx hb dL_undone_128 hl (by decide) rfl (fun ls hl => ?_)
            refine lv_goto (tgt := 265) hx hb dL_undone_130 (by decide) ?_
            exact wB_265 x3_10 x4_10 v15 r26 mr2_10 f20 ar2_10 σ27 _ _ _ _ _ _ h hO hP hD hS (lv_sub hl [4, 5, 6, 7, 8, 3, 0] rfl) (by omega) (by omega)
          · have h := h.2 cs7
            by_cases cs6 : v21 = 2
            · have h := h.1 cs6
              refine lv_tableIn (tgt := 133) (off := 78) hx hb dL_undone_55 (by rw [cs6]; decide) (by rw [cs6]; decide) (by rw [cs6]; rfl) (by decide) ?_
              refine lv_aload_n hx hb dL_undone_133 rfl (lv_at hl 4 rfl) ?_
              refine lv_iload hx hb dL_undone_134 (lv_at hl 1 rfl) ?_
              refine lv_bipush (v := 6) hx hb dL_undone_136 (by decide) ?_
              obtain ⟨hc, h⟩ := h
              refine lv_irem hx hb dL_undone_138 hc ?_
              refine lv_topi (fun v28 e_v => ?_)
              have h := h v28 e_v
              refine lv_iload hx hb dL_undone_139 (lv_at hl 1 rfl) ?_
              refine lv_iconst (v := 3) hx hb dL_undone_141 (by decide) ?_
              refine lv_iushr hx hb dL_undone_142 rfl ?_
              refine lv_bipush (v := 60) hx hb dL_undone_143 (by decide) ?_
              obtain ⟨hc, h⟩ := h
              refine lv_irem hx hb dL_undone_145 hc ?_
              refine lv_topi (fun v29 e_v => ?_)
              have h := h v29 e_v
              refine lv_bipush (v := 30) hx hb dL_undone_146 (by decide) ?_
              refine lv_isub hx hb dL_undone_148 ?_
              refine coI (vx_runSW (As := [.ref a0, .int v28, .int (v29 - 30)]) (rest := []) ⟨hx, hb, hml, hown, hta⟩ (oc_L_pour l hl9 dC dI cT hO (P_r hP) ((D_r hD).weaken (fun _ _ _ _ => trivial))) (cW hta lm_L_191 mw_L_pour ⟨(Nat.le_of_ble_eq_true rfl), (Nat.le_of_ble_eq_true rfl)⟩) ⟨fbU, fun U hU hW => ⟨rfl, hU, va_K.moved hW.alike hK, XS.call hX hS hU hW (freeO hD hS hA), hN.warm hW, ZS.call hZ hS hU hW (freeO hD hS hA), LT.call hT hS hU hW (freeO hD hS hA)⟩⟩ rfl rfl hl.1 rfl (lv_room (Nat.le_of_ble_eq_true rfl)) dL_undone_149 ⟨by show _ ≤ (17774 : Nat); omega, by show _ ≤ (541517 : Nat); omega⟩) hS hA hP hD (fun r30 wo H locs hw hP hD hS => ?_)
              obtain ⟨σ31, hr9, hO⟩ := hw
              have h := h r30 σ31 hr9 (OB_gok hO)
              refine lv_istore (lv' := [(8, .int r30), (7, .int r17), (6, .int v16), (5, .int v15), (0, .ref b9), (1, .ref a0), (2, .ref ar2_10), (3, .int x3_10), (4, .int x4_10)]) hx hb dL_undone_152 hl (by decide) rfl (fun ls hl => ?_)
              refine lv_goto (tgt := 265) hx hb dL_undone_154 (by decide) ?_
              exact wB_265 x3_10 x4_10 v15 r30 mr2_10 f20 ar2_10 σ31 _ _ _ _ _ _ h hO hP hD hS (lv_sub hl [4, 5, 6, 7, 8, 3, 0] rfl) (by omega) (by omega)
            · have h := h.2 cs6
              by_cases cs5 : v21 = 3
              · have h := h.1 cs5
                refine lv_tableIn (tgt := 157) (off := 102) hx hb dL_undone_55 (by rw [cs5]; decide) (by rw [cs5]; decide) (by rw [cs5]; rfl) (by decide) ?_
                refine lv_aload_n hx hb dL_undone_157 rfl (lv_at hl 4 rfl) ?_
                refine lv_iload hx hb dL_undone_158 (lv_at hl 1 rfl) ?_
                refine lv_bipush (v := 6) hx hb dL_undone_160 (by decide) ?_
                obtain ⟨hc, h⟩ := h
                refine lv_irem hx hb dL_undone_162 hc ?_
                refine lv_topi (fun v32 e_v => ?_)
                have h := h v32 e_v
                refine lv_iload hx hb dL_undone_163 (lv_at hl 1 rfl) ?_
                refine lv_iconst (v := 3) hx hb dL_undone_165 (by decide) ?_
                refine lv_iushr hx hb dL_undone_166 rfl ?_
                refine lv_sipush (v := 22000) hx hb dL_undone_167 (by decide) ?_
                obtain ⟨hc, h⟩ := h
                refine lv_irem hx hb dL_undone_170 hc ?_
                refine lv_topi (fun v33 e_v => ?_)
                have h := h v33 e_v
                refine lv_sipush (v := 11000) hx hb dL_undone_171 (by decide) ?_
                refine lv_isub hx hb dL_undone_174 ?_
                refine coI (vx_runSW (As := [.ref a0, .int v32, .int (v33 - 11000)]) (rest := []) ⟨hx, hb, hml, hown, hta⟩ (oc_L_ladle l hl9 dC dI cT hO (P_r hP) ((D_r hD).weaken (fun _ _ _ _ => trivial))) (cW hta lm_L_189 mw_L_ladle ⟨(Nat.le_of_ble_eq_true rfl), (Nat.le_of_ble_eq_true rfl)⟩) ⟨fbU, fun U hU hW => ⟨rfl, hU, va_K.moved hW.alike hK, XS.call hX hS hU hW (freeO hD hS hA), hN.warm hW, ZS.call hZ hS hU hW (freeO hD hS hA), LT.call hT hS hU hW (freeO hD hS hA)⟩⟩ rfl rfl hl.1 rfl (lv_room (Nat.le_of_ble_eq_true rfl)) dL_undone_175 ⟨by show _ ≤ (17774 : Nat); omega, by show _ ≤ (541517 : Nat); omega⟩) hS hA hP hD (fun r34 wo H locs hw hP hD hS => ?_)
                obtain ⟨σ35, hr9, hO⟩ := hw
                have h := h r34 σ35 hr9 (OB_gok hO)
                refine lv_istore (lv' := [(8, .int r34), (7, .int r17), (6, .int v16), (5, .int v15), (0, .ref b9), (1, .ref a0), (2, .ref ar2_10), (3, .int x3_10), (4, .int x4_10)]) hx hb dL_undone_178 hl (by decide) rfl (fun ls hl => ?_)
                refine lv_goto (tgt := 265) hx hb dL_undone_180 (by decide) ?_
                exact wB_265 x3_10 x4_10 v15 r34 mr2_10 f20 ar2_10 σ35 _ _ _ _ _ _ h hO hP hD hS (lv_sub hl [4, 5, 6, 7, 8, 3, 0] rfl) (by omega) (by omega)
              · have h := h.2 cs5
                by_cases cs4 : v21 = 4
                · have h := h.1 cs4
                  refine lv_tableIn (tgt := 183) (off := 128) hx hb dL_undone_55 (by rw [cs4]; decide) (by rw [cs4]; decide) (by rw [cs4]; rfl) (by decide) ?_
                  refine lv_aload_n hx hb dL_undone_183 rfl (lv_at hl 4 rfl) ?_
                  refine lv_iload hx hb dL_undone_184 (lv_at hl 1 rfl) ?_
                  refine lv_bipush (v := 6) hx hb dL_undone_186 (by decide) ?_
                  obtain ⟨hc, h⟩ := h
                  refine lv_irem hx hb dL_undone_188 hc ?_
                  refine lv_topi (fun v36 e_v => ?_)
                  have h := h v36 e_v
                  refine lv_iload hx hb dL_undone_189 (lv_at hl 1 rfl) ?_
                  refine lv_iconst (v := 3) hx hb dL_undone_191 (by decide) ?_
                  refine lv_iushr hx hb dL_undone_192 rfl ?_
                  refine lv_ineg hx hb dL_undone_193 ?_
                  refine lv_bipush (v := 40) hx hb dL_undone_194 (by decide) ?_
                  obtain ⟨hc, h⟩ := h
                  refine lv_irem hx hb dL_undone_196 hc ?_
                  refine lv_topi (fun v37 e_v => ?_)
                  have h := h v37 e_v
                  refine lv_iload hx hb dL_undone_197 (lv_at hl 1 rfl) ?_
                  refine lv_bipush (v := 9) hx hb dL_undone_199 (by decide) ?_
                  refine lv_iushr hx hb dL_undone_201 rfl ?_
                  refine lv_bipush (v := 40) hx hb dL_undone_202 (by decide) ?_
                  obtain ⟨hc, h⟩ := h
                  refine lv_irem hx hb dL_undone_204 hc ?_
                  refine lv_topi (fun v38 e_v => ?_)
                  have h := h v38 e_v
                  refine coI (vx_runSW (As := [.ref a0, .int v36, .int v37, .int v38]) (rest := []) ⟨hx, hb, hml, hown, hta⟩ (oc_L_bounds l hl9 dC dI cT hO (P_r hP) ((D_r hD).weaken (fun _ _ _ _ => trivial))) (cW hta lm_L_340 mw_L_bounds ⟨(Nat.le_of_ble_eq_true rfl), (Nat.le_of_ble_eq_true rfl)⟩) ⟨fbU, fun U hU hW => ⟨rfl, hU, va_K.moved hW.alike hK, XS.call hX hS hU hW (freeO hD hS hA), hN.warm hW, ZS.call hZ hS hU hW (freeO hD hS hA), LT.call hT hS hU hW (freeO hD hS hA)⟩⟩ rfl rfl hl.1 rfl (lv_room (Nat.le_of_ble_eq_true rfl)) dL_undone_205 ⟨by show _ ≤ (17774 : Nat); omega, by show _ ≤ (541517 : Nat); omega⟩) hS hA hP hD (fun r39 wo H locs hw hP hD hS => ?_)
                  obtain ⟨σ40, hr9, hO⟩ := hw
                  have h := h r39 σ40 hr9 (OB_gok hO)
                  refine lv_istore (lv' := [(8, .int r39), (7, .int r17), (6, .int v16), (5, .int v15), (0, .ref b9), (1, .ref a0), (2, .ref ar2_10), (3, .int x3_10), (4, .int x4_10)]) hx hb dL_undone_208 hl (by decide) rfl (fun ls hl => ?_)
                  refine lv_goto (tgt := 265) hx hb dL_undone_210 (by decide) ?_
                  exact wB_265 x3_10 x4_10 v15 r39 mr2_10 f20 ar2_10 σ40 _ _ _ _ _ _ h hO hP hD hS (lv_sub hl [4, 5, 6, 7, 8, 3, 0] rfl) (by omega) (by omega)
                · have h := h.2 cs4
                  by_cases cs3 : v21 = 5
                  · have h := h.1 cs3
                    refine lv_tableIn (tgt := 213) (off := 158) hx hb dL_undone_55 (by rw [cs3]; decide) (by rw [cs3]; decide) (by rw [cs3]; rfl) (by decide) ?_
                    refine lv_aload_n hx hb dL_undone_213 rfl (lv_at hl 4 rfl) ?_
                    refine lv_iload hx hb dL_undone_214 (lv_at hl 1 rfl) ?_
                    refine lv_iconst (v := 1) hx hb dL_undone_216 (by decide) ?_
                    refine lv_iload hx hb dL_undone_217 (lv_at hl 0 rfl) ?_
                    refine va_mmax hx hb (hml.trans hl.1.symm) hown (hta _ lm_L_242) (hta _ mth_maxint_s) (hta _ mth_i) (hta _ mth_maxint_c) (Nat.le_of_ble_eq_true rfl) (Nat.le_of_ble_eq_true rfl) (by show _ ≤ (17774 : Nat); omega) (by show _ ≤ (541517 : Nat); omega) dL_undone_219 ?_
                    refine coS (va_runS (As := [.int v16, .int (if (1 : Int32) < r17 then r17 else (1 : Int32))]) (rest := [.ref a0]) ⟨hx, hb, hml, hown, hta⟩ (lc_L_store l hl9 dC dI cT h hO (P_r hP) ((D_r hD).weaken (fun _ _ _ _ => trivial))) (cS hta lm_L_193 md_L_store ⟨(Nat.le_of_ble_eq_true rfl), (Nat.le_of_ble_eq_true rfl)⟩) ⟨fbU, fun U hU hW => ⟨rfl, hU, va_K.moved hW.alike hK, XS.call hX hS hU hW (freeO hD hS hA), hN.warm hW, ZS.call hZ hS hU hW (freeO hD hS hA), LT.call hT hS hU hW (freeO hD hS hA)⟩⟩ rfl rfl hl.1 rfl (lv_room (Nat.le_of_ble_eq_true rfl)) dL_undone_222 ⟨by show _ ≤ (17774 : Nat); omega, by show _ ≤ (541517 : Nat); omega⟩) hS hA hP hD (fun ts222_42 vs222_42 gs222_42 wo as222_42 H locs hs222_42 hw hP hD hS => ?_)
                    obtain ⟨σ41, h, hO⟩ := hw
                    have hP : va_P (dC, dI) vwCl (([(ar2_10, .inl (cT 3, mr2_10, .inr (.inl f20))), (as222_42, .inr (0, [.ref vs222_42, .int 0, .int 0, .int 0])), (vs222_42, .inl (cT 6, (ts222_42).length, .inl gs222_42))] : va_W) ++ wo) H := hP
                    have hD : va_D A (([(ar2_10, .inl (cT 3, mr2_10, .inr (.inl f20))), (as222_42, .inr (0, [.ref vs222_42, .int 0, .int 0, .int 0])), (vs222_42, .inl (cT 6, (ts222_42).length, .inl gs222_42))] : va_W) ++ wo) := hD
                    have hP9 : va_P (dC, dI) vwCl (([(ar2_10, .inl (cT 3, mr2_10, .inr (.inl f20)))] : va_W) ++ (([(as222_42, .inr (0, [.ref vs222_42, .int 0, .int 0, .int 0])), (vs222_42, .inl (cT 6, (ts222_42).length, .inl gs222_42))] : va_W) ++ wo)) H := P_xc hP [0, 1, 2] rfl
                    have hD9 : va_D A (([(ar2_10, .inl (cT 3, mr2_10, .inr (.inl f20)))] : va_W) ++ (([(as222_42, .inr (0, [.ref vs222_42, .int 0, .int 0, .int 0])), (vs222_42, .inl (cT 6, (ts222_42).length, .inl gs222_42))] : va_W) ++ wo)) := D_xc hD [0, 1, 2] (by decide) rfl
                    refine coI (va_runS (As := [.ref a0, .ref as222_42]) (rest := []) ⟨hx, hb, hml, hown, hta⟩ (lc_L_write l hl9 dC dI cT h hs222_42 hO (P_r hP9) ((D_r hD9).weaken (fun _ _ _ _ => trivial))) (cS hta lm_L_197 md_L_write ⟨(Nat.le_of_ble_eq_true rfl), (Nat.le_of_ble_eq_true rfl)⟩) ⟨fbU, fun U hU hW => ⟨rfl, hU, va_K.moved hW.alike hK, XS.call hX hS hU hW (freeO hD9 hS hA), hN.warm hW, ZS.call hZ hS hU hW (freeO hD9 hS hA), LT.call hT hS hU hW (freeO hD9 hS hA)⟩⟩ rfl rfl hl.1 rfl (lv_room (Nat.le_of_ble_eq_true rfl)) dL_undone_225 ⟨by show _ ≤ (17774 : Nat); omega, by show _ ≤ (541517 : Nat); omega⟩) hS hA hP9 hD9 (fun r44 W9 H locs hw hP hD hS => ?_)
                    obtain ⟨wo, rfl, σ43, h, hO⟩ := hw
                    have hP := P_as hP
                    have hD := D_as hD
                    have hP : va_P (dC, dI) vwCl (([(ar2_10, .inl (cT 3, mr2_10, .inr (.inl f20))), (as222_42, .inr (0, [.ref vs222_42, .int 0, .int 0, .int 0])), (vs222_42, .inl (cT 6, (ts222_42).length, .inl gs222_42))] : va_W) ++ wo) H := hP
                    have hD : va_D A (([(ar2_10, .inl (cT 3, mr2_10, .inr (.inl f20))), (as222_42, .inr (0, [.ref vs222_42, .int 0, .int 0, .int 0])), (vs222_42, .inl (cT 6, (ts222_42).length, .inl gs222_42))] : va_W) ++ wo) := hD
                    refine lv_istore (lv' := [(8, .int r44), (7, .int r17), (6, .int v16), (5, .int v15), (0, .ref b9), (1, .ref a0), (2, .ref ar2_10), (3, .int x3_10), (4, .int x4_10)]) hx hb dL_undone_228 hl (by decide) rfl (fun ls hl => ?_)
                    refine lv_goto (tgt := 265) hx hb dL_undone_230 (by decide) ?_
                    have hP := P_perm (X' := ([(ar2_10, .inl (cT 3, mr2_10, .inr (.inl f20)))] : va_W)) hP [0] rfl
                    have hD := D_perm (X' := ([(ar2_10, .inl (cT 3, mr2_10, .inr (.inl f20)))] : va_W)) hD [0] (by decide) rfl
                    exact wB_265 x3_10 x4_10 v15 r44 mr2_10 f20 ar2_10 σ43 _ _ _ _ _ _ h hO hP hD hS (lv_sub hl [4, 5, 6, 7, 8, 3, 0] rfl) (by omega) (by omega)
                  · have h := h.2 cs3
                    by_cases cs2 : v21 = 6
                    · have h := h.1 cs2
                      refine lv_tableIn (tgt := 233) (off := 178) hx hb dL_undone_55 (by rw [cs2]; decide) (by rw [cs2]; decide) (by rw [cs2]; rfl) (by decide) ?_
                      refine lv_aload_n hx hb dL_undone_233 rfl (lv_at hl 4 rfl) ?_
                      refine lv_iload hx hb dL_undone_234 (lv_at hl 1 rfl) ?_
                      refine lv_iconst (v := 4) hx hb dL_undone_236 (by decide) ?_
                      obtain ⟨hc, h⟩ := h
                      refine lv_irem hx hb dL_undone_237 hc ?_
                      refine lv_topi (fun v45 e_v => ?_)
                      have h := h v45 e_v
                      refine coI (vx_runSW (As := [.ref a0, .int v45]) (rest := []) ⟨hx, hb, hml, hown, hta⟩ (oc_L_erase l hl9 dC dI cT hO (P_r hP) ((D_r hD).weaken (fun _ _ _ _ => trivial))) (cW hta lm_L_343 mw_L_erase ⟨(Nat.le_of_ble_eq_true rfl), (Nat.le_of_ble_eq_true rfl)⟩) ⟨fbU, fun U hU hW => ⟨rfl, hU, va_K.moved hW.alike hK, XS.call hX hS hU hW (freeO hD hS hA), hN.warm hW, ZS.call hZ hS hU hW (freeO hD hS hA), LT.call hT hS hU hW (freeO hD hS hA)⟩⟩ rfl rfl hl.1 rfl (lv_room (Nat.le_of_ble_eq_true rfl)) dL_undone_238 ⟨by show _ ≤ (17774 : Nat); omega, by show _ ≤ (541517 : Nat); omega⟩) hS hA hP hD (fun r46 wo H locs hw hP hD hS => ?_)
                      obtain ⟨σ47, hr9, hO⟩ := hw
                      have h := h r46 σ47 hr9 (OB_gok hO)
                      refine lv_istore (lv' := [(8, .int r46), (7, .int r17), (6, .int v16), (5, .int v15), (0, .ref b9), (1, .ref a0), (2, .ref ar2_10), (3, .int x3_10), (4, .int x4_10)]) hx hb dL_undone_241 hl (by decide) rfl (fun ls hl => ?_)
                      refine lv_goto (tgt := 265) hx hb dL_undone_243 (by decide) ?_
                      exact wB_265 x3_10 x4_10 v15 r46 mr2_10 f20 ar2_10 σ47 _ _ _ _ _ _ h hO hP hD hS (lv_sub hl [4, 5, 6, 7, 8, 3, 0] rfl) (by omega) (by omega)
                    · have h := h.2 cs2
                      by_cases cs1 : v21 = 7
                      · have h := h.1 cs1
                        refine lv_tableIn (tgt := 246) (off := 191) hx hb dL_undone_55 (by rw [cs1]; decide) (by rw [cs1]; decide) (by rw [cs1]; rfl) (by decide) ?_
                        refine lv_aload_n hx hb dL_undone_246 rfl (lv_at hl 4 rfl) ?_
                        refine lv_iload hx hb dL_undone_247 (lv_at hl 1 rfl) ?_
                        refine lv_iconst (v := 4) hx hb dL_undone_249 (by decide) ?_
                        obtain ⟨hc, h⟩ := h
                        refine lv_irem hx hb dL_undone_250 hc ?_
                        refine lv_topi (fun v48 e_v => ?_)
                        have h := h v48 e_v
                        refine coI (vx_runSW (As := [.ref a0, .int v48]) (rest := []) ⟨hx, hb, hml, hown, hta⟩ (oc_L_cook l hl9 dC dI cT hO (P_r hP) ((D_r hD).weaken (fun _ _ _ _ => trivial))) (cW hta lm_L_278 mw_L_cook ⟨(Nat.le_of_ble_eq_true rfl), (Nat.le_of_ble_eq_true rfl)⟩) ⟨fbU, fun U hU hW => ⟨rfl, hU, va_K.moved hW.alike hK, XS.call hX hS hU hW (freeO hD hS hA), hN.warm hW, ZS.call hZ hS hU hW (freeO hD hS hA), LT.call hT hS hU hW (freeO hD hS hA)⟩⟩ rfl rfl hl.1 rfl (lv_room (Nat.le_of_ble_eq_true rfl)) dL_undone_251 ⟨by show _ ≤ (17774 : Nat); omega, by show _ ≤ (541517 : Nat); omega⟩) hS hA hP hD (fun r49 wo H locs hw hP hD hS => ?_)
                        obtain ⟨σ50, hr9, hO⟩ := hw
                        have h := h r49 σ50 hr9 (OB_gok hO)
                        refine lv_istore (lv' := [(8, .int r49), (7, .int r17), (6, .int v16), (5, .int v15), (0, .ref b9), (1, .ref a0), (2, .ref ar2_10), (3, .int x3_10), (4, .int x4_10)]) hx hb dL_undone_254 hl (by decide) rfl (fun ls hl => ?_)
                        refine lv_goto (tgt := 265) hx hb dL_undone_256 (by decide) ?_
                        exact wB_265 x3_10 x4_10 v15 r49 mr2_10 f20 ar2_10 σ50 _ _ _ _ _ _ h hO hP hD hS (lv_sub hl [4, 5, 6, 7, 8, 3, 0] rfl) (by omega) (by omega)
                      · have h := h.2 cs1
                        refine lv_tableOut (tgt := 259) hx hb dL_undone_55 (by have q0 := lv_neT cs8 (a := 0) (by decide); have q1 := lv_neT cs7 (a := 1) (by decide); have q2 := lv_neT cs6 (a := 2) (by decide); have q3 := lv_neT cs5 (a := 3) (by decide); have q4 := lv_neT cs4 (a := 4) (by decide); have q5 := lv_neT cs3 (a := 5) (by decide); have q6 := lv_neT cs2 (a := 6) (by decide); have q7 := lv_neT cs1 (a := 7) (by decide); omega) (by decide) ?_
                        refine lv_aload_n hx hb dL_undone_259 rfl (lv_at hl 4 rfl) ?_
                        refine coI (vx_runSW (As := [.ref a0]) (rest := []) ⟨hx, hb, hml, hown, hta⟩ (oc_L_cookAll l hl9 dC dI cT hO (P_r hP) ((D_r hD).weaken (fun _ _ _ _ => trivial))) (cW hta lm_L_345 mw_L_cookAll ⟨(Nat.le_of_ble_eq_true rfl), (Nat.le_of_ble_eq_true rfl)⟩) ⟨fbU, fun U hU hW => ⟨rfl, hU, va_K.moved hW.alike hK, XS.call hX hS hU hW (freeO hD hS hA), hN.warm hW, ZS.call hZ hS hU hW (freeO hD hS hA), LT.call hT hS hU hW (freeO hD hS hA)⟩⟩ rfl rfl hl.1 rfl (lv_room (Nat.le_of_ble_eq_true rfl)) dL_undone_260 ⟨by show _ ≤ (17774 : Nat); omega, by show _ ≤ (541517 : Nat); omega⟩) hS hA hP hD (fun r51 wo H locs hw hP hD hS => ?_)
                        obtain ⟨σ52, hr9, hO⟩ := hw
                        have h := h r51 σ52 hr9 (OB_gok hO)
                        refine lv_istore (lv' := [(8, .int r51), (7, .int r17), (6, .int v16), (5, .int v15), (0, .ref b9), (1, .ref a0), (2, .ref ar2_10), (3, .int x3_10), (4, .int x4_10)]) hx hb dL_undone_263 hl (by decide) rfl (fun ls hl => ?_)
                        exact wB_265 x3_10 x4_10 v15 r51 mr2_10 f20 ar2_10 σ52 _ _ _ _ _ _ h hO hP hD hS (lv_sub hl [4, 5, 6, 7, 8, 3, 0] rfl) (by omega) (by omega)
  unfold wp_L_undone at h
  have hc1 : (0 : Nat) + 17774 ≤ 17774 := Nat.le_of_eq (Nat.zero_add _)
  have hc2 : (0 : Nat) + 541517 ≤ 541517 := Nat.le_of_eq (Nat.zero_add _)
  clear hP0 hD0 hAe
  obtain ⟨wo, e_w⟩ : ∃ z, z = W0 := ⟨W0, rfl⟩
  rw [← e_w] at hO hP hD
  clear e_w
  refine lv_bipush (v := 7) hx hb dL_undone_0 (by decide) ?_
  refine va_newaT (ty := .long) (a0 := (7, .inr (.inl (fun _ => 0)))) hx hb (hta _ ac_long) rfl (fun _ h9 => by cases h9) 3 rfl hK hP hD hS hA (fun _ => rfl) (by decide) rfl (Nat.le_of_ble_eq_true rfl) (by show _ ≤ (17774 : Nat); omega) (by show _ ≤ (541517 : Nat); omega) dL_undone_2 (fun aq53 H hP hD hS => ?_)
  have hP : va_P (dC, dI) vwCl (([(aq53, .inl (cT 3, 7, .inr (.inl (fun _ => 0))))] : va_W) ++ wo) H := P_mv hP
  have hD : va_D A (([(aq53, .inl (cT 3, 7, .inr (.inl (fun _ => 0))))] : va_W) ++ wo) := D_mv hD
  refine lv_astore_n (lv' := [(2, .ref aq53), (0, .ref b9), (1, .ref a0)]) hx hb dL_undone_4 rfl hl (by decide) rfl (fun ls hl => ?_)
  refine lv_iconst (v := 0) hx hb dL_undone_5 (by decide) ?_
  refine lv_istore_n (lv' := [(3, .int 0), (2, .ref aq53), (0, .ref b9), (1, .ref a0)]) hx hb dL_undone_6 rfl hl (by decide) rfl (fun ls hl => ?_)
  refine lv_iconst (v := 0) hx hb dL_undone_7 (by decide) ?_
  refine lv_istore (lv' := [(4, .int 0), (3, .int 0), (2, .ref aq53), (0, .ref b9), (1, .ref a0)]) hx hb dL_undone_8 hl (by decide) rfl (fun ls hl => ?_)
  exact wB_10 7 (0 : Int32) (0 : Int32) 7 (fun _ => 0) aq53 σ _ _ _ _ _ _ h hO hP hD hS (lv_sub hl [3, 4, 2, 1, 0] rfl) (by omega) (by omega)
