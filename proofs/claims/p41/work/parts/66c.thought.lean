/-! THE LAW's methods (gen/laws41.py) -/
def wp_L_thought_b446 (K : (Int32 → AB → Prop))  (s0_446 : Int32) (σ : AB) : Prop :=
(bo s0_446 = true) ∧
K s0_446 σ
def wp_L_thought_b445 (K : (Int32 → AB → Prop))   (σ : AB) : Prop :=
wp_L_thought_b446 K (0 : Int32) σ
def wp_L_thought_b376 (K : (Int32 → AB → Prop))   (σ : AB) : Prop :=
K (0 : Int32) σ
def wp_L_thought_b378 (K : (Int32 → AB → Prop)) (k_8 : Int32 → Int32 → AB → Prop) (x1_378 : Int32) (x2_378 : Int32) (σ : AB) : Prop :=
∀ v1 : Int32, v1 = x2_378 + 1 →
k_8 x1_378 v1 σ
def wp_L_thought_b340 (K : (Int32 → AB → Prop)) (k_8 : Int32 → Int32 → AB → Prop) (x1_340 : Int32) (x2_340 : Int32) (x7_340 : Int32) (s0_340 : Int32) (mr3_340 : Nat) (fr3_340 : Nat → Int32) (σ : AB) : Prop :=
(s0_340 = 0 →
wp_L_thought_b376 K σ) ∧
(¬ s0_340 = 0 →
∀ (r2 : Int32) (σ3 : AB), ((σ.2.1 = 0 ∧ r2 = -14 ∧ σ3 = σ) ∨ (0 < σ.2.1 ∧ r2 = nI (σ.2.1 - 1) ∧ BEB σ3.1 (σ.2.2.1 0) ∧ σ3.2.1 = σ.2.1 - 1 ∧ (∀ r2, σ3.2.2.1 r2 = σ.2.2.1 (r2 + 1)) ∧ KEPTR σ σ3 ∧ σ3.2.2.2.2.2.1 = σ.2.2.2.2.2.1)) →
GOK σ3 →
(r2 < 0 →
wp_L_thought_b376 K σ3) ∧
(¬ r2 < 0 →
wp_L_bits (fun (nq356_5 : Nat) (fq356_5 : Nat → Int32) (σ4 : AB) =>
wp_L_unlike (fun (r7 : Int32) (σ6 : AB) =>
(0 < r7 →
wp_L_thought_b376 K σ6) ∧
(¬ 0 < r7 →
(∃ n, n < 8 ∧ (6 : Int32) = nI n) ∧
∀ r8 : Int32, r8 = f_account σ6.1 σ6.2.2.2.2.2.2 (6 : Int32) →
(r8 = x7_340 →
wp_L_thought_b378 K k_8 x1_340 x2_340 σ6) ∧
(¬ r8 = x7_340 →
wp_L_thought_b376 K σ6))) mr3_340 fr3_340 nq356_5 fq356_5 σ4)  σ3))
def wp_L_thought_b339 (K : (Int32 → AB → Prop)) (k_8 : Int32 → Int32 → AB → Prop) (x1_339 : Int32) (x2_339 : Int32) (x7_339 : Int32) (mr3_339 : Nat) (fr3_339 : Nat → Int32) (σ : AB) : Prop :=
wp_L_thought_b340 K k_8 x1_339 x2_339 x7_339 (0 : Int32) mr3_339 fr3_339 σ
def wp_L_thought_b335 (K : (Int32 → AB → Prop)) (k_8 : Int32 → Int32 → AB → Prop) (x1_335 : Int32) (x2_335 : Int32) (x7_335 : Int32) (mr3_335 : Nat) (fr3_335 : Nat → Int32) (σ : AB) : Prop :=
wp_L_thought_b340 K k_8 x1_335 x2_335 x7_335 (1 : Int32) mr3_335 fr3_335 σ
def wp_L_thought_b276 (K : (Int32 → AB → Prop)) (k_8 : Int32 → Int32 → AB → Prop) (k_245 : Int32 → Int32 → Int32 → Int32 → Int32 → Int32 → Nat → (Nat → Int32) → Nat → (Nat → Int32) → AB → Prop) (x1_276 : Int32) (x2_276 : Int32) (x6_276 : Int32) (x7_276 : Int32) (x10_276 : Int32) (s0_276 : Int32) (mr3_276 : Nat) (fr3_276 : Nat → Int32) (mr4_276 : Nat) (fr4_276 : Nat → Int32) (σ : AB) : Prop :=
∀ v9 : Int32, v9 = x10_276 + 1 →
k_245 x1_276 x2_276 x6_276 x7_276 s0_276 v9 mr3_276 fr3_276 mr4_276 fr4_276 σ
def wp_L_thought_b275 (K : (Int32 → AB → Prop)) (k_8 : Int32 → Int32 → AB → Prop) (k_245 : Int32 → Int32 → Int32 → Int32 → Int32 → Int32 → Nat → (Nat → Int32) → Nat → (Nat → Int32) → AB → Prop) (x1_275 : Int32) (x2_275 : Int32) (x6_275 : Int32) (x7_275 : Int32) (x10_275 : Int32) (mr3_275 : Nat) (fr3_275 : Nat → Int32) (mr4_275 : Nat) (fr4_275 : Nat → Int32) (σ : AB) : Prop :=
wp_L_thought_b276 K k_8 k_245 x1_275 x2_275 x6_275 x7_275 x10_275 (0 : Int32) mr3_275 fr3_275 mr4_275 fr4_275 σ
def wp_L_thought_b245 (K : (Int32 → AB → Prop)) (k_8 : Int32 → Int32 → AB → Prop) : Nat → Int32 → Int32 → Int32 → Int32 → Int32 → Int32 → Nat → (Nat → Int32) → Nat → (Nat → Int32) → AB → Prop
  | 0, _, _, _, _, _, _, _, _, _, _, _ => False
  | n + 1, x1_245, x2_245, x6_245, x7_245, x9_245, x10_245, mr3_245, fr3_245, mr4_245, fr4_245, σ =>
    (x1_245 ≤ x10_245 →
    ∀ r10 : Int32, r10 = f_lasts σ.1 x2_245 →
    (x9_245 = 0 →
    wp_L_thought_b339 K k_8 x1_245 x2_245 x7_245 mr3_245 fr3_245 σ) ∧
    (¬ x9_245 = 0 →
    (x6_245 = 0 →
    (r10 = 0 →
    wp_L_thought_b335 K k_8 x1_245 x2_245 x7_245 mr3_245 fr3_245 σ) ∧
    (¬ r10 = 0 →
    wp_L_thought_b339 K k_8 x1_245 x2_245 x7_245 mr3_245 fr3_245 σ)) ∧
    (¬ x6_245 = 0 →
    (x6_245 = 50 →
    (r10 < 49 →
    wp_L_thought_b339 K k_8 x1_245 x2_245 x7_245 mr3_245 fr3_245 σ) ∧
    (¬ r10 < 49 →
    wp_L_thought_b335 K k_8 x1_245 x2_245 x7_245 mr3_245 fr3_245 σ)) ∧
    (¬ x6_245 = 50 →
    (r10 = (x6_245 - 1) →
    wp_L_thought_b335 K k_8 x1_245 x2_245 x7_245 mr3_245 fr3_245 σ) ∧
    (¬ r10 = (x6_245 - 1) →
    wp_L_thought_b339 K k_8 x1_245 x2_245 x7_245 mr3_245 fr3_245 σ))))) ∧
    (¬ x1_245 ≤ x10_245 →
    (x9_245 = 0 →
    wp_L_thought_b275 K k_8 (wp_L_thought_b245 K k_8 n) x1_245 x2_245 x6_245 x7_245 x10_245 mr3_245 fr3_245 mr4_245 fr4_245 σ) ∧
    (¬ x9_245 = 0 →
    ∀ r11 : Int32, r11 = f_of σ.1 x10_245 (3 : Int32) →
    (inb x10_245 mr4_245 = true) ∧
    (r11 = (fr4_245 x10_245.toNatClampNeg) →
    wp_L_thought_b276 K k_8 (wp_L_thought_b245 K k_8 n) x1_245 x2_245 x6_245 x7_245 x10_245 (1 : Int32) mr3_245 fr3_245 mr4_245 fr4_245 σ) ∧
    (¬ r11 = (fr4_245 x10_245.toNatClampNeg) →
    wp_L_thought_b275 K k_8 (wp_L_thought_b245 K k_8 n) x1_245 x2_245 x6_245 x7_245 x10_245 mr3_245 fr3_245 mr4_245 fr4_245 σ)))
def wp_L_thought_b240 (K : (Int32 → AB → Prop)) (k_8 : Int32 → Int32 → AB → Prop) (x1_240 : Int32) (x2_240 : Int32) (x6_240 : Int32) (x7_240 : Int32) (s0_240 : Int32) (mr3_240 : Nat) (fr3_240 : Nat → Int32) (mr4_240 : Nat) (fr4_240 : Nat → Int32) (σ : AB) : Prop :=
wp_L_thought_b245 K k_8 7 x1_240 x2_240 x6_240 x7_240 s0_240 (0 : Int32) mr3_240 fr3_240 mr4_240 fr4_240 σ
def wp_L_thought_b239 (K : (Int32 → AB → Prop)) (k_8 : Int32 → Int32 → AB → Prop) (x1_239 : Int32) (x2_239 : Int32) (x6_239 : Int32) (x7_239 : Int32) (mr3_239 : Nat) (fr3_239 : Nat → Int32) (mr4_239 : Nat) (fr4_239 : Nat → Int32) (σ : AB) : Prop :=
wp_L_thought_b240 K k_8 x1_239 x2_239 x6_239 x7_239 (0 : Int32) mr3_239 fr3_239 mr4_239 fr4_239 σ
def wp_L_thought_b222 (K : (Int32 → AB → Prop)) (k_8 : Int32 → Int32 → AB → Prop) (x1_222 : Int32) (x2_222 : Int32) (x6_222 : Int32) (x7_222 : Int32) (s0_222 : Int32) (s1_222 : Int32) (mr3_222 : Nat) (fr3_222 : Nat → Int32) (mr4_222 : Nat) (fr4_222 : Nat → Int32) (σ : AB) : Prop :=
(s1_222 = s0_222 →
∀ r12 : Int32, r12 = f_spellOf σ.1 x2_222 (4 : Int32) →
(r12 = 1 →
wp_L_thought_b240 K k_8 x1_222 x2_222 x6_222 x7_222 (1 : Int32) mr3_222 fr3_222 mr4_222 fr4_222 σ) ∧
(¬ r12 = 1 →
wp_L_thought_b239 K k_8 x1_222 x2_222 x6_222 x7_222 mr3_222 fr3_222 mr4_222 fr4_222 σ)) ∧
(¬ s1_222 = s0_222 →
wp_L_thought_b239 K k_8 x1_222 x2_222 x6_222 x7_222 mr3_222 fr3_222 mr4_222 fr4_222 σ)
def wp_L_thought_b212 (K : (Int32 → AB → Prop)) (k_8 : Int32 → Int32 → AB → Prop) (x1_212 : Int32) (x2_212 : Int32) (x6_212 : Int32) (x7_212 : Int32) (s0_212 : Int32) (mr3_212 : Nat) (fr3_212 : Nat → Int32) (mr4_212 : Nat) (fr4_212 : Nat → Int32) (σ : AB) : Prop :=
(x6_212 = 0 →
wp_L_thought_b222 K k_8 x1_212 x2_212 x6_212 x7_212 (1 : Int32) s0_212 mr3_212 fr3_212 mr4_212 fr4_212 σ) ∧
(¬ x6_212 = 0 →
wp_L_thought_b222 K k_8 x1_212 x2_212 x6_212 x7_212 (0 : Int32) s0_212 mr3_212 fr3_212 mr4_212 fr4_212 σ)
def wp_L_thought_b177 (K : (Int32 → AB → Prop)) (k_8 : Int32 → Int32 → AB → Prop) (x1_177 : Int32) (x2_177 : Int32) (s0_177 : Int32) (σ : AB) : Prop :=
(s0_177 = 0 →
K (0 : Int32) σ) ∧
(¬ s0_177 = 0 →
wp_L_thought_b378 K k_8 x1_177 x2_177 σ)
def wp_L_thought_b176 (K : (Int32 → AB → Prop)) (k_8 : Int32 → Int32 → AB → Prop) (x1_176 : Int32) (x2_176 : Int32) (σ : AB) : Prop :=
wp_L_thought_b177 K k_8 x1_176 x2_176 (0 : Int32) σ
def wp_L_thought_b30 (K : (Int32 → AB → Prop)) (k_8 : Int32 → Int32 → AB → Prop) : Nat → Int32 → Int32 → Int32 → Nat → (Nat → Int32) → Nat → (Nat → Int32) → AB → Prop
  | 0, _, _, _, _, _, _, _, _ => False
  | n + 1, x1_30, x2_30, x5_30, mr3_30, fr3_30, mr4_30, fr4_30, σ =>
    (x1_30 ≤ x5_30 →
    ∀ r13 : Int32, r13 = f_boils σ.1 x2_30 →
    ∀ r14 : Int32, r14 = f_lasts σ.1 x2_30 →
    (∃ n, n < 8 ∧ (6 : Int32) = nI n) ∧
    ∀ r15 : Int32, r15 = f_account σ.1 σ.2.2.2.2.2.2 (6 : Int32) →
    ∀ (r16 : Int32) (σ17 : AB), ((OUT x2_30 σ.1.2.2.1 ∧ r16 = -1 ∧ REFUSED σ σ17) ∨ (∃ i z, i < σ.1.2.2.1 ∧ x2_30 = nI i ∧ flC σ.1.1.2.2.2.2.2.2.1 σ.1.1.2.2.2.2.2.2.2.1 σ.1.1.2.2.2.2.2.2.2.2.1 (CNo σ.1) (σ.1.2.2.2 i) = some z ∧ r16 = -2 ∧ (σ17.1 = σ.1 ∧ σ17.2.1 = σ.2.1 ∧ σ17.2.2.1 = σ.2.2.1 ∧ σ17.2.2.2.1 = σ.2.2.2.1 ∧ σ17.2.2.2.2.1 = σ.2.2.2.2.1) ∧ σ17.2.2.2.2.2.2 = σ.2.2.2.2.2.2 + 1 ∧ σ17.2.2.2.2.2.1 = (1, 6, nI z)) ∨ (∃ i, i < σ.1.2.2.1 ∧ x2_30 = nI i ∧ flC σ.1.1.2.2.2.2.2.2.1 σ.1.1.2.2.2.2.2.2.2.1 σ.1.1.2.2.2.2.2.2.2.2.1 (CNo σ.1) (σ.1.2.2.2 i) = none ∧ COOKED σ.1 i r16 σ17.1.1 ∧ σ17.1.2 = σ.1.2 ∧ PUSHED σ σ17 ∧ KEPTR σ σ17)) →
    GOK σ17 →
    (r13 < 0 →
    wp_L_bits (fun (nq193_19 : Nat) (fq193_19 : Nat → Int32) (σ18 : AB) =>
    wp_L_unlike (fun (r21 : Int32) (σ20 : AB) =>
    (r16 = r21 →
    (r16 = 0 →
    wp_L_thought_b212 K k_8 x1_30 x2_30 r14 r15 (1 : Int32) mr3_30 fr3_30 mr4_30 fr4_30 σ20) ∧
    (¬ r16 = 0 →
    wp_L_thought_b212 K k_8 x1_30 x2_30 r14 r15 (0 : Int32) mr3_30 fr3_30 mr4_30 fr4_30 σ20)) ∧
    (¬ r16 = r21 →
    wp_L_thought_b239 K k_8 x1_30 x2_30 r14 r15 mr3_30 fr3_30 mr4_30 fr4_30 σ20)) mr3_30 fr3_30 nq193_19 fq193_19 σ18)  σ17) ∧
    (¬ r13 < 0 →
    (r16 = (-2) →
    (inb (0 : Int32) mr4_30 = true) ∧
    ((fr4_30 (0 : Int32).toNatClampNeg) = (-100004 : Int32) →
    (r14 = 0 →
    wp_L_bits (fun (nq128_23 : Nat) (fq128_23 : Nat → Int32) (σ22 : AB) =>
    wp_L_unlike (fun (r25 : Int32) (σ24 : AB) =>
    (r25 = 0 →
    (∃ n, n < 8 ∧ (6 : Int32) = nI n) ∧
    ∀ r26 : Int32, r26 = f_account σ24.1 σ24.2.2.2.2.2.2 (6 : Int32) →
    (r26 = (r15 + 1) →
    ((0 : Int32) = 0) ∧
    ∀ r27 : Int32, r27 = f_reason σ24.2.2.2.2.2.1 (0 : Int32) →
    (r27 = 6 →
    ((0 : Int32) = 0) ∧
    ∀ r28 : Int32, r28 = f_reason σ24.2.2.2.2.2.1 (1 : Int32) →
    (r28 = r13 →
    wp_L_thought_b177 K k_8 x1_30 x2_30 (1 : Int32) σ24) ∧
    (¬ r28 = r13 →
    wp_L_thought_b176 K k_8 x1_30 x2_30 σ24)) ∧
    (¬ r27 = 6 →
    wp_L_thought_b176 K k_8 x1_30 x2_30 σ24)) ∧
    (¬ r26 = (r15 + 1) →
    wp_L_thought_b176 K k_8 x1_30 x2_30 σ24)) ∧
    (¬ r25 = 0 →
    wp_L_thought_b176 K k_8 x1_30 x2_30 σ24)) mr3_30 fr3_30 nq128_23 fq128_23 σ22)  σ17) ∧
    (¬ r14 = 0 →
    wp_L_thought_b176 K k_8 x1_30 x2_30 σ17)) ∧
    (¬ (fr4_30 (0 : Int32).toNatClampNeg) = (-100004 : Int32) →
    wp_L_thought_b176 K k_8 x1_30 x2_30 σ17)) ∧
    (¬ r16 = (-2) →
    wp_L_thought_b176 K k_8 x1_30 x2_30 σ17))) ∧
    (¬ x1_30 ≤ x5_30 →
    ∀ r29 : Int32, r29 = f_would σ.1 x2_30 x5_30 →
    (inb x5_30 mr4_30 = true) ∧
    ∀ f30 : Nat → Int32, f30 = (upd fr4_30 x5_30.toNatClampNeg r29) →
    ∀ r31 : Int32, r31 = f_would σ.1 x2_30 x5_30 →
    (inb x5_30 mr4_30 = true) ∧
    (r31 = (f30 x5_30.toNatClampNeg) →
    ∀ v32 : Int32, v32 = x5_30 + 1 →
    wp_L_thought_b30 K k_8 n x1_30 x2_30 v32 mr3_30 fr3_30 mr4_30 f30 σ) ∧
    (¬ r31 = (f30 x5_30.toNatClampNeg) →
    K (0 : Int32) σ))
def wp_L_thought_b8 (K : (Int32 → AB → Prop))  : Nat → Int32 → Int32 → AB → Prop
  | 0, _, _, _ => False
  | n + 1, x1_8, x2_8, σ =>
    (∃ n, n < 8 ∧ (1 : Int32) = nI n) ∧
    ∀ r33 : Int32, r33 = f_account σ.1 σ.2.2.2.2.2.2 (1 : Int32) →
    (r33 ≤ x2_8 →
    (∃ n, n < 8 ∧ (1 : Int32) = nI n) ∧
    ∀ r34 : Int32, r34 = f_account σ.1 σ.2.2.2.2.2.2 (1 : Int32) →
    ∀ r35 : Int32, r35 = f_would σ.1 r34 (0 : Int32) →
    (r35 = (-100001 : Int32) →
    ∀ r36 : Int32, r36 = f_would σ.1 (0 : Int32) x1_8 →
    (r36 = (-100001 : Int32) →
    ∀ r37 : Int32, r37 = f_boils σ.1 (-1 : Int32) →
    (r37 = (-11) →
    (∃ n, n < 8 ∧ (1 : Int32) = nI n) ∧
    ∀ r38 : Int32, r38 = f_account σ.1 σ.2.2.2.2.2.2 (1 : Int32) →
    ∀ r39 : Int32, r39 = f_lasts σ.1 r38 →
    (r39 = (-11) →
    ∀ r40 : Int32, r40 = 1 →
    (r40 = 0 →
    wp_L_thought_b445 K σ) ∧
    (¬ r40 = 0 →
    wp_L_thought_b446 K (1 : Int32) σ)) ∧
    (¬ r39 = (-11) →
    wp_L_thought_b445 K σ)) ∧
    (¬ r37 = (-11) →
    wp_L_thought_b445 K σ)) ∧
    (¬ r36 = (-100001 : Int32) →
    wp_L_thought_b445 K σ)) ∧
    (¬ r35 = (-100001 : Int32) →
    wp_L_thought_b445 K σ)) ∧
    (¬ r33 ≤ x2_8 →
    wp_L_bits (fun (nq18_42 : Nat) (fq18_42 : Nat → Int32) (σ41 : AB) =>
    ∃ m43 : Nat, m43 ≤ 60 ∧ x1_8 = nI m43 ∧
    wp_L_thought_b30 K (wp_L_thought_b8 K n) 7 x1_8 x2_8 (0 : Int32) nq18_42 fq18_42 m43 (fun _ => 0) σ41)  σ)
def wp_L_thought (K : (Int32 → AB → Prop))  (σ : AB) : Prop :=
(∃ n, n < 8 ∧ (0 : Int32) = nI n) ∧
∀ r45 : Int32, r45 = f_account σ.1 σ.2.2.2.2.2.2 (0 : Int32) →
wp_L_thought_b8 K 5 r45 (0 : Int32) σ
set_option maxHeartbeats 4000000 in
set_option maxRecDepth 100000 in
theorem lc_L_thought (l : Launch) (hl9 : l.stackTraces = false) (dC : Nat → ClassId) (dI : Nat → Nat → Nat) (cT : Nat → ClassId) {Hh : Heap} {a0 : Nat} {σ : AB} {W0 : va_W} {K : (Int32 → AB → Prop)} (h : wp_L_thought K σ) (hO : OB cT a0 σ W0) (hP0 : va_P (dC, dI) vwCl W0 Hh) (hD0 : va_D (fun _ => True) W0) : Met l yL_thought (wA yL_thought cL_thought 11 (some .boolean)) ({ frames := 34, cells := 507, slots := 3312, locals := 920 } : Room) (PU dC dI cT [.ref a0] Hh (va_A W0 Hh.size)) (QEI dC dI (fun r W1 => ∃ σ9, K r σ9 ∧ OB cT a0 σ9 W1) (va_A W0 Hh.size)) 507 3312 (va_A W0 Hh.size) := by
  refine Met.ofW (cc := cL_thought) (maxL := 11) (ret := (some .boolean)) (by decide) rfl ?_
  intro p e s m args below meth c s₁ B hml hv
  obtain ⟨rfl, hH, hK, hX, hN, hZ, hT⟩ := hv
  subst hH
  have hx := B.exec
  have hb := B.bytes
  have hr := B.returns
  have hta : ∀ w ∈ ALLW, w.before [.ref a0].toArray s = true := fun w hw => atoms_spec (ws := wA yL_thought cL_thought 11 (some .boolean)) B.pre w (List.mem_cons_of_mem _ hw)
  have hown : s.vm.findClass RL = some m.cls := findClass_of_methodNamed B.named
  have hlocks := B.notSynchronized
  have hD : va_D (va_A W0 s.heap.size) (([] : va_W) ++ W0) := hD0.self (sz := s.heap.size)
  generalize hAe : va_A W0 s.heap.size = A at hD hX hZ hT ⊢
  have hP : va_P (dC, dI) vwCl (([] : va_W) ++ W0) s.heap := hP0
  have hA : ∀ q : Nat, s.heap.size ≤ q → A q := fun q h => by rw [← hAe]; exact Or.inr h
  have hS : va_S A s.heap s.heap [] := va_S.rf
  have hl := lv_entry [.ref a0] (n := 11) (Nat.le_of_ble_eq_true rfl)
  rw [lg_entry_eq]
  generalize (lg_sl [.ref a0] ++ List.replicate (11 - (lg_sl [.ref a0]).length) Slot.unset).toArray = ls at hl ⊢
  have hl : lv_has ls 11 [(0, .ref a0)] := hl
  obtain ⟨Q, hQ⟩ : ∃ Q, Q = MQ below (QEI dC dI (fun r W1 => ∃ σ9, K r σ9 ∧ OB cT a0 σ9 W1) A) [.ref a0].toArray s 507 3312 A := ⟨_, rfl⟩
  rw [← hQ]
  have wB_446 : ∀ (s0_446 : Int32) (σ : AB) (wo : va_W) (H : Heap) (locs : List Loc) (ls : Array Slot) (cells slots : Nat), wp_L_thought_b446 K s0_446 σ → OB cT a0 σ wo → va_P (dC, dI) vwCl (([] : va_W) ++ wo) H → va_D A (([] : va_W) ++ wo) → va_S A s.heap H locs → lv_has ls 11 [] → cells + (0) ≤ 507 → slots + (0) ≤ 3312 → W p l e ({ frames := 34, cells := 507, slots := 3312, locals := 920 } : Room) s m [.ref a0].toArray below meth c H locs cells slots Q (F0 m 446 ls [.int s0_446]) := by
    intro s0_446 σ wo H locs ls cells slots h hO hP hD hS hl hc1 hc2
    unfold wp_L_thought_b446 at h
    obtain ⟨hbz, h⟩ := h
    refine W.widen (k := 507) (n := 3312) (by omega) (by omega) ?_
    rw [hQ]
    exact W.zret (ty := .boolean) (v := s0_446) hx hb hr (bo_n (v := s0_446) hbz) (fun t ht hW => ⟨⟨s0_446, wo, rfl, ⟨_, h, hO⟩, by rw [ht]; exact P_r hP, D_r hD⟩, hS.F ht⟩) hS.2.2 dL_thought_446
  have wB_445 : ∀  (σ : AB) (wo : va_W) (H : Heap) (locs : List Loc) (ls : Array Slot) (cells slots : Nat), wp_L_thought_b445 K  σ → OB cT a0 σ wo → va_P (dC, dI) vwCl (([] : va_W) ++ wo) H → va_D A (([] : va_W) ++ wo) → va_S A s.heap H locs → lv_has ls 11 [] → cells + (0) ≤ 507 → slots + (0) ≤ 3312 → W p l e ({ frames := 34, cells := 507, slots := 3312, locals := 920 } : Room) s m [.ref a0].toArray below meth c H locs cells slots Q (F0 m 445 ls []) := by
    intro  σ wo H locs ls cells slots h hO hP hD hS hl hc1 hc2
    unfold wp_L_thought_b445 at h
    refine lv_iconst (v := 0) hx hb dL_thought_445 (by decide) ?_
    exact wB_446 (0 : Int32) σ _ _ _ _ _ _ h hO hP hD hS (lv_sub hl [] rfl) (by omega) (by omega)
  have wB_376 : ∀  (σ : AB) (wo : va_W) (H : Heap) (locs : List Loc) (ls : Array Slot) (cells slots : Nat), wp_L_thought_b376 K  σ → OB cT a0 σ wo → va_P (dC, dI) vwCl (([] : va_W) ++ wo) H → va_D A (([] : va_W) ++ wo) → va_S A s.heap H locs → lv_has ls 11 [] → cells + (0) ≤ 507 → slots + (0) ≤ 3312 → W p l e ({ frames := 34, cells := 507, slots := 3312, locals := 920 } : Room) s m [.ref a0].toArray below meth c H locs cells slots Q (F0 m 376 ls []) := by
    intro  σ wo H locs ls cells slots h hO hP hD hS hl hc1 hc2
    unfold wp_L_thought_b376 at h
    refine lv_iconst (v := 0) hx hb dL_thought_376 (by decide) ?_
    refine W.widen (k := 507) (n := 3312) (by omega) (by omega) ?_
    rw [hQ]
    exact W.zret (ty := .boolean) (v := 0) hx hb hr (bo_n (v := 0) rfl) (fun t ht hW => ⟨⟨0, wo, rfl, ⟨_, h, hO⟩, by rw [ht]; exact P_r hP, D_r hD⟩, hS.F ht⟩) hS.2.2 dL_thought_377
  have wB_8 : ∀ (n_8 : Nat), ∀ (x1_8 : Int32) (x2_8 : Int32) (σ : AB) (wo : va_W) (H : Heap) (locs : List Loc) (ls : Array Slot) (cells slots : Nat), wp_L_thought_b8 K n_8 x1_8 x2_8 σ → OB cT a0 σ wo → va_P (dC, dI) vwCl (([] : va_W) ++ wo) H → va_D A (([] : va_W) ++ wo) → va_S A s.heap H locs → lv_has ls 11 [(0, .ref a0), (1, .int x1_8), (2, .int x2_8)] → cells + (11 + n_8 * 99) ≤ 507 → slots + (66 + n_8 * 648) ≤ 3312 → W p l e ({ frames := 34, cells := 507, slots := 3312, locals := 920 } : Room) s m [.ref a0].toArray below meth c H locs cells slots Q (F0 m 8 ls []) := by
    intro n_8
    induction n_8 with
    | zero =>
      intro x1_8 x2_8 σ wo H locs ls cells slots h hO hP hD hS hl hc1 hc2
      exact False.elim h
    | succ n_8 ih_8 =>
      have wB_378 : ∀ (x1_378 : Int32) (x2_378 : Int32) (σ : AB) (wo : va_W) (H : Heap) (locs : List Loc) (ls : Array Slot) (cells slots : Nat), wp_L_thought_b378 K (wp_L_thought_b8 K n_8) x1_378 x2_378 σ → OB cT a0 σ wo → va_P (dC, dI) vwCl (([] : va_W) ++ wo) H → va_D A (([] : va_W) ++ wo) → va_S A s.heap H locs → lv_has ls 11 [(0, .ref a0), (1, .int x1_378), (2, .int x2_378)] → cells + (11 + n_8 * 99) ≤ 507 → slots + (66 + n_8 * 648) ≤ 3312 → W p l e ({ frames := 34, cells := 507, slots := 3312, locals := 920 } : Room) s m [.ref a0].toArray below meth c H locs cells slots Q (F0 m 378 ls []) := by
        intro x1_378 x2_378 σ wo H locs ls cells slots h hO hP hD hS hl hc1 hc2
        unfold wp_L_thought_b378 at h
        obtain ⟨v1, e_v⟩ : ∃ y : Int32, y = x2_378 + 1 := ⟨_, rfl⟩
        have h := h v1 e_v
        refine lv_iinc (v := v1) (lv' := [(2, .int v1), (0, .ref a0), (1, .int x1_378)]) hx hb dL_thought_378 hl (k := 2) rfl (by rw [e_v]; rfl) (by decide) rfl (fun ls hl => ?_)
        refine lv_goto (tgt := 8) hx hb dL_thought_381 (by decide) ?_
        exact ih_8 x1_378 v1 σ _ _ _ _ _ _ h hO hP hD hS (lv_sub hl [1, 2, 0] rfl) (by omega) (by omega)
      have wB_340 : ∀ (x1_340 : Int32) (x2_340 : Int32) (x7_340 : Int32) (s0_340 : Int32) (mr3_340 : Nat) (fr3_340 : Nat → Int32) (ar3_340 : Nat) (σ : AB) (wo : va_W) (H : Heap) (locs : List Loc) (ls : Array Slot) (cells slots : Nat), wp_L_thought_b340 K (wp_L_thought_b8 K n_8) x1_340 x2_340 x7_340 s0_340 mr3_340 fr3_340 σ → OB cT a0 σ wo → va_P (dC, dI) vwCl (([(ar3_340, .inl (cT 0, mr3_340, .inl fr3_340))] : va_W) ++ wo) H → va_D A (([(ar3_340, .inl (cT 0, mr3_340, .inl fr3_340))] : va_W) ++ wo) → va_S A s.heap H locs → lv_has ls 11 [(0, .ref a0), (1, .int x1_340), (2, .int x2_340), (3, .ref ar3_340), (7, .int x7_340)] → cells + (23 + n_8 * 99) ≤ 507 → slots + (138 + n_8 * 648) ≤ 3312 → W p l e ({ frames := 34, cells := 507, slots := 3312, locals := 920 } : Room) s m [.ref a0].toArray below meth c H locs cells slots Q (F0 m 340 ls [.int s0_340]) := by
        intro x1_340 x2_340 x7_340 s0_340 mr3_340 fr3_340 ar3_340 σ wo H locs ls cells slots h hO hP hD hS hl hc1 hc2
        unfold wp_L_thought_b340 at h
        refine lv_istore (lv' := [(9, .int s0_340), (0, .ref a0), (1, .int x1_340), (2, .int x2_340), (3, .ref ar3_340), (7, .int x7_340)]) hx hb dL_thought_340 hl (by decide) rfl (fun ls hl => ?_)
        refine lv_iload hx hb dL_thought_342 (lv_at hl 0 rfl) ?_
        refine lv_if_eq (tgt := 376) hx hb dL_thought_344 (by decide) (fun c0 => ?_) (fun c0 => ?_)
        · have h := h.1 c0
          have hP := P_perm (X' := ([] : va_W)) hP [] rfl
          have hD := D_perm (X' := ([] : va_W)) hD [] (by decide) rfl
          exact wB_376 σ _ _ _ _ _ _ h hO hP hD hS (lv_sub hl [] rfl) (by omega) (by omega)
        · have h := h.2 c0
          refine lv_aload_n hx hb dL_thought_347 rfl (lv_at hl 1 rfl) ?_
          refine coI (vx_runSW (As := [.ref a0]) (rest := []) ⟨hx, hb, hml, hown, hta⟩ (oc_L_undo l hl9 dC dI cT hO (P_r hP) ((D_r hD).weaken (fun _ _ _ _ => trivial))) (cW hta lm_L_287 mw_L_undo ⟨(Nat.le_of_ble_eq_true rfl), (Nat.le_of_ble_eq_true rfl)⟩) ⟨fbU, fun U hU hW => ⟨rfl, hU, va_K.moved hW.alike hK, XS.call hX hS hU hW (freeO hD hS hA), hN.warm hW, ZS.call hZ hS hU hW (freeO hD hS hA), LT.call hT hS hU hW (freeO hD hS hA)⟩⟩ rfl rfl hl.1 rfl (lv_room (Nat.le_of_ble_eq_true rfl)) dL_thought_348 ⟨by show _ ≤ (507 : Nat); omega, by show _ ≤ (3312 : Nat); omega⟩) hS hA hP hD (fun r2 wo H locs hw hP hD hS => ?_)
          obtain ⟨σ3, hr9, hO⟩ := hw
          have h := h r2 σ3 hr9 (OB_gok hO)
          refine lv_if_lt (tgt := 376) hx hb dL_thought_351 (by decide) (fun c0 => ?_) (fun c0 => ?_)
          · have h := h.1 c0
            have hP := P_perm (X' := ([] : va_W)) hP [] rfl
            have hD := D_perm (X' := ([] : va_W)) hD [] (by decide) rfl
            exact wB_376 σ3 _ _ _ _ _ _ h hO hP hD hS (lv_sub hl [] rfl) (by omega) (by omega)
          · have h := h.2 c0
            refine lv_aload_n hx hb dL_thought_354 rfl (lv_at hl 4 rfl) ?_
            refine lv_aload_n hx hb dL_thought_355 rfl (lv_at hl 1 rfl) ?_
            refine coA (va_runS (As := [.ref a0]) (rest := [.ref ar3_340]) ⟨hx, hb, hml, hown, hta⟩ (lc_L_bits l hl9 dC dI cT h hO (P_r hP) ((D_r hD).weaken (fun _ _ _ _ => trivial))) (cS hta lm_L_269 md_L_bits ⟨(Nat.le_of_ble_eq_true rfl), (Nat.le_of_ble_eq_true rfl)⟩) ⟨fbU, fun U hU hW => ⟨rfl, hU, va_K.moved hW.alike hK, XS.call hX hS hU hW (freeO hD hS hA), hN.warm hW, ZS.call hZ hS hU hW (freeO hD hS hA), LT.call hT hS hU hW (freeO hD hS hA)⟩⟩ rfl rfl hl.1 rfl (lv_room (Nat.le_of_ble_eq_true rfl)) dL_thought_356 ⟨by show _ ≤ (507 : Nat); omega, by show _ ≤ (3312 : Nat); omega⟩) hS hA hP hD (fun nq356_5 fq356_5 wo aq356_5 H locs hw hP hD hS => ?_)
            obtain ⟨σ4, h, hO⟩ := hw
            have hP : va_P (dC, dI) vwCl (([(ar3_340, .inl (cT 0, mr3_340, .inl fr3_340)), (aq356_5, .inl (cT 0, nq356_5, .inl fq356_5))] : va_W) ++ wo) H := hP
            have hD : va_D A (([(ar3_340, .inl (cT 0, mr3_340, .inl fr3_340)), (aq356_5, .inl (cT 0, nq356_5, .inl fq356_5))] : va_W) ++ wo) := hD
            have hP9 : va_P (dC, dI) vwCl (([] : va_W) ++ (([(ar3_340, .inl (cT 0, mr3_340, .inl fr3_340)), (aq356_5, .inl (cT 0, nq356_5, .inl fq356_5))] : va_W) ++ wo)) H := P_xc hP [0, 1] rfl
            have hD9 : va_D A (([] : va_W) ++ (([(ar3_340, .inl (cT 0, mr3_340, .inl fr3_340)), (aq356_5, .inl (cT 0, nq356_5, .inl fq356_5))] : va_W) ++ wo)) := D_xc hD [0, 1] (by decide) rfl
            refine coI (va_runS (As := [.ref ar3_340, .ref aq356_5]) (rest := []) ⟨hx, hb, hml, hown, hta⟩ (lc_L_unlike l hl9 dC dI cT h hO (P_r hP9) ((D_r hD9).weaken (fun _ _ _ _ => trivial))) (cS hta lm_L_280 md_L_unlike ⟨(Nat.le_of_ble_eq_true rfl), (Nat.le_of_ble_eq_true rfl)⟩) ⟨fbU, fun U hU hW => ⟨rfl, hU, va_K.moved hW.alike hK, XS.call hX hS hU hW (freeO hD9 hS hA), hN.warm hW, ZS.call hZ hS hU hW (freeO hD9 hS hA), LT.call hT hS hU hW (freeO hD9 hS hA)⟩⟩ rfl rfl hl.1 rfl (lv_room (Nat.le_of_ble_eq_true rfl)) dL_thought_359 ⟨by show _ ≤ (507 : Nat); omega, by show _ ≤ (3312 : Nat); omega⟩) hS hA hP9 hD9 (fun r7 W9 H locs hw hP hD hS => ?_)
            obtain ⟨wo, rfl, σ6, h, hO⟩ := hw
            have hP := P_as hP
            have hD := D_as hD
            have hP : va_P (dC, dI) vwCl (([(ar3_340, .inl (cT 0, mr3_340, .inl fr3_340)), (aq356_5, .inl (cT 0, nq356_5, .inl fq356_5))] : va_W) ++ wo) H := hP
            have hD : va_D A (([(ar3_340, .inl (cT 0, mr3_340, .inl fr3_340)), (aq356_5, .inl (cT 0, nq356_5, .inl fq356_5))] : va_W) ++ wo) := hD
            refine lv_if_gt (tgt := 376) hx hb dL_thought_362 (by decide) (fun c0 => ?_) (fun c0 => ?_)
            · have h := h.1 c0
              have hP := P_perm (X' := ([] : va_W)) hP [] rfl
              have hD := D_perm (X' := ([] : va_W)) hD [] (by decide) rfl
              exact wB_376 σ6 _ _ _ _ _ _ h hO hP hD hS (lv_sub hl [] rfl) (by omega) (by omega)
            · have h := h.2 c0
              refine lv_aload_n hx hb dL_thought_365 rfl (lv_at hl 1 rfl) ?_
              refine lv_bipush (v := 6) hx hb dL_thought_366 (by decide) ?_
              obtain ⟨hq, h⟩ := h
              refine coI (va_runV (As := [.int 6]) (rest := []) ⟨hx, hb, hml, hown, hta⟩ (oc_X11_account l hl9 dC dI cT hO hq (P_r hP) ((D_r hD).weaken (fun _ _ _ _ => trivial))) (cV hta lm_L_229 md_X11_account ⟨(Nat.le_of_ble_eq_true rfl), (Nat.le_of_ble_eq_true rfl)⟩) ⟨fbU, recvO hK hO (P_r hP), fun U hU hW => ⟨rfl, hU, va_K.moved hW.alike hK, XS.call hX hS hU hW (freeO hD hS hA), hN.warm hW, ZS.call hZ hS hU hW (freeO hD hS hA), LT.call hT hS hU hW (freeO hD hS hA)⟩⟩ rfl rfl hl.1 rfl (lv_room (Nat.le_of_ble_eq_true rfl)) dL_thought_368 ⟨by show _ ≤ (507 : Nat); omega, by show _ ≤ (3312 : Nat); omega⟩) hS hA hP hD (fun r8 wo H locs hw hP hD hS => ?_)
              obtain ⟨hr9, hO⟩ := hw
              have h := h r8 hr9
              refine lv_iload hx hb dL_thought_371 (lv_at hl 5 rfl) ?_
              refine lv_icmp_eq (tgt := 378) hx hb dL_thought_373 (by decide) (fun c0 => ?_) (fun c0 => ?_)
              · have h := h.1 c0
                have hP := P_perm (X' := ([] : va_W)) hP [] rfl
                have hD := D_perm (X' := ([] : va_W)) hD [] (by decide) rfl
                exact wB_378 x1_340 x2_340 σ6 _ _ _ _ _ _ h hO hP hD hS (lv_sub hl [1, 2, 3] rfl) (by omega) (by omega)
              · have h := h.2 c0
                have hP := P_perm (X' := ([] : va_W)) hP [] rfl
                have hD := D_perm (X' := ([] : va_W)) hD [] (by decide) rfl
                exact wB_376 σ6 _ _ _ _ _ _ h hO hP hD hS (lv_sub hl [] rfl) (by omega) (by omega)
      have wB_339 : ∀ (x1_339 : Int32) (x2_339 : Int32) (x7_339 : Int32) (mr3_339 : Nat) (fr3_339 : Nat → Int32) (ar3_339 : Nat) (σ : AB) (wo : va_W) (H : Heap) (locs : List Loc) (ls : Array Slot) (cells slots : Nat), wp_L_thought_b339 K (wp_L_thought_b8 K n_8) x1_339 x2_339 x7_339 mr3_339 fr3_339 σ → OB cT a0 σ wo → va_P (dC, dI) vwCl (([(ar3_339, .inl (cT 0, mr3_339, .inl fr3_339))] : va_W) ++ wo) H → va_D A (([(ar3_339, .inl (cT 0, mr3_339, .inl fr3_339))] : va_W) ++ wo) → va_S A s.heap H locs → lv_has ls 11 [(0, .ref a0), (1, .int x1_339), (2, .int x2_339), (3, .ref ar3_339), (7, .int x7_339)] → cells + (23 + n_8 * 99) ≤ 507 → slots + (138 + n_8 * 648) ≤ 3312 → W p l e ({ frames := 34, cells := 507, slots := 3312, locals := 920 } : Room) s m [.ref a0].toArray below meth c H locs cells slots Q (F0 m 339 ls []) := by
        intro x1_339 x2_339 x7_339 mr3_339 fr3_339 ar3_339 σ wo H locs ls cells slots h hO hP hD hS hl hc1 hc2
        unfold wp_L_thought_b339 at h
        refine lv_iconst (v := 0) hx hb dL_thought_339 (by decide) ?_
        exact wB_340 x1_339 x2_339 x7_339 (0 : Int32) mr3_339 fr3_339 ar3_339 σ _ _ _ _ _ _ h hO hP hD hS (lv_sub hl [0, 1, 2, 3, 4] rfl) (by omega) (by omega)
      have wB_335 : ∀ (x1_335 : Int32) (x2_335 : Int32) (x7_335 : Int32) (mr3_335 : Nat) (fr3_335 : Nat → Int32) (ar3_335 : Nat) (σ : AB) (wo : va_W) (H : Heap) (locs : List Loc) (ls : Array Slot) (cells slots : Nat), wp_L_thought_b335 K (wp_L_thought_b8 K n_8) x1_335 x2_335 x7_335 mr3_335 fr3_335 σ → OB cT a0 σ wo → va_P (dC, dI) vwCl (([(ar3_335, .inl (cT 0, mr3_335, .inl fr3_335))] : va_W) ++ wo) H → va_D A (([(ar3_335, .inl (cT 0, mr3_335, .inl fr3_335))] : va_W) ++ wo) → va_S A s.heap H locs → lv_has ls 11 [(0, .ref a0), (1, .int x1_335), (2, .int x2_335), (3, .ref ar3_335), (7, .int x7_335)] → cells + (23 + n_8 * 99) ≤ 507 → slots + (138 + n_8 * 648) ≤ 3312 → W p l e ({ frames := 34, cells := 507, slots := 3312, locals := 920 } : Room) s m [.ref a0].toArray below meth c H locs cells slots Q (F0 m 335 ls []) := by
        intro x1_335 x2_335 x7_335 mr3_335 fr3_335 ar3_335 σ wo H locs ls cells slots h hO hP hD hS hl hc1 hc2
        unfold wp_L_thought_b335 at h
        refine lv_iconst (v := 1) hx hb dL_thought_335 (by decide) ?_
        refine lv_goto (tgt := 340) hx hb dL_thought_336 (by decide) ?_
        exact wB_340 x1_335 x2_335 x7_335 (1 : Int32) mr3_335 fr3_335 ar3_335 σ _ _ _ _ _ _ h hO hP hD hS (lv_sub hl [0, 1, 2, 3, 4] rfl) (by omega) (by omega)
      have wB_245 : ∀ (n_245 : Nat), ∀ (x1_245 : Int32) (x2_245 : Int32) (x6_245 : Int32) (x7_245 : Int32) (x9_245 : Int32) (x10_245 : Int32) (mr3_245 : Nat) (fr3_245 : Nat → Int32) (mr4_245 : Nat) (fr4_245 : Nat → Int32) (ar3_245 : Nat) (ar4_245 : Nat) (σ : AB) (wo : va_W) (H : Heap) (locs : List Loc) (ls : Array Slot) (cells slots : Nat), wp_L_thought_b245 K (wp_L_thought_b8 K n_8) n_245 x1_245 x2_245 x6_245 x7_245 x9_245 x10_245 mr3_245 fr3_245 mr4_245 fr4_245 σ → OB cT a0 σ wo → va_P (dC, dI) vwCl (([(ar3_245, .inl (cT 0, mr3_245, .inl fr3_245)), (ar4_245, .inl (cT 0, mr4_245, .inl fr4_245))] : va_W) ++ wo) H → va_D A (([(ar3_245, .inl (cT 0, mr3_245, .inl fr3_245)), (ar4_245, .inl (cT 0, mr4_245, .inl fr4_245))] : va_W) ++ wo) → va_S A s.heap H locs → lv_has ls 11 [(0, .ref a0), (1, .int x1_245), (2, .int x2_245), (3, .ref ar3_245), (4, .ref ar4_245), (6, .int x6_245), (7, .int x7_245), (9, .int x9_245), (10, .int x10_245)] → cells + (24 + n_8 * 99 + n_245 * 2) ≤ 507 → slots + (144 + n_8 * 648 + n_245 * 12) ≤ 3312 → W p l e ({ frames := 34, cells := 507, slots := 3312, locals := 920 } : Room) s m [.ref a0].toArray below meth c H locs cells slots Q (F0 m 245 ls []) := by
        intro n_245
        induction n_245 with
        | zero =>
          intro x1_245 x2_245 x6_245 x7_245 x9_245 x10_245 mr3_245 fr3_245 mr4_245 fr4_245 ar3_245 ar4_245 σ wo H locs ls cells slots h hO hP hD hS hl hc1 hc2
          exact False.elim h
        | succ n_245 ih_245 =>
          have wB_276 : ∀ (x1_276 : Int32) (x2_276 : Int32) (x6_276 : Int32) (x7_276 : Int32) (x10_276 : Int32) (s0_276 : Int32) (mr3_276 : Nat) (fr3_276 : Nat → Int32) (mr4_276 : Nat) (fr4_276 : Nat → Int32) (ar3_276 : Nat) (ar4_276 : Nat) (σ : AB) (wo : va_W) (H : Heap) (locs : List Loc) (ls : Array Slot) (cells slots : Nat), wp_L_thought_b276 K (wp_L_thought_b8 K n_8) (wp_L_thought_b245 K (wp_L_thought_b8 K n_8) n_245) x1_276 x2_276 x6_276 x7_276 x10_276 s0_276 mr3_276 fr3_276 mr4_276 fr4_276 σ → OB cT a0 σ wo → va_P (dC, dI) vwCl (([(ar3_276, .inl (cT 0, mr3_276, .inl fr3_276)), (ar4_276, .inl (cT 0, mr4_276, .inl fr4_276))] : va_W) ++ wo) H → va_D A (([(ar3_276, .inl (cT 0, mr3_276, .inl fr3_276)), (ar4_276, .inl (cT 0, mr4_276, .inl fr4_276))] : va_W) ++ wo) → va_S A s.heap H locs → lv_has ls 11 [(0, .ref a0), (1, .int x1_276), (2, .int x2_276), (3, .ref ar3_276), (4, .ref ar4_276), (6, .int x6_276), (7, .int x7_276), (10, .int x10_276)] → cells + (24 + n_8 * 99 + n_245 * 2) ≤ 507 → slots + (144 + n_8 * 648 + n_245 * 12) ≤ 3312 → W p l e ({ frames := 34, cells := 507, slots := 3312, locals := 920 } : Room) s m [.ref a0].toArray below meth c H locs cells slots Q (F0 m 276 ls [.int s0_276]) := by
            intro x1_276 x2_276 x6_276 x7_276 x10_276 s0_276 mr3_276 fr3_276 mr4_276 fr4_276 ar3_276 ar4_276 σ wo H locs ls cells slots h hO hP hD hS hl hc1 hc2
            unfold wp_L_thought_b276 at h
            refine lv_istore (lv' := [(9, .int s0_276), (0, .ref a0), (1, .int x1_276), (2, .int x2_276), (3, .ref ar3_276), (4, .ref ar4_276), (6, .int x6_276), (7, .int x7_276), (10, .int x10_276)]) hx hb dL_thought_276 hl (by decide) rfl (fun ls hl => ?_)
            obtain ⟨v9, e_v⟩ : ∃ y : Int32, y = x10_276 + 1 := ⟨_, rfl⟩
            have h := h v9 e_v
            refine lv_iinc (v := v9) (lv' := [(10, .int v9), (9, .int s0_276), (0, .ref a0), (1, .int x1_276), (2, .int x2_276), (3, .ref ar3_276), (4, .ref ar4_276), (6, .int x6_276), (7, .int x7_276)]) hx hb dL_thought_278 hl (k := 8) rfl (by rw [e_v]; rfl) (by decide) rfl (fun ls hl => ?_)
            refine lv_goto (tgt := 245) hx hb dL_thought_281 (by decide) ?_
            exact ih_245 x1_276 x2_276 x6_276 x7_276 s0_276 v9 mr3_276 fr3_276 mr4_276 fr4_276 ar3_276 ar4_276 σ _ _ _ _ _ _ h hO hP hD hS (lv_sub hl [2, 3, 4, 5, 6, 7, 8, 1, 0] rfl) (by omega) (by omega)
          have wB_275 : ∀ (x1_275 : Int32) (x2_275 : Int32) (x6_275 : Int32) (x7_275 : Int32) (x10_275 : Int32) (mr3_275 : Nat) (fr3_275 : Nat → Int32) (mr4_275 : Nat) (fr4_275 : Nat → Int32) (ar3_275 : Nat) (ar4_275 : Nat) (σ : AB) (wo : va_W) (H : Heap) (locs : List Loc) (ls : Array Slot) (cells slots : Nat), wp_L_thought_b275 K (wp_L_thought_b8 K n_8) (wp_L_thought_b245 K (wp_L_thought_b8 K n_8) n_245) x1_275 x2_275 x6_275 x7_275 x10_275 mr3_275 fr3_275 mr4_275 fr4_275 σ → OB cT a0 σ wo → va_P (dC, dI) vwCl (([(ar3_275, .inl (cT 0, mr3_275, .inl fr3_275)), (ar4_275, .inl (cT 0, mr4_275, .inl fr4_275))] : va_W) ++ wo) H → va_D A (([(ar3_275, .inl (cT 0, mr3_275, .inl fr3_275)), (ar4_275, .inl (cT 0, mr4_275, .inl fr4_275))] : va_W) ++ wo) → va_S A s.heap H locs → lv_has ls 11 [(0, .ref a0), (1, .int x1_275), (2, .int x2_275), (3, .ref ar3_275), (4, .ref ar4_275), (6, .int x6_275), (7, .int x7_275), (10, .int x10_275)] → cells + (24 + n_8 * 99 + n_245 * 2) ≤ 507 → slots + (144 + n_8 * 648 + n_245 * 12) ≤ 3312 → W p l e ({ frames := 34, cells := 507, slots := 3312, locals := 920 } : Room) s m [.ref a0].toArray below meth c H locs cells slots Q (F0 m 275 ls []) := by
            intro x1_275 x2_275 x6_275 x7_275 x10_275 mr3_275 fr3_275 mr4_275 fr4_275 ar3_275 ar4_275 σ wo H locs ls cells slots h hO hP hD hS hl hc1 hc2
            unfold wp_L_thought_b275 at h
            refine lv_iconst (v := 0) hx hb dL_thought_275 (by decide) ?_
            exact wB_276 x1_275 x2_275 x6_275 x7_275 x10_275 (0 : Int32) mr3_275 fr3_275 mr4_275 fr4_275 ar3_275 ar4_275 σ _ _ _ _ _ _ h hO hP hD hS (lv_sub hl [0, 1, 2, 3, 4, 5, 6, 7] rfl) (by omega) (by omega)
          intro x1_245 x2_245 x6_245 x7_245 x9_245 x10_245 mr3_245 fr3_245 mr4_245 fr4_245 ar3_245 ar4_245 σ wo H locs ls cells slots h hO hP hD hS hl hc1 hc2
          rw [wp_L_thought_b245] at h
          refine lv_iload hx hb dL_thought_245 (lv_at hl 8 rfl) ?_
          refine lv_iload_n hx hb dL_thought_247 rfl (lv_at hl 1 rfl) ?_
          refine lv_icmp_ge (tgt := 284) hx hb dL_thought_248 (by decide) (fun c0 => ?_) (fun c0 => ?_)
          · have h := h.1 c0
            refine lv_aload_n hx hb dL_thought_284 rfl (lv_at hl 0 rfl) ?_
            refine lv_iload_n hx hb dL_thought_285 rfl (lv_at hl 2 rfl) ?_
            refine coI (vx_runSW (As := [.ref a0, .int x2_245]) (rest := []) ⟨hx, hb, hml, hown, hta⟩ (oc_L_lasts l hl9 dC dI cT hO (P_r hP) ((D_r hD).weaken (fun _ _ _ _ => trivial))) (cW hta lm_L_276 mw_L_lasts ⟨(Nat.le_of_ble_eq_true rfl), (Nat.le_of_ble_eq_true rfl)⟩) ⟨fbU, fun U hU hW => ⟨rfl, hU, va_K.moved hW.alike hK, XS.call hX hS hU hW (freeO hD hS hA), hN.warm hW, ZS.call hZ hS hU hW (freeO hD hS hA), LT.call hT hS hU hW (freeO hD hS hA)⟩⟩ rfl rfl hl.1 rfl (lv_room (Nat.le_of_ble_eq_true rfl)) dL_thought_286 ⟨by show _ ≤ (507 : Nat); omega, by show _ ≤ (3312 : Nat); omega⟩) hS hA hP hD (fun r10 wo H locs hw hP hD hS => ?_)
            obtain ⟨hr9, hO⟩ := hw
            have h := h r10 hr9
            refine lv_istore (lv' := [(10, .int r10), (0, .ref a0), (1, .int x1_245), (2, .int x2_245), (3, .ref ar3_245), (4, .ref ar4_245), (6, .int x6_245), (7, .int x7_245), (9, .int x9_245)]) hx hb dL_thought_289 hl (by decide) rfl (fun ls hl => ?_)
            refine lv_iload hx hb dL_thought_291 (lv_at hl 8 rfl) ?_
            refine lv_if_eq (tgt := 339) hx hb dL_thought_293 (by decide) (fun c0 => ?_) (fun c0 => ?_)
            · have h := h.1 c0
              have hP := P_perm (X' := ([(ar3_245, .inl (cT 0, mr3_245, .inl fr3_245))] : va_W)) hP [0] rfl
              have hD := D_perm (X' := ([(ar3_245, .inl (cT 0, mr3_245, .inl fr3_245))] : va_W)) hD [0] (by decide) rfl
              exact wB_339 x1_245 x2_245 x7_245 mr3_245 fr3_245 ar3_245 σ _ _ _ _ _ _ h hO hP hD hS (lv_sub hl [1, 2, 3, 4, 7] rfl) (by omega) (by omega)
            · have h := h.2 c0
              refine lv_iload hx hb dL_thought_296 (lv_at hl 6 rfl) ?_
              refine lv_if_ne (tgt := 309) hx hb dL_thought_298 (by decide) (fun c0 => ?_) (fun c0 => ?_)
              · have h := h.2 c0
                refine lv_iload hx hb dL_thought_309 (lv_at hl 6 rfl) ?_
                refine lv_bipush (v := 50) hx hb dL_thought_311 (by decide) ?_
                refine lv_icmp_ne (tgt := 326) hx hb dL_thought_313 (by decide) (fun c0 => ?_) (fun c0 => ?_)
                · have h := h.2 c0
                  refine lv_iload hx hb dL_thought_326 (lv_at hl 0 rfl) ?_
                  refine lv_iload hx hb dL_thought_328 (lv_at hl 6 rfl) ?_
                  refine lv_iconst (v := 1) hx hb dL_thought_330 (by decide) ?_
                  refine lv_isub hx hb dL_thought_331 ?_
                  refine lv_icmp_ne (tgt := 339) hx hb dL_thought_332 (by decide) (fun c0 => ?_) (fun c0 => ?_)
                  · have h := h.2 c0
                    have hP := P_perm (X' := ([(ar3_245, .inl (cT 0, mr3_245, .inl fr3_245))] : va_W)) hP [0] rfl
                    have hD := D_perm (X' := ([(ar3_245, .inl (cT 0, mr3_245, .inl fr3_245))] : va_W)) hD [0] (by decide) rfl
                    exact wB_339 x1_245 x2_245 x7_245 mr3_245 fr3_245 ar3_245 σ _ _ _ _ _ _ h hO hP hD hS (lv_sub hl [1, 2, 3, 4, 7] rfl) (by omega) (by omega)
                  · have h := h.1 c0
                    have hP := P_perm (X' := ([(ar3_245, .inl (cT 0, mr3_245, .inl fr3_245))] : va_W)) hP [0] rfl
                    have hD := D_perm (X' := ([(ar3_245, .inl (cT 0, mr3_245, .inl fr3_245))] : va_W)) hD [0] (by decide) rfl
                    exact wB_335 x1_245 x2_245 x7_245 mr3_245 fr3_245 ar3_245 σ _ _ _ _ _ _ h hO hP hD hS (lv_sub hl [1, 2, 3, 4, 7] rfl) (by omega) (by omega)
                · have h := h.1 c0
                  refine lv_iload hx hb dL_thought_316 (lv_at hl 0 rfl) ?_
                  refine lv_bipush (v := 49) hx hb dL_thought_318 (by decide) ?_
                  refine lv_icmp_lt (tgt := 339) hx hb dL_thought_320 (by decide) (fun c0 => ?_) (fun c0 => ?_)
                  · have h := h.1 c0
                    have hP := P_perm (X' := ([(ar3_245, .inl (cT 0, mr3_245, .inl fr3_245))] : va_W)) hP [0] rfl
                    have hD := D_perm (X' := ([(ar3_245, .inl (cT 0, mr3_245, .inl fr3_245))] : va_W)) hD [0] (by decide) rfl
                    exact wB_339 x1_245 x2_245 x7_245 mr3_245 fr3_245 ar3_245 σ _ _ _ _ _ _ h hO hP hD hS (lv_sub hl [1, 2, 3, 4, 7] rfl) (by omega) (by omega)
                  · have h := h.2 c0
                    refine lv_goto (tgt := 335) hx hb dL_thought_323 (by decide) ?_
                    have hP := P_perm (X' := ([(ar3_245, .inl (cT 0, mr3_245, .inl fr3_245))] : va_W)) hP [0] rfl
                    have hD := D_perm (X' := ([(ar3_245, .inl (cT 0, mr3_245, .inl fr3_245))] : va_W)) hD [0] (by decide) rfl
                    exact wB_335 x1_245 x2_245 x7_245 mr3_245 fr3_245 ar3_245 σ _ _ _ _ _ _ h hO hP hD hS (lv_sub hl [1, 2, 3, 4, 7] rfl) (by omega) (by omega)
              · have h := h.1 c0
                refine lv_iload hx hb dL_thought_301 (lv_at hl 0 rfl) ?_
                refine lv_if_ne (tgt := 339) hx hb dL_thought_303 (by decide) (fun c0 => ?_) (fun c0 => ?_)
                · have h := h.2 c0
                  have hP := P_perm (X' := ([(ar3_245, .inl (cT 0, mr3_245, .inl fr3_245))] : va_W)) hP [0] rfl
                  have hD := D_perm (X' := ([(ar3_245, .inl (cT 0, mr3_245, .inl fr3_245))] : va_W)) hD [0] (by decide) rfl
                  exact wB_339 x1_245 x2_245 x7_245 mr3_245 fr3_245 ar3_245 σ _ _ _ _ _ _ h hO hP hD hS (lv_sub hl [1, 2, 3, 4, 7] rfl) (by omega) (by omega)
                · have h := h.1 c0
                  refine lv_goto (tgt := 335) hx hb dL_thought_306 (by decide) ?_
                  have hP := P_perm (X' := ([(ar3_245, .inl (cT 0, mr3_245, .inl fr3_245))] : va_W)) hP [0] rfl
                  have hD := D_perm (X' := ([(ar3_245, .inl (cT 0, mr3_245, .inl fr3_245))] : va_W)) hD [0] (by decide) rfl
                  exact wB_335 x1_245 x2_245 x7_245 mr3_245 fr3_245 ar3_245 σ _ _ _ _ _ _ h hO hP hD hS (lv_sub hl [1, 2, 3, 4, 7] rfl) (by omega) (by omega)
          · have h := h.2 c0
            refine lv_iload hx hb dL_thought_251 (lv_at hl 7 rfl) ?_
            refine lv_if_eq (tgt := 275) hx hb dL_thought_253 (by decide) (fun c0 => ?_) (fun c0 => ?_)
            · have h := h.1 c0
              exact wB_275 x1_245 x2_245 x6_245 x7_245 x10_245 mr3_245 fr3_245 mr4_245 fr4_245 ar3_245 ar4_245 σ _ _ _ _ _ _ h hO hP hD hS (lv_sub hl [0, 1, 2, 3, 4, 5, 6, 8] rfl) (by omega) (by omega)
            · have h := h.2 c0
              refine lv_aload_n hx hb dL_thought_256 rfl (lv_at hl 0 rfl) ?_
              refine lv_iload hx hb dL_thought_257 (lv_at hl 8 rfl) ?_
              refine lv_iconst (v := 3) hx hb dL_thought_259 (by decide) ?_
              refine coI (vx_runSW (As := [.ref a0, .int x10_245, .int 3]) (rest := []) ⟨hx, hb, hml, hown, hta⟩ (oc_L_of l hl9 dC dI cT hO (P_r hP) ((D_r hD).weaken (fun _ _ _ _ => trivial))) (cW hta lm_L_186 mw_L_of ⟨(Nat.le_of_ble_eq_true rfl), (Nat.le_of_ble_eq_true rfl)⟩) ⟨fbU, fun U hU hW => ⟨rfl, hU, va_K.moved hW.alike hK, XS.call hX hS hU hW (freeO hD hS hA), hN.warm hW, ZS.call hZ hS hU hW (freeO hD hS hA), LT.call hT hS hU hW (freeO hD hS hA)⟩⟩ rfl rfl hl.1 rfl (lv_room (Nat.le_of_ble_eq_true rfl)) dL_thought_260 ⟨by show _ ≤ (507 : Nat); omega, by show _ ≤ (3312 : Nat); omega⟩) hS hA hP hD (fun r11 wo H locs hw hP hD hS => ?_)
              obtain ⟨hr9, hO⟩ := hw
              have h := h r11 hr9
              refine lv_aload hx hb dL_thought_263 (lv_at hl 4 rfl) ?_
              refine lv_iload hx hb dL_thought_265 (lv_at hl 8 rfl) ?_
              obtain ⟨hc, h⟩ := h
              refine va_iald hx hb hK hP 1 0 rfl rfl (inb_in hc) dL_thought_267 ?_
              refine lv_icmp_ne (tgt := 275) hx hb dL_thought_268 (by decide) (fun c0 => ?_) (fun c0 => ?_)
              · have h := h.2 c0
                exact wB_275 x1_245 x2_245 x6_245 x7_245 x10_245 mr3_245 fr3_245 mr4_245 fr4_245 ar3_245 ar4_245 σ _ _ _ _ _ _ h hO hP hD hS (lv_sub hl [0, 1, 2, 3, 4, 5, 6, 8] rfl) (by omega) (by omega)
              · have h := h.1 c0
                refine lv_iconst (v := 1) hx hb dL_thought_271 (by decide) ?_
                refine lv_goto (tgt := 276) hx hb dL_thought_272 (by decide) ?_
                exact wB_276 x1_245 x2_245 x6_245 x7_245 x10_245 (1 : Int32) mr3_245 fr3_245 mr4_245 fr4_245 ar3_245 ar4_245 σ _ _ _ _ _ _ h hO hP hD hS (lv_sub hl [0, 1, 2, 3, 4, 5, 6, 8] rfl) (by omega) (by omega)
      have wB_240 : ∀ (x1_240 : Int32) (x2_240 : Int32) (x6_240 : Int32) (x7_240 : Int32) (s0_240 : Int32) (mr3_240 : Nat) (fr3_240 : Nat → Int32) (mr4_240 : Nat) (fr4_240 : Nat → Int32) (ar3_240 : Nat) (ar4_240 : Nat) (σ : AB) (wo : va_W) (H : Heap) (locs : List Loc) (ls : Array Slot) (cells slots : Nat), wp_L_thought_b240 K (wp_L_thought_b8 K n_8) x1_240 x2_240 x6_240 x7_240 s0_240 mr3_240 fr3_240 mr4_240 fr4_240 σ → OB cT a0 σ wo → va_P (dC, dI) vwCl (([(ar3_240, .inl (cT 0, mr3_240, .inl fr3_240)), (ar4_240, .inl (cT 0, mr4_240, .inl fr4_240))] : va_W) ++ wo) H → va_D A (([(ar3_240, .inl (cT 0, mr3_240, .inl fr3_240)), (ar4_240, .inl (cT 0, mr4_240, .inl fr4_240))] : va_W) ++ wo) → va_S A s.heap H locs → lv_has ls 11 [(0, .ref a0), (1, .int x1_240), (2, .int x2_240), (3, .ref ar3_240), (4, .ref ar4_240), (6, .int x6_240), (7, .int x7_240)] → cells + (38 + n_8 * 99) ≤ 507 → slots + (228 + n_8 * 648) ≤ 3312 → W p l e ({ frames := 34, cells := 507, slots := 3312, locals := 920 } : Room) s m [.ref a0].toArray below meth c H locs cells slots Q (F0 m 240 ls [.int s0_240]) := by
        intro x1_240 x2_240 x6_240 x7_240 s0_240 mr3_240 fr3_240 mr4_240 fr4_240 ar3_240 ar4_240 σ wo H locs ls cells slots h hO hP hD hS hl hc1 hc2
        unfold wp_L_thought_b240 at h
        refine lv_istore (lv' := [(9, .int s0_240), (0, .ref a0), (1, .int x1_240), (2, .int x2_240), (3, .ref ar3_240), (4, .ref ar4_240), (6, .int x6_240), (7, .int x7_240)]) hx hb dL_thought_240 hl (by decide) rfl (fun ls hl => ?_)
        refine lv_iconst (v := 0) hx hb dL_thought_242 (by decide) ?_
        refine lv_istore (lv' := [(10, .int 0), (9, .int s0_240), (0, .ref a0), (1, .int x1_240), (2, .int x2_240), (3, .ref ar3_240), (4, .ref ar4_240), (6, .int x6_240), (7, .int x7_240)]) hx hb dL_thought_243 hl (by decide) rfl (fun ls hl => ?_)
        exact wB_245 7 x1_240 x2_240 x6_240 x7_240 s0_240 (0 : Int32) mr3_240 fr3_240 mr4_240 fr4_240 ar3_240 ar4_240 σ _ _ _ _ _ _ h hO hP hD hS (lv_sub hl [2, 3, 4, 5, 6, 7, 8, 1, 0] rfl) (by omega) (by omega)
      have wB_239 : ∀ (x1_239 : Int32) (x2_239 : Int32) (x6_239 : Int32) (x7_239 : Int32) (mr3_239 : Nat) (fr3_239 : Nat → Int32) (mr4_239 : Nat) (fr4_239 : Nat → Int32) (ar3_239 : Nat) (ar4_239 : Nat) (σ : AB) (wo : va_W) (H : Heap) (locs : List Loc) (ls : Array Slot) (cells slots : Nat), wp_L_thought_b239 K (wp_L_thought_b8 K n_8) x1_239 x2_239 x6_239 x7_239 mr3_239 fr3_239 mr4_239 fr4_239 σ → OB cT a0 σ wo → va_P (dC, dI) vwCl (([(ar3_239, .inl (cT 0, mr3_239, .inl fr3_239)), (ar4_239, .inl (cT 0, mr4_239, .inl fr4_239))] : va_W) ++ wo) H → va_D A (([(ar3_239, .inl (cT 0, mr3_239, .inl fr3_239)), (ar4_239, .inl (cT 0, mr4_239, .inl fr4_239))] : va_W) ++ wo) → va_S A s.heap H locs → lv_has ls 11 [(0, .ref a0), (1, .int x1_239), (2, .int x2_239), (3, .ref ar3_239), (4, .ref ar4_239), (6, .int x6_239), (7, .int x7_239)] → cells + (38 + n_8 * 99) ≤ 507 → slots + (228 + n_8 * 648) ≤ 3312 → W p l e ({ frames := 34, cells := 507, slots := 3312, locals := 920 } : Room) s m [.ref a0].toArray below meth c H locs cells slots Q (F0 m 239 ls []) := by
        intro x1_239 x2_239 x6_239 x7_239 mr3_239 fr3_239 mr4_239 fr4_239 ar3_239 ar4_239 σ wo H locs ls cells slots h hO hP hD hS hl hc1 hc2
        unfold wp_L_thought_b239 at h
        refine lv_iconst (v := 0) hx hb dL_thought_239 (by decide) ?_
        exact wB_240 x1_239 x2_239 x6_239 x7_239 (0 : Int32) mr3_239 fr3_239 mr4_239 fr4_239 ar3_239 ar4_239 σ _ _ _ _ _ _ h hO hP hD hS (lv_sub hl [0, 1, 2, 3, 4, 5, 6] rfl) (by omega) (by omega)
      have wB_222 : ∀ (x1_222 : Int32) (x2_222 : Int32) (x6_222 : Int32) (x7_222 : Int32) (s0_222 : Int32) (s1_222 : Int32) (mr3_222 : Nat) (fr3_222 : Nat → Int32) (mr4_222 : Nat) (fr4_222 : Nat → Int32) (ar3_222 : Nat) (ar4_222 : Nat) (σ : AB) (wo : va_W) (H : Heap) (locs : List Loc) (ls : Array Slot) (cells slots : Nat), wp_L_thought_b222 K (wp_L_thought_b8 K n_8) x1_222 x2_222 x6_222 x7_222 s0_222 s1_222 mr3_222 fr3_222 mr4_222 fr4_222 σ → OB cT a0 σ wo → va_P (dC, dI) vwCl (([(ar3_222, .inl (cT 0, mr3_222, .inl fr3_222)), (ar4_222, .inl (cT 0, mr4_222, .inl fr4_222))] : va_W) ++ wo) H → va_D A (([(ar3_222, .inl (cT 0, mr3_222, .inl fr3_222)), (ar4_222, .inl (cT 0, mr4_222, .inl fr4_222))] : va_W) ++ wo) → va_S A s.heap H locs → lv_has ls 11 [(0, .ref a0), (1, .int x1_222), (2, .int x2_222), (3, .ref ar3_222), (4, .ref ar4_222), (6, .int x6_222), (7, .int x7_222)] → cells + (40 + n_8 * 99) ≤ 507 → slots + (240 + n_8 * 648) ≤ 3312 → W p l e ({ frames := 34, cells := 507, slots := 3312, locals := 920 } : Room) s m [.ref a0].toArray below meth c H locs cells slots Q (F0 m 222 ls [.int s0_222, .int s1_222]) := by
        intro x1_222 x2_222 x6_222 x7_222 s0_222 s1_222 mr3_222 fr3_222 mr4_222 fr4_222 ar3_222 ar4_222 σ wo H locs ls cells slots h hO hP hD hS hl hc1 hc2
        unfold wp_L_thought_b222 at h
        refine lv_icmp_ne (tgt := 239) hx hb dL_thought_222 (by decide) (fun c0 => ?_) (fun c0 => ?_)
        · have h := h.2 c0
          exact wB_239 x1_222 x2_222 x6_222 x7_222 mr3_222 fr3_222 mr4_222 fr4_222 ar3_222 ar4_222 σ _ _ _ _ _ _ h hO hP hD hS (lv_sub hl [0, 1, 2, 3, 4, 5, 6] rfl) (by omega) (by omega)
        · have h := h.1 c0
          refine lv_aload_n hx hb dL_thought_225 rfl (lv_at hl 0 rfl) ?_
          refine lv_iload_n hx hb dL_thought_226 rfl (lv_at hl 2 rfl) ?_
          refine lv_iconst (v := 4) hx hb dL_thought_227 (by decide) ?_
          refine coI (vx_runSW (As := [.ref a0, .int x2_222, .int 4]) (rest := []) ⟨hx, hb, hml, hown, hta⟩ (oc_L_spellOf l hl9 dC dI cT hO (P_r hP) ((D_r hD).weaken (fun _ _ _ _ => trivial))) (cW hta lm_L_247 mw_L_spellOf ⟨(Nat.le_of_ble_eq_true rfl), (Nat.le_of_ble_eq_true rfl)⟩) ⟨fbU, fun U hU hW => ⟨rfl, hU, va_K.moved hW.alike hK, XS.call hX hS hU hW (freeO hD hS hA), hN.warm hW, ZS.call hZ hS hU hW (freeO hD hS hA), LT.call hT hS hU hW (freeO hD hS hA)⟩⟩ rfl rfl hl.1 rfl (lv_room (Nat.le_of_ble_eq_true rfl)) dL_thought_228 ⟨by show _ ≤ (507 : Nat); omega, by show _ ≤ (3312 : Nat); omega⟩) hS hA hP hD (fun r12 wo H locs hw hP hD hS => ?_)
          obtain ⟨hr9, hO⟩ := hw
          have h := h r12 hr9
          refine lv_iconst (v := 1) hx hb dL_thought_231 (by decide) ?_
          refine lv_icmp_ne (tgt := 239) hx hb dL_thought_232 (by decide) (fun c0 => ?_) (fun c0 => ?_)
          · have h := h.2 c0
            exact wB_239 x1_222 x2_222 x6_222 x7_222 mr3_222 fr3_222 mr4_222 fr4_222 ar3_222 ar4_222 σ _ _ _ _ _ _ h hO hP hD hS (lv_sub hl [0, 1, 2, 3, 4, 5, 6] rfl) (by omega) (by omega)
          · have h := h.1 c0
            refine lv_iconst (v := 1) hx hb dL_thought_235 (by decide) ?_
            refine lv_goto (tgt := 240) hx hb dL_thought_236 (by decide) ?_
            exact wB_240 x1_222 x2_222 x6_222 x7_222 (1 : Int32) mr3_222 fr3_222 mr4_222 fr4_222 ar3_222 ar4_222 σ _ _ _ _ _ _ h hO hP hD hS (lv_sub hl [0, 1, 2, 3, 4, 5, 6] rfl) (by omega) (by omega)
      have wB_212 : ∀ (x1_212 : Int32) (x2_212 : Int32) (x6_212 : Int32) (x7_212 : Int32) (s0_212 : Int32) (mr3_212 : Nat) (fr3_212 : Nat → Int32) (mr4_212 : Nat) (fr4_212 : Nat → Int32) (ar3_212 : Nat) (ar4_212 : Nat) (σ : AB) (wo : va_W) (H : Heap) (locs : List Loc) (ls : Array Slot) (cells slots : Nat), wp_L_thought_b212 K (wp_L_thought_b8 K n_8) x1_212 x2_212 x6_212 x7_212 s0_212 mr3_212 fr3_212 mr4_212 fr4_212 σ → OB cT a0 σ wo → va_P (dC, dI) vwCl (([(ar3_212, .inl (cT 0, mr3_212, .inl fr3_212)), (ar4_212, .inl (cT 0, mr4_212, .inl fr4_212))] : va_W) ++ wo) H → va_D A (([(ar3_212, .inl (cT 0, mr3_212, .inl fr3_212)), (ar4_212, .inl (cT 0, mr4_212, .inl fr4_212))] : va_W) ++ wo) → va_S A s.heap H locs → lv_has ls 11 [(0, .ref a0), (1, .int x1_212), (2, .int x2_212), (3, .ref ar3_212), (4, .ref ar4_212), (6, .int x6_212), (7, .int x7_212)] → cells + (40 + n_8 * 99) ≤ 507 → slots + (240 + n_8 * 648) ≤ 3312 → W p l e ({ frames := 34, cells := 507, slots := 3312, locals := 920 } : Room) s m [.ref a0].toArray below meth c H locs cells slots Q (F0 m 212 ls [.int s0_212]) := by
        intro x1_212 x2_212 x6_212 x7_212 s0_212 mr3_212 fr3_212 mr4_212 fr4_212 ar3_212 ar4_212 σ wo H locs ls cells slots h hO hP hD hS hl hc1 hc2
        unfold wp_L_thought_b212 at h
        refine lv_iload hx hb dL_thought_212 (lv_at hl 5 rfl) ?_
        refine lv_if_ne (tgt := 221) hx hb dL_thought_214 (by decide) (fun c0 => ?_) (fun c0 => ?_)
        · have h := h.2 c0
          refine lv_iconst (v := 0) hx hb dL_thought_221 (by decide) ?_
          exact wB_222 x1_212 x2_212 x6_212 x7_212 (0 : Int32) s0_212 mr3_212 fr3_212 mr4_212 fr4_212 ar3_212 ar4_212 σ _ _ _ _ _ _ h hO hP hD hS (lv_sub hl [0, 1, 2, 3, 4, 5, 6] rfl) (by omega) (by omega)
        · have h := h.1 c0
          refine lv_iconst (v := 1) hx hb dL_thought_217 (by decide) ?_
          refine lv_goto (tgt := 222) hx hb dL_thought_218 (by decide) ?_
          exact wB_222 x1_212 x2_212 x6_212 x7_212 (1 : Int32) s0_212 mr3_212 fr3_212 mr4_212 fr4_212 ar3_212 ar4_212 σ _ _ _ _ _ _ h hO hP hD hS (lv_sub hl [0, 1, 2, 3, 4, 5, 6] rfl) (by omega) (by omega)
      have wB_177 : ∀ (x1_177 : Int32) (x2_177 : Int32) (s0_177 : Int32) (σ : AB) (wo : va_W) (H : Heap) (locs : List Loc) (ls : Array Slot) (cells slots : Nat), wp_L_thought_b177 K (wp_L_thought_b8 K n_8) x1_177 x2_177 s0_177 σ → OB cT a0 σ wo → va_P (dC, dI) vwCl (([] : va_W) ++ wo) H → va_D A (([] : va_W) ++ wo) → va_S A s.heap H locs → lv_has ls 11 [(0, .ref a0), (1, .int x1_177), (2, .int x2_177)] → cells + (11 + n_8 * 99) ≤ 507 → slots + (66 + n_8 * 648) ≤ 3312 → W p l e ({ frames := 34, cells := 507, slots := 3312, locals := 920 } : Room) s m [.ref a0].toArray below meth c H locs cells slots Q (F0 m 177 ls [.int s0_177]) := by
        intro x1_177 x2_177 s0_177 σ wo H locs ls cells slots h hO hP hD hS hl hc1 hc2
        unfold wp_L_thought_b177 at h
        refine lv_istore (lv' := [(9, .int s0_177), (0, .ref a0), (1, .int x1_177), (2, .int x2_177)]) hx hb dL_thought_177 hl (by decide) rfl (fun ls hl => ?_)
        refine lv_iload hx hb dL_thought_179 (lv_at hl 0 rfl) ?_
        refine lv_if_ne (tgt := 186) hx hb dL_thought_181 (by decide) (fun c0 => ?_) (fun c0 => ?_)
        · have h := h.2 c0
          refine lv_goto (tgt := 378) hx hb dL_thought_186 (by decide) ?_
          exact wB_378 x1_177 x2_177 σ _ _ _ _ _ _ h hO hP hD hS (lv_sub hl [1, 2, 3] rfl) (by omega) (by omega)
        · have h := h.1 c0
          refine lv_iconst (v := 0) hx hb dL_thought_184 (by decide) ?_
          refine W.widen (k := 507) (n := 3312) (by omega) (by omega) ?_
          rw [hQ]
          exact W.zret (ty := .boolean) (v := 0) hx hb hr (bo_n (v := 0) rfl) (fun t ht hW => ⟨⟨0, wo, rfl, ⟨_, h, hO⟩, by rw [ht]; exact P_r hP, D_r hD⟩, hS.F ht⟩) hS.2.2 dL_thought_185
      have wB_176 : ∀ (x1_176 : Int32) (x2_176 : Int32) (σ : AB) (wo : va_W) (H : Heap) (locs : List Loc) (ls : Array Slot) (cells slots : Nat), wp_L_thought_b176 K (wp_L_thought_b8 K n_8) x1_176 x2_176 σ → OB cT a0 σ wo → va_P (dC, dI) vwCl (([] : va_W) ++ wo) H → va_D A (([] : va_W) ++ wo) → va_S A s.heap H locs → lv_has ls 11 [(0, .ref a0), (1, .int x1_176), (2, .int x2_176)] → cells + (11 + n_8 * 99) ≤ 507 → slots + (66 + n_8 * 648) ≤ 3312 → W p l e ({ frames := 34, cells := 507, slots := 3312, locals := 920 } : Room) s m [.ref a0].toArray below meth c H locs cells slots Q (F0 m 176 ls []) := by
        intro x1_176 x2_176 σ wo H locs ls cells slots h hO hP hD hS hl hc1 hc2
        unfold wp_L_thought_b176 at h
        refine lv_iconst (v := 0) hx hb dL_thought_176 (by decide) ?_
        exact wB_177 x1_176 x2_176 (0 : Int32) σ _ _ _ _ _ _ h hO hP hD hS (lv_sub hl [0, 1, 2] rfl) (by omega) (by omega)
      have wB_30 : ∀ (n_30 : Nat), ∀ (x1_30 : Int32) (x2_30 : Int32) (x5_30 : Int32) (mr3_30 : Nat) (fr3_30 : Nat → Int32) (mr4_30 : Nat) (fr4_30 : Nat → Int32) (ar3_30 : Nat) (ar4_30 : Nat) (σ : AB) (wo : va_W) (H : Heap) (locs : List Loc) (ls : Array Slot) (cells slots : Nat), wp_L_thought_b30 K (wp_L_thought_b8 K n_8) n_30 x1_30 x2_30 x5_30 mr3_30 fr3_30 mr4_30 fr4_30 σ → OB cT a0 σ wo → va_P (dC, dI) vwCl (([(ar3_30, .inl (cT 0, mr3_30, .inl fr3_30)), (ar4_30, .inl (cT 0, mr4_30, .inl fr4_30))] : va_W) ++ wo) H → va_D A (([(ar3_30, .inl (cT 0, mr3_30, .inl fr3_30)), (ar4_30, .inl (cT 0, mr4_30, .inl fr4_30))] : va_W) ++ wo) → va_S A s.heap H locs → lv_has ls 11 [(0, .ref a0), (1, .int x1_30), (2, .int x2_30), (3, .ref ar3_30), (4, .ref ar4_30), (5, .int x5_30)] → cells + (56 + n_8 * 99 + n_30 * 6) ≤ 507 → slots + (336 + n_8 * 648 + n_30 * 36) ≤ 3312 → W p l e ({ frames := 34, cells := 507, slots := 3312, locals := 920 } : Room) s m [.ref a0].toArray below meth c H locs cells slots Q (F0 m 30 ls []) := by
        intro n_30
        induction n_30 with
        | zero =>
          intro x1_30 x2_30 x5_30 mr3_30 fr3_30 mr4_30 fr4_30 ar3_30 ar4_30 σ wo H locs ls cells slots h hO hP hD hS hl hc1 hc2
          exact False.elim h
        | succ n_30 ih_30 =>
          intro x1_30 x2_30 x5_30 mr3_30 fr3_30 mr4_30 fr4_30 ar3_30 ar4_30 σ wo H locs ls cells slots h hO hP hD hS hl hc1 hc2
          rw [wp_L_thought_b30] at h
          refine lv_iload hx hb dL_thought_30 (lv_at hl 5 rfl) ?_
          refine lv_iload_n hx hb dL_thought_32 rfl (lv_at hl 1 rfl) ?_
          refine lv_icmp_ge (tgt := 71) hx hb dL_thought_33 (by decide) (fun c0 => ?_) (fun c0 => ?_)
          · have h := h.1 c0
            refine lv_aload_n hx hb dL_thought_71 rfl (lv_at hl 0 rfl) ?_
            refine lv_iload_n hx hb dL_thought_72 rfl (lv_at hl 2 rfl) ?_
            refine coI (vx_runSW (As := [.ref a0, .int x2_30]) (rest := []) ⟨hx, hb, hml, hown, hta⟩ (oc_L_boils l hl9 dC dI cT hO (P_r hP) ((D_r hD).weaken (fun _ _ _ _ => trivial))) (cW hta lm_L_258 mw_L_boils ⟨(Nat.le_of_ble_eq_true rfl), (Nat.le_of_ble_eq_true rfl)⟩) ⟨fbU, fun U hU hW => ⟨rfl, hU, va_K.moved hW.alike hK, XS.call hX hS hU hW (freeO hD hS hA), hN.warm hW, ZS.call hZ hS hU hW (freeO hD hS hA), LT.call hT hS hU hW (freeO hD hS hA)⟩⟩ rfl rfl hl.1 rfl (lv_room (Nat.le_of_ble_eq_true rfl)) dL_thought_73 ⟨by show _ ≤ (507 : Nat); omega, by show _ ≤ (3312 : Nat); omega⟩) hS hA hP hD (fun r13 wo H locs hw hP hD hS => ?_)
            obtain ⟨hr9, hO⟩ := hw
            have h := h r13 hr9
            refine lv_istore (lv' := [(5, .int r13), (0, .ref a0), (1, .int x1_30), (2, .int x2_30), (3, .ref ar3_30), (4, .ref ar4_30)]) hx hb dL_thought_76 hl (by decide) rfl (fun ls hl => ?_)
            refine lv_aload_n hx hb dL_thought_78 rfl (lv_at hl 1 rfl) ?_
            refine lv_iload_n hx hb dL_thought_79 rfl (lv_at hl 3 rfl) ?_
            refine coI (vx_runSW (As := [.ref a0, .int x2_30]) (rest := []) ⟨hx, hb, hml, hown, hta⟩ (oc_L_lasts l hl9 dC dI cT hO (P_r hP) ((D_r hD).weaken (fun _ _ _ _ => trivial))) (cW hta lm_L_276 mw_L_lasts ⟨(Nat.le_of_ble_eq_true rfl), (Nat.le_of_ble_eq_true rfl)⟩) ⟨fbU, fun U hU hW => ⟨rfl, hU, va_K.moved hW.alike hK, XS.call hX hS hU hW (freeO hD hS hA), hN.warm hW, ZS.call hZ hS hU hW (freeO hD hS hA), LT.call hT hS hU hW (freeO hD hS hA)⟩⟩ rfl rfl hl.1 rfl (lv_room (Nat.le_of_ble_eq_true rfl)) dL_thought_80 ⟨by show _ ≤ (507 : Nat); omega, by show _ ≤ (3312 : Nat); omega⟩) hS hA hP hD (fun r14 wo H locs hw hP hD hS => ?_)
            obtain ⟨hr9, hO⟩ := hw
            have h := h r14 hr9
            refine lv_istore (lv' := [(6, .int r14), (5, .int r13), (0, .ref a0), (1, .int x1_30), (2, .int x2_30), (3, .ref ar3_30), (4, .ref ar4_30)]) hx hb dL_thought_83 hl (by decide) rfl (fun ls hl => ?_)
            refine lv_aload_n hx hb dL_thought_85 rfl (lv_at hl 2 rfl) ?_
            refine lv_bipush (v := 6) hx hb dL_thought_86 (by decide) ?_
            obtain ⟨hq, h⟩ := h
            refine coI (va_runV (As := [.int 6]) (rest := []) ⟨hx, hb, hml, hown, hta⟩ (oc_X11_account l hl9 dC dI cT hO hq (P_r hP) ((D_r hD).weaken (fun _ _ _ _ => trivial))) (cV hta lm_L_229 md_X11_account ⟨(Nat.le_of_ble_eq_true rfl), (Nat.le_of_ble_eq_true rfl)⟩) ⟨fbU, recvO hK hO (P_r hP), fun U hU hW => ⟨rfl, hU, va_K.moved hW.alike hK, XS.call hX hS hU hW (freeO hD hS hA), hN.warm hW, ZS.call hZ hS hU hW (freeO hD hS hA), LT.call hT hS hU hW (freeO hD hS hA)⟩⟩ rfl rfl hl.1 rfl (lv_room (Nat.le_of_ble_eq_true rfl)) dL_thought_88 ⟨by show _ ≤ (507 : Nat); omega, by show _ ≤ (3312 : Nat); omega⟩) hS hA hP hD (fun r15 wo H locs hw hP hD hS => ?_)
            obtain ⟨hr9, hO⟩ := hw
            have h := h r15 hr9
            refine lv_istore (lv' := [(7, .int r15), (6, .int r14), (5, .int r13), (0, .ref a0), (1, .int x1_30), (2, .int x2_30), (3, .ref ar3_30), (4, .ref ar4_30)]) hx hb dL_thought_91 hl (by decide) rfl (fun ls hl => ?_)
            refine lv_aload_n hx hb dL_thought_93 rfl (lv_at hl 3 rfl) ?_
            refine lv_iload_n hx hb dL_thought_94 rfl (lv_at hl 5 rfl) ?_
            refine coI (vx_runSW (As := [.ref a0, .int x2_30]) (rest := []) ⟨hx, hb, hml, hown, hta⟩ (oc_L_cook l hl9 dC dI cT hO (P_r hP) ((D_r hD).weaken (fun _ _ _ _ => trivial))) (cW hta lm_L_278 mw_L_cook ⟨(Nat.le_of_ble_eq_true rfl), (Nat.le_of_ble_eq_true rfl)⟩) ⟨fbU, fun U hU hW => ⟨rfl, hU, va_K.moved hW.alike hK, XS.call hX hS hU hW (freeO hD hS hA), hN.warm hW, ZS.call hZ hS hU hW (freeO hD hS hA), LT.call hT hS hU hW (freeO hD hS hA)⟩⟩ rfl rfl hl.1 rfl (lv_room (Nat.le_of_ble_eq_true rfl)) dL_thought_95 ⟨by show _ ≤ (507 : Nat); omega, by show _ ≤ (3312 : Nat); omega⟩) hS hA hP hD (fun r16 wo H locs hw hP hD hS => ?_)
            obtain ⟨σ17, hr9, hO⟩ := hw
            have h := h r16 σ17 hr9 (OB_gok hO)
            refine lv_istore (lv' := [(8, .int r16), (7, .int r15), (6, .int r14), (5, .int r13), (0, .ref a0), (1, .int x1_30), (2, .int x2_30), (3, .ref ar3_30), (4, .ref ar4_30)]) hx hb dL_thought_98 hl (by decide) rfl (fun ls hl => ?_)
            refine lv_iload hx hb dL_thought_100 (lv_at hl 3 rfl) ?_
            refine lv_if_lt (tgt := 189) hx hb dL_thought_102 (by decide) (fun c0 => ?_) (fun c0 => ?_)
            · have h := h.1 c0
              refine lv_iload hx hb dL_thought_189 (lv_at hl 0 rfl) ?_
              refine lv_aload_n hx hb dL_thought_191 rfl (lv_at hl 7 rfl) ?_
              refine lv_aload_n hx hb dL_thought_192 rfl (lv_at hl 4 rfl) ?_
              refine coA (va_runS (As := [.ref a0]) (rest := [.ref ar3_30, .int r16]) ⟨hx, hb, hml, hown, hta⟩ (lc_L_bits l hl9 dC dI cT h hO (P_r hP) ((D_r hD).weaken (fun _ _ _ _ => trivial))) (cS hta lm_L_269 md_L_bits ⟨(Nat.le_of_ble_eq_true rfl), (Nat.le_of_ble_eq_true rfl)⟩) ⟨fbU, fun U hU hW => ⟨rfl, hU, va_K.moved hW.alike hK, XS.call hX hS hU hW (freeO hD hS hA), hN.warm hW, ZS.call hZ hS hU hW (freeO hD hS hA), LT.call hT hS hU hW (freeO hD hS hA)⟩⟩ rfl rfl hl.1 rfl (lv_room (Nat.le_of_ble_eq_true rfl)) dL_thought_193 ⟨by show _ ≤ (507 : Nat); omega, by show _ ≤ (3312 : Nat); omega⟩) hS hA hP hD (fun nq193_19 fq193_19 wo aq193_19 H locs hw hP hD hS => ?_)
              obtain ⟨σ18, h, hO⟩ := hw
              have hP : va_P (dC, dI) vwCl (([(ar3_30, .inl (cT 0, mr3_30, .inl fr3_30)), (ar4_30, .inl (cT 0, mr4_30, .inl fr4_30)), (aq193_19, .inl (cT 0, nq193_19, .inl fq193_19))] : va_W) ++ wo) H := hP
              have hD : va_D A (([(ar3_30, .inl (cT 0, mr3_30, .inl fr3_30)), (ar4_30, .inl (cT 0, mr4_30, .inl fr4_30)), (aq193_19, .inl (cT 0, nq193_19, .inl fq193_19))] : va_W) ++ wo) := hD
              have hP9 : va_P (dC, dI) vwCl (([(ar4_30, .inl (cT 0, mr4_30, .inl fr4_30))] : va_W) ++ (([(ar3_30, .inl (cT 0, mr3_30, .inl fr3_30)), (aq193_19, .inl (cT 0, nq193_19, .inl fq193_19))] : va_W) ++ wo)) H := P_xc hP [1, 0, 2] rfl
              have hD9 : va_D A (([(ar4_30, .inl (cT 0, mr4_30, .inl fr4_30))] : va_W) ++ (([(ar3_30, .inl (cT 0, mr3_30, .inl fr3_30)), (aq193_19, .inl (cT 0, nq193_19, .inl fq193_19))] : va_W) ++ wo)) := D_xc hD [1, 0, 2] (by decide) rfl
              refine coI (va_runS (As := [.ref ar3_30, .ref aq193_19]) (rest := [.int r16]) ⟨hx, hb, hml, hown, hta⟩ (lc_L_unlike l hl9 dC dI cT h hO (P_r hP9) ((D_r hD9).weaken (fun _ _ _ _ => trivial))) (cS hta lm_L_280 md_L_unlike ⟨(Nat.le_of_ble_eq_true rfl), (Nat.le_of_ble_eq_true rfl)⟩) ⟨fbU, fun U hU hW => ⟨rfl, hU, va_K.moved hW.alike hK, XS.call hX hS hU hW (freeO hD9 hS hA), hN.warm hW, ZS.call hZ hS hU hW (freeO hD9 hS hA), LT.call hT hS hU hW (freeO hD9 hS hA)⟩⟩ rfl rfl hl.1 rfl (lv_room (Nat.le_of_ble_eq_true rfl)) dL_thought_196 ⟨by show _ ≤ (507 : Nat); omega, by show _ ≤ (3312 : Nat); omega⟩) hS hA hP9 hD9 (fun r21 W9 H locs hw hP hD hS => ?_)
              obtain ⟨wo, rfl, σ20, h, hO⟩ := hw
              have hP := P_as hP
              have hD := D_as hD
              have hP : va_P (dC, dI) vwCl (([(ar4_30, .inl (cT 0, mr4_30, .inl fr4_30)), (ar3_30, .inl (cT 0, mr3_30, .inl fr3_30)), (aq193_19, .inl (cT 0, nq193_19, .inl fq193_19))] : va_W) ++ wo) H := hP
              have hD : va_D A (([(ar4_30, .inl (cT 0, mr4_30, .inl fr4_30)), (ar3_30, .inl (cT 0, mr3_30, .inl fr3_30)), (aq193_19, .inl (cT 0, nq193_19, .inl fq193_19))] : va_W) ++ wo) := hD
              refine lv_icmp_ne (tgt := 239) hx hb dL_thought_199 (by decide) (fun c0 => ?_) (fun c0 => ?_)
              · have h := h.2 c0
                have hP := P_perm (X' := ([(ar3_30, .inl (cT 0, mr3_30, .inl fr3_30)), (ar4_30, .inl (cT 0, mr4_30, .inl fr4_30))] : va_W)) hP [1, 0] rfl
                have hD := D_perm (X' := ([(ar3_30, .inl (cT 0, mr3_30, .inl fr3_30)), (ar4_30, .inl (cT 0, mr4_30, .inl fr4_30))] : va_W)) hD [1, 0] (by decide) rfl
                exact wB_239 x1_30 x2_30 r14 r15 mr3_30 fr3_30 mr4_30 fr4_30 ar3_30 ar4_30 σ20 _ _ _ _ _ _ h hO hP hD hS (lv_sub hl [4, 5, 6, 7, 8, 2, 1] rfl) (by omega) (by omega)
              · have h := h.1 c0
                refine lv_iload hx hb dL_thought_202 (lv_at hl 0 rfl) ?_
                refine lv_if_ne (tgt := 211) hx hb dL_thought_204 (by decide) (fun c0 => ?_) (fun c0 => ?_)
                · have h := h.2 c0
                  refine lv_iconst (v := 0) hx hb dL_thought_211 (by decide) ?_
                  have hP := P_perm (X' := ([(ar3_30, .inl (cT 0, mr3_30, .inl fr3_30)), (ar4_30, .inl (cT 0, mr4_30, .inl fr4_30))] : va_W)) hP [1, 0] rfl
                  have hD := D_perm (X' := ([(ar3_30, .inl (cT 0, mr3_30, .inl fr3_30)), (ar4_30, .inl (cT 0, mr4_30, .inl fr4_30))] : va_W)) hD [1, 0] (by decide) rfl
                  exact wB_212 x1_30 x2_30 r14 r15 (0 : Int32) mr3_30 fr3_30 mr4_30 fr4_30 ar3_30 ar4_30 σ20 _ _ _ _ _ _ h hO hP hD hS (lv_sub hl [4, 5, 6, 7, 8, 2, 1] rfl) (by omega) (by omega)
                · have h := h.1 c0
                  refine lv_iconst (v := 1) hx hb dL_thought_207 (by decide) ?_
                  refine lv_goto (tgt := 212) hx hb dL_thought_208 (by decide) ?_
                  have hP := P_perm (X' := ([(ar3_30, .inl (cT 0, mr3_30, .inl fr3_30)), (ar4_30, .inl (cT 0, mr4_30, .inl fr4_30))] : va_W)) hP [1, 0] rfl
                  have hD := D_perm (X' := ([(ar3_30, .inl (cT 0, mr3_30, .inl fr3_30)), (ar4_30, .inl (cT 0, mr4_30, .inl fr4_30))] : va_W)) hD [1, 0] (by decide) rfl
                  exact wB_212 x1_30 x2_30 r14 r15 (1 : Int32) mr3_30 fr3_30 mr4_30 fr4_30 ar3_30 ar4_30 σ20 _ _ _ _ _ _ h hO hP hD hS (lv_sub hl [4, 5, 6, 7, 8, 2, 1] rfl) (by omega) (by omega)
            · have h := h.2 c0
              refine lv_iload hx hb dL_thought_105 (lv_at hl 0 rfl) ?_
              refine lv_bipush (v := -2) hx hb dL_thought_107 (by decide) ?_
              refine lv_icmp_ne (tgt := 176) hx hb dL_thought_109 (by decide) (fun c0 => ?_) (fun c0 => ?_)
              · have h := h.2 c0
                have hP := P_perm (X' := ([] : va_W)) hP [] rfl
                have hD := D_perm (X' := ([] : va_W)) hD [] (by decide) rfl
                exact wB_176 x1_30 x2_30 σ17 _ _ _ _ _ _ h hO hP hD hS (lv_sub hl [4, 5, 6] rfl) (by omega) (by omega)
              · have h := h.1 c0
                refine lv_aload hx hb dL_thought_112 (lv_at hl 8 rfl) ?_
                refine lv_iconst (v := 0) hx hb dL_thought_114 (by decide) ?_
                obtain ⟨hc, h⟩ := h
                refine va_iald hx hb hK hP 1 0 rfl rfl (inb_in hc) dL_thought_115 ?_
                refine lv_ldc (v := -100004) hx hb hown (hta _ kc_L_84) dL_thought_116 ?_
                refine lv_icmp_ne (tgt := 176) hx hb dL_thought_118 (by decide) (fun c0 => ?_) (fun c0 => ?_)
                · have h := h.2 c0
                  have hP := P_perm (X' := ([] : va_W)) hP [] rfl
                  have hD := D_perm (X' := ([] : va_W)) hD [] (by decide) rfl
                  exact wB_176 x1_30 x2_30 σ17 _ _ _ _ _ _ h hO hP hD hS (lv_sub hl [4, 5, 6] rfl) (by omega) (by omega)
                · have h := h.1 c0
                  refine lv_iload hx hb dL_thought_121 (lv_at hl 2 rfl) ?_
                  refine lv_if_ne (tgt := 176) hx hb dL_thought_123 (by decide) (fun c0 => ?_) (fun c0 => ?_)
                  · have h := h.2 c0
                    have hP := P_perm (X' := ([] : va_W)) hP [] rfl
                    have hD := D_perm (X' := ([] : va_W)) hD [] (by decide) rfl
                    exact wB_176 x1_30 x2_30 σ17 _ _ _ _ _ _ h hO hP hD hS (lv_sub hl [4, 5, 6] rfl) (by omega) (by omega)
                  · have h := h.1 c0
                    refine lv_aload_n hx hb dL_thought_126 rfl (lv_at hl 7 rfl) ?_
                    refine lv_aload_n hx hb dL_thought_127 rfl (lv_at hl 4 rfl) ?_
                    refine coA (va_runS (As := [.ref a0]) (rest := [.ref ar3_30]) ⟨hx, hb, hml, hown, hta⟩ (lc_L_bits l hl9 dC dI cT h hO (P_r hP) ((D_r hD).weaken (fun _ _ _ _ => trivial))) (cS hta lm_L_269 md_L_bits ⟨(Nat.le_of_ble_eq_true rfl), (Nat.le_of_ble_eq_true rfl)⟩) ⟨fbU, fun U hU hW => ⟨rfl, hU, va_K.moved hW.alike hK, XS.call hX hS hU hW (freeO hD hS hA), hN.warm hW, ZS.call hZ hS hU hW (freeO hD hS hA), LT.call hT hS hU hW (freeO hD hS hA)⟩⟩ rfl rfl hl.1 rfl (lv_room (Nat.le_of_ble_eq_true rfl)) dL_thought_128 ⟨by show _ ≤ (507 : Nat); omega, by show _ ≤ (3312 : Nat); omega⟩) hS hA hP hD (fun nq128_23 fq128_23 wo aq128_23 H locs hw hP hD hS => ?_)
                    obtain ⟨σ22, h, hO⟩ := hw
                    have hP : va_P (dC, dI) vwCl (([(ar3_30, .inl (cT 0, mr3_30, .inl fr3_30)), (ar4_30, .inl (cT 0, mr4_30, .inl fr4_30)), (aq128_23, .inl (cT 0, nq128_23, .inl fq128_23))] : va_W) ++ wo) H := hP
                    have hD : va_D A (([(ar3_30, .inl (cT 0, mr3_30, .inl fr3_30)), (ar4_30, .inl (cT 0, mr4_30, .inl fr4_30)), (aq128_23, .inl (cT 0, nq128_23, .inl fq128_23))] : va_W) ++ wo) := hD
                    have hP9 : va_P (dC, dI) vwCl (([(ar4_30, .inl (cT 0, mr4_30, .inl fr4_30))] : va_W) ++ (([(ar3_30, .inl (cT 0, mr3_30, .inl fr3_30)), (aq128_23, .inl (cT 0, nq128_23, .inl fq128_23))] : va_W) ++ wo)) H := P_xc hP [1, 0, 2] rfl
                    have hD9 : va_D A (([(ar4_30, .inl (cT 0, mr4_30, .inl fr4_30))] : va_W) ++ (([(ar3_30, .inl (cT 0, mr3_30, .inl fr3_30)), (aq128_23, .inl (cT 0, nq128_23, .inl fq128_23))] : va_W) ++ wo)) := D_xc hD [1, 0, 2] (by decide) rfl
                    refine coI (va_runS (As := [.ref ar3_30, .ref aq128_23]) (rest := []) ⟨hx, hb, hml, hown, hta⟩ (lc_L_unlike l hl9 dC dI cT h hO (P_r hP9) ((D_r hD9).weaken (fun _ _ _ _ => trivial))) (cS hta lm_L_280 md_L_unlike ⟨(Nat.le_of_ble_eq_true rfl), (Nat.le_of_ble_eq_true rfl)⟩) ⟨fbU, fun U hU hW => ⟨rfl, hU, va_K.moved hW.alike hK, XS.call hX hS hU hW (freeO hD9 hS hA), hN.warm hW, ZS.call hZ hS hU hW (freeO hD9 hS hA), LT.call hT hS hU hW (freeO hD9 hS hA)⟩⟩ rfl rfl hl.1 rfl (lv_room (Nat.le_of_ble_eq_true rfl)) dL_thought_131 ⟨by show _ ≤ (507 : Nat); omega, by show _ ≤ (3312 : Nat); omega⟩) hS hA hP9 hD9 (fun r25 W9 H locs hw hP hD hS => ?_)
                    obtain ⟨wo, rfl, σ24, h, hO⟩ := hw
                    have hP := P_as hP
                    have hD := D_as hD
                    have hP : va_P (dC, dI) vwCl (([(ar4_30, .inl (cT 0, mr4_30, .inl fr4_30)), (ar3_30, .inl (cT 0, mr3_30, .inl fr3_30)), (aq128_23, .inl (cT 0, nq128_23, .inl fq128_23))] : va_W) ++ wo) H := hP
                    have hD : va_D A (([(ar4_30, .inl (cT 0, mr4_30, .inl fr4_30)), (ar3_30, .inl (cT 0, mr3_30, .inl fr3_30)), (aq128_23, .inl (cT 0, nq128_23, .inl fq128_23))] : va_W) ++ wo) := hD
                    refine lv_if_ne (tgt := 176) hx hb dL_thought_134 (by decide) (fun c0 => ?_) (fun c0 => ?_)
                    · have h := h.2 c0
                      have hP := P_perm (X' := ([] : va_W)) hP [] rfl
                      have hD := D_perm (X' := ([] : va_W)) hD [] (by decide) rfl
                      exact wB_176 x1_30 x2_30 σ24 _ _ _ _ _ _ h hO hP hD hS (lv_sub hl [4, 5, 6] rfl) (by omega) (by omega)
                    · have h := h.1 c0
                      refine lv_aload_n hx hb dL_thought_137 rfl (lv_at hl 4 rfl) ?_
                      refine lv_bipush (v := 6) hx hb dL_thought_138 (by decide) ?_
                      obtain ⟨hq, h⟩ := h
                      refine coI (va_runV (As := [.int 6]) (rest := []) ⟨hx, hb, hml, hown, hta⟩ (oc_X11_account l hl9 dC dI cT hO hq (P_r hP) ((D_r hD).weaken (fun _ _ _ _ => trivial))) (cV hta lm_L_229 md_X11_account ⟨(Nat.le_of_ble_eq_true rfl), (Nat.le_of_ble_eq_true rfl)⟩) ⟨fbU, recvO hK hO (P_r hP), fun U hU hW => ⟨rfl, hU, va_K.moved hW.alike hK, XS.call hX hS hU hW (freeO hD hS hA), hN.warm hW, ZS.call hZ hS hU hW (freeO hD hS hA), LT.call hT hS hU hW (freeO hD hS hA)⟩⟩ rfl rfl hl.1 rfl (lv_room (Nat.le_of_ble_eq_true rfl)) dL_thought_140 ⟨by show _ ≤ (507 : Nat); omega, by show _ ≤ (3312 : Nat); omega⟩) hS hA hP hD (fun r26 wo H locs hw hP hD hS => ?_)
                      obtain ⟨hr9, hO⟩ := hw
                      have h := h r26 hr9
                      refine lv_iload hx hb dL_thought_143 (lv_at hl 1 rfl) ?_
                      refine lv_iconst (v := 1) hx hb dL_thought_145 (by decide) ?_
                      refine lv_iadd hx hb dL_thought_146 ?_
                      refine lv_icmp_ne (tgt := 176) hx hb dL_thought_147 (by decide) (fun c0 => ?_) (fun c0 => ?_)
                      · have h := h.2 c0
                        have hP := P_perm (X' := ([] : va_W)) hP [] rfl
                        have hD := D_perm (X' := ([] : va_W)) hD [] (by decide) rfl
                        exact wB_176 x1_30 x2_30 σ24 _ _ _ _ _ _ h hO hP hD hS (lv_sub hl [4, 5, 6] rfl) (by omega) (by omega)
                      · have h := h.1 c0
                        refine lv_aload_n hx hb dL_thought_150 rfl (lv_at hl 4 rfl) ?_
                        refine lv_iconst (v := 0) hx hb dL_thought_151 (by decide) ?_
                        refine lv_iconst (v := 0) hx hb dL_thought_152 (by decide) ?_
                        obtain ⟨hq, h⟩ := h
                        refine coI (vx_runSW (As := [.ref a0, .int 0, .int 0]) (rest := []) ⟨hx, hb, hml, hown, hta⟩ (oc_L_reason l hl9 dC dI cT hO hq (P_r hP) ((D_r hD).weaken (fun _ _ _ _ => trivial))) (cW hta lm_L_284 mw_L_reason ⟨(Nat.le_of_ble_eq_true rfl), (Nat.le_of_ble_eq_true rfl)⟩) ⟨fbU, fun U hU hW => ⟨rfl, hU, va_K.moved hW.alike hK, XS.call hX hS hU hW (freeO hD hS hA), hN.warm hW, ZS.call hZ hS hU hW (freeO hD hS hA), LT.call hT hS hU hW (freeO hD hS hA)⟩⟩ rfl rfl hl.1 rfl (lv_room (Nat.le_of_ble_eq_true rfl)) dL_thought_153 ⟨by show _ ≤ (507 : Nat); omega, by show _ ≤ (3312 : Nat); omega⟩) hS hA hP hD (fun r27 wo H locs hw hP hD hS => ?_)
                        obtain ⟨hr9, hO⟩ := hw
                        have h := h r27 hr9
                        refine lv_bipush (v := 6) hx hb dL_thought_156 (by decide) ?_
                        refine lv_icmp_ne (tgt := 176) hx hb dL_thought_158 (by decide) (fun c0 => ?_) (fun c0 => ?_)
                        · have h := h.2 c0
                          have hP := P_perm (X' := ([] : va_W)) hP [] rfl
                          have hD := D_perm (X' := ([] : va_W)) hD [] (by decide) rfl
                          exact wB_176 x1_30 x2_30 σ24 _ _ _ _ _ _ h hO hP hD hS (lv_sub hl [4, 5, 6] rfl) (by omega) (by omega)
                        · have h := h.1 c0
                          refine lv_aload_n hx hb dL_thought_161 rfl (lv_at hl 4 rfl) ?_
                          refine lv_iconst (v := 0) hx hb dL_thought_162 (by decide) ?_
                          refine lv_iconst (v := 1) hx hb dL_thought_163 (by decide) ?_
                          obtain ⟨hq, h⟩ := h
                          refine coI (vx_runSW (As := [.ref a0, .int 0, .int 1]) (rest := []) ⟨hx, hb, hml, hown, hta⟩ (oc_L_reason l hl9 dC dI cT hO hq (P_r hP) ((D_r hD).weaken (fun _ _ _ _ => trivial))) (cW hta lm_L_284 mw_L_reason ⟨(Nat.le_of_ble_eq_true rfl), (Nat.le_of_ble_eq_true rfl)⟩) ⟨fbU, fun U hU hW => ⟨rfl, hU, va_K.moved hW.alike hK, XS.call hX hS hU hW (freeO hD hS hA), hN.warm hW, ZS.call hZ hS hU hW (freeO hD hS hA), LT.call hT hS hU hW (freeO hD hS hA)⟩⟩ rfl rfl hl.1 rfl (lv_room (Nat.le_of_ble_eq_true rfl)) dL_thought_164 ⟨by show _ ≤ (507 : Nat); omega, by show _ ≤ (3312 : Nat); omega⟩) hS hA hP hD (fun r28 wo H locs hw hP hD hS => ?_)
                          obtain ⟨hr9, hO⟩ := hw
                          have h := h r28 hr9
                          refine lv_iload hx hb dL_thought_167 (lv_at hl 3 rfl) ?_
                          refine lv_icmp_ne (tgt := 176) hx hb dL_thought_169 (by decide) (fun c0 => ?_) (fun c0 => ?_)
                          · have h := h.2 c0
                            have hP := P_perm (X' := ([] : va_W)) hP [] rfl
                            have hD := D_perm (X' := ([] : va_W)) hD [] (by decide) rfl
                            exact wB_176 x1_30 x2_30 σ24 _ _ _ _ _ _ h hO hP hD hS (lv_sub hl [4, 5, 6] rfl) (by omega) (by omega)
                          · have h := h.1 c0
                            refine lv_iconst (v := 1) hx hb dL_thought_172 (by decide) ?_
                            refine lv_goto (tgt := 177) hx hb dL_thought_173 (by decide) ?_
                            have hP := P_perm (X' := ([] : va_W)) hP [] rfl
                            have hD := D_perm (X' := ([] : va_W)) hD [] (by decide) rfl
                            exact wB_177 x1_30 x2_30 (1 : Int32) σ24 _ _ _ _ _ _ h hO hP hD hS (lv_sub hl [4, 5, 6] rfl) (by omega) (by omega)
          · have h := h.2 c0
            refine lv_aload hx hb dL_thought_36 (lv_at hl 4 rfl) ?_
            refine lv_iload hx hb dL_thought_38 (lv_at hl 5 rfl) ?_
            refine lv_aload_n hx hb dL_thought_40 rfl (lv_at hl 0 rfl) ?_
            refine lv_iload_n hx hb dL_thought_41 rfl (lv_at hl 2 rfl) ?_
            refine lv_iload hx hb dL_thought_42 (lv_at hl 5 rfl) ?_
            refine coI (vx_runSW (As := [.ref a0, .int x2_30, .int x5_30]) (rest := [.int x5_30, .ref ar4_30]) ⟨hx, hb, hml, hown, hta⟩ (oc_L_would l hl9 dC dI cT hO (P_r hP) ((D_r hD).weaken (fun _ _ _ _ => trivial))) (cW hta lm_L_272 mw_L_would ⟨(Nat.le_of_ble_eq_true rfl), (Nat.le_of_ble_eq_true rfl)⟩) ⟨fbU, fun U hU hW => ⟨rfl, hU, va_K.moved hW.alike hK, XS.call hX hS hU hW (freeO hD hS hA), hN.warm hW, ZS.call hZ hS hU hW (freeO hD hS hA), LT.call hT hS hU hW (freeO hD hS hA)⟩⟩ rfl rfl hl.1 rfl (lv_room (Nat.le_of_ble_eq_true rfl)) dL_thought_44 ⟨by show _ ≤ (507 : Nat); omega, by show _ ≤ (3312 : Nat); omega⟩) hS hA hP hD (fun r29 wo H locs hw hP hD hS => ?_)
            obtain ⟨hr9, hO⟩ := hw
            have h := h r29 hr9
            obtain ⟨hc, h⟩ := h
            refine va_iast hx hb hK hP hD hS 1 0 rfl rfl (inb_in hc) dL_thought_47 (fun H locs hP hD hS => ?_)
            obtain ⟨f30, e_f⟩ : ∃ y : Nat → Int32, y = (upd fr4_30 x5_30.toNatClampNeg r29) := ⟨_, rfl⟩
            have h := h f30 e_f
            have hP : va_P (dC, dI) vwCl (([(ar3_30, .inl (cT 0, mr3_30, .inl fr3_30)), (ar4_30, .inl (cT 0, mr4_30, .inl f30))] : va_W) ++ wo) H := by rw [e_f]; exact hP
            have hD : va_D A (([(ar3_30, .inl (cT 0, mr3_30, .inl fr3_30)), (ar4_30, .inl (cT 0, mr4_30, .inl f30))] : va_W) ++ wo) := by rw [e_f]; exact hD
            refine lv_aload_n hx hb dL_thought_48 rfl (lv_at hl 0 rfl) ?_
            refine lv_iload_n hx hb dL_thought_49 rfl (lv_at hl 2 rfl) ?_
            refine lv_iload hx hb dL_thought_50 (lv_at hl 5 rfl) ?_
            refine coI (vx_runSW (As := [.ref a0, .int x2_30, .int x5_30]) (rest := []) ⟨hx, hb, hml, hown, hta⟩ (oc_L_wouldAgain l hl9 dC dI cT hO (P_r hP) ((D_r hD).weaken (fun _ _ _ _ => trivial))) (cW hta lm_L_274 mw_L_wouldAgain ⟨(Nat.le_of_ble_eq_true rfl), (Nat.le_of_ble_eq_true rfl)⟩) ⟨fbU, fun U hU hW => ⟨rfl, hU, va_K.moved hW.alike hK, XS.call hX hS hU hW (freeO hD hS hA), hN.warm hW, ZS.call hZ hS hU hW (freeO hD hS hA), LT.call hT hS hU hW (freeO hD hS hA)⟩⟩ rfl rfl hl.1 rfl (lv_room (Nat.le_of_ble_eq_true rfl)) dL_thought_52 ⟨by show _ ≤ (507 : Nat); omega, by show _ ≤ (3312 : Nat); omega⟩) hS hA hP hD (fun r31 wo H locs hw hP hD hS => ?_)
            obtain ⟨hr9, hO⟩ := hw
            have h := h r31 hr9
            refine lv_aload hx hb dL_thought_55 (lv_at hl 4 rfl) ?_
            refine lv_iload hx hb dL_thought_57 (lv_at hl 5 rfl) ?_
            obtain ⟨hc, h⟩ := h
            refine va_iald hx hb hK hP 1 0 rfl rfl (inb_in hc) dL_thought_59 ?_
            refine lv_icmp_eq (tgt := 65) hx hb dL_thought_60 (by decide) (fun c0 => ?_) (fun c0 => ?_)
            · have h := h.1 c0
              obtain ⟨v32, e_v⟩ : ∃ y : Int32, y = x5_30 + 1 := ⟨_, rfl⟩
              have h := h v32 e_v
              refine lv_iinc (v := v32) (lv' := [(5, .int v32), (0, .ref a0), (1, .int x1_30), (2, .int x2_30), (3, .ref ar3_30), (4, .ref ar4_30)]) hx hb dL_thought_65 hl (k := 5) rfl (by rw [e_v]; rfl) (by decide) rfl (fun ls hl => ?_)
              refine lv_goto (tgt := 30) hx hb dL_thought_68 (by decide) ?_
              exact ih_30 x1_30 x2_30 v32 mr3_30 fr3_30 mr4_30 f30 ar3_30 ar4_30 σ _ _ _ _ _ _ h hO hP hD hS (lv_sub hl [1, 2, 3, 4, 5, 0] rfl) (by omega) (by omega)
            · have h := h.2 c0
              refine lv_iconst (v := 0) hx hb dL_thought_63 (by decide) ?_
              refine W.widen (k := 507) (n := 3312) (by omega) (by omega) ?_
              rw [hQ]
              exact W.zret (ty := .boolean) (v := 0) hx hb hr (bo_n (v := 0) rfl) (fun t ht hW => ⟨⟨0, wo, rfl, ⟨_, h, hO⟩, by rw [ht]; exact P_r hP, D_r hD⟩, hS.F ht⟩) hS.2.2 dL_thought_64
      intro x1_8 x2_8 σ wo H locs ls cells slots h hO hP hD hS hl hc1 hc2
      rw [wp_L_thought_b8] at h
      refine lv_iload_n hx hb dL_thought_8 rfl (lv_at hl 2 rfl) ?_
      refine lv_aload_n hx hb dL_thought_9 rfl (lv_at hl 0 rfl) ?_
      refine lv_iconst (v := 1) hx hb dL_thought_10 (by decide) ?_
      obtain ⟨hq, h⟩ := h
      refine coI (va_runV (As := [.int 1]) (rest := [.int x2_8]) ⟨hx, hb, hml, hown, hta⟩ (oc_X11_account l hl9 dC dI cT hO hq (P_r hP) ((D_r hD).weaken (fun _ _ _ _ => trivial))) (cV hta lm_L_229 md_X11_account ⟨(Nat.le_of_ble_eq_true rfl), (Nat.le_of_ble_eq_true rfl)⟩) ⟨fbU, recvO hK hO (P_r hP), fun U hU hW => ⟨rfl, hU, va_K.moved hW.alike hK, XS.call hX hS hU hW (freeO hD hS hA), hN.warm hW, ZS.call hZ hS hU hW (freeO hD hS hA), LT.call hT hS hU hW (freeO hD hS hA)⟩⟩ rfl rfl hl.1 rfl (lv_room (Nat.le_of_ble_eq_true rfl)) dL_thought_11 ⟨by show _ ≤ (507 : Nat); omega, by show _ ≤ (3312 : Nat); omega⟩) hS hA hP hD (fun r33 wo H locs hw hP hD hS => ?_)
      obtain ⟨hr9, hO⟩ := hw
      have h := h r33 hr9
      refine lv_icmp_ge (tgt := 384) hx hb dL_thought_14 (by decide) (fun c0 => ?_) (fun c0 => ?_)
      · have h := h.1 c0
        refine lv_aload_n hx hb dL_thought_384 rfl (lv_at hl 0 rfl) ?_
        refine lv_aload_n hx hb dL_thought_385 rfl (lv_at hl 0 rfl) ?_
        refine lv_iconst (v := 1) hx hb dL_thought_386 (by decide) ?_
        obtain ⟨hq, h⟩ := h
        refine coI (va_runV (As := [.int 1]) (rest := [.ref a0]) ⟨hx, hb, hml, hown, hta⟩ (oc_X11_account l hl9 dC dI cT hO hq (P_r hP) ((D_r hD).weaken (fun _ _ _ _ => trivial))) (cV hta lm_L_229 md_X11_account ⟨(Nat.le_of_ble_eq_true rfl), (Nat.le_of_ble_eq_true rfl)⟩) ⟨fbU, recvO hK hO (P_r hP), fun U hU hW => ⟨rfl, hU, va_K.moved hW.alike hK, XS.call hX hS hU hW (freeO hD hS hA), hN.warm hW, ZS.call hZ hS hU hW (freeO hD hS hA), LT.call hT hS hU hW (freeO hD hS hA)⟩⟩ rfl rfl hl.1 rfl (lv_room (Nat.le_of_ble_eq_true rfl)) dL_thought_387 ⟨by show _ ≤ (507 : Nat); omega, by show _ ≤ (3312 : Nat); omega⟩) hS hA hP hD (fun r34 wo H locs hw hP hD hS => ?_)
        obtain ⟨hr9, hO⟩ := hw
        have h := h r34 hr9
        refine lv_iconst (v := 0) hx hb dL_thought_390 (by decide) ?_
        refine coI (vx_runSW (As := [.ref a0, .int r34, .int 0]) (rest := []) ⟨hx, hb, hml, hown, hta⟩ (oc_L_would l hl9 dC dI cT hO (P_r hP) ((D_r hD).weaken (fun _ _ _ _ => trivial))) (cW hta lm_L_272 mw_L_would ⟨(Nat.le_of_ble_eq_true rfl), (Nat.le_of_ble_eq_true rfl)⟩) ⟨fbU, fun U hU hW => ⟨rfl, hU, va_K.moved hW.alike hK, XS.call hX hS hU hW (freeO hD hS hA), hN.warm hW, ZS.call hZ hS hU hW (freeO hD hS hA), LT.call hT hS hU hW (freeO hD hS hA)⟩⟩ rfl rfl hl.1 rfl (lv_room (Nat.le_of_ble_eq_true rfl)) dL_thought_391 ⟨by show _ ≤ (507 : Nat); omega, by show _ ≤ (3312 : Nat); omega⟩) hS hA hP hD (fun r35 wo H locs hw hP hD hS => ?_)
        obtain ⟨hr9, hO⟩ := hw
        have h := h r35 hr9
        refine lv_ldc (v := -100001) hx hb hown (hta _ kc_L_83) dL_thought_394 ?_
        refine lv_icmp_ne (tgt := 445) hx hb dL_thought_396 (by decide) (fun c0 => ?_) (fun c0 => ?_)
        · have h := h.2 c0
          exact wB_445 σ _ _ _ _ _ _ h hO hP hD hS (lv_sub hl [] rfl) (by omega) (by omega)
        · have h := h.1 c0
          refine lv_aload_n hx hb dL_thought_399 rfl (lv_at hl 0 rfl) ?_
          refine lv_iconst (v := 0) hx hb dL_thought_400 (by decide) ?_
          refine lv_iload_n hx hb dL_thought_401 rfl (lv_at hl 1 rfl) ?_
          refine coI (vx_runSW (As := [.ref a0, .int 0, .int x1_8]) (rest := []) ⟨hx, hb, hml, hown, hta⟩ (oc_L_wouldAgain l hl9 dC dI cT hO (P_r hP) ((D_r hD).weaken (fun _ _ _ _ => trivial))) (cW hta lm_L_274 mw_L_wouldAgain ⟨(Nat.le_of_ble_eq_true rfl), (Nat.le_of_ble_eq_true rfl)⟩) ⟨fbU, fun U hU hW => ⟨rfl, hU, va_K.moved hW.alike hK, XS.call hX hS hU hW (freeO hD hS hA), hN.warm hW, ZS.call hZ hS hU hW (freeO hD hS hA), LT.call hT hS hU hW (freeO hD hS hA)⟩⟩ rfl rfl hl.1 rfl (lv_room (Nat.le_of_ble_eq_true rfl)) dL_thought_402 ⟨by show _ ≤ (507 : Nat); omega, by show _ ≤ (3312 : Nat); omega⟩) hS hA hP hD (fun r36 wo H locs hw hP hD hS => ?_)
          obtain ⟨hr9, hO⟩ := hw
          have h := h r36 hr9
          refine lv_ldc (v := -100001) hx hb hown (hta _ kc_L_83) dL_thought_405 ?_
          refine lv_icmp_ne (tgt := 445) hx hb dL_thought_407 (by decide) (fun c0 => ?_) (fun c0 => ?_)
          · have h := h.2 c0
            exact wB_445 σ _ _ _ _ _ _ h hO hP hD hS (lv_sub hl [] rfl) (by omega) (by omega)
          · have h := h.1 c0
            refine lv_aload_n hx hb dL_thought_410 rfl (lv_at hl 0 rfl) ?_
            refine lv_iconst (v := -1) hx hb dL_thought_411 (by decide) ?_
            refine coI (vx_runSW (As := [.ref a0, .int (-1)]) (rest := []) ⟨hx, hb, hml, hown, hta⟩ (oc_L_boils l hl9 dC dI cT hO (P_r hP) ((D_r hD).weaken (fun _ _ _ _ => trivial))) (cW hta lm_L_258 mw_L_boils ⟨(Nat.le_of_ble_eq_true rfl), (Nat.le_of_ble_eq_true rfl)⟩) ⟨fbU, fun U hU hW => ⟨rfl, hU, va_K.moved hW.alike hK, XS.call hX hS hU hW (freeO hD hS hA), hN.warm hW, ZS.call hZ hS hU hW (freeO hD hS hA), LT.call hT hS hU hW (freeO hD hS hA)⟩⟩ rfl rfl hl.1 rfl (lv_room (Nat.le_of_ble_eq_true rfl)) dL_thought_412 ⟨by show _ ≤ (507 : Nat); omega, by show _ ≤ (3312 : Nat); omega⟩) hS hA hP hD (fun r37 wo H locs hw hP hD hS => ?_)
            obtain ⟨hr9, hO⟩ := hw
            have h := h r37 hr9
            refine lv_bipush (v := -11) hx hb dL_thought_415 (by decide) ?_
            refine lv_icmp_ne (tgt := 445) hx hb dL_thought_417 (by decide) (fun c0 => ?_) (fun c0 => ?_)
            · have h := h.2 c0
              exact wB_445 σ _ _ _ _ _ _ h hO hP hD hS (lv_sub hl [] rfl) (by omega) (by omega)
            · have h := h.1 c0
              refine lv_aload_n hx hb dL_thought_420 rfl (lv_at hl 0 rfl) ?_
              refine lv_aload_n hx hb dL_thought_421 rfl (lv_at hl 0 rfl) ?_
              refine lv_iconst (v := 1) hx hb dL_thought_422 (by decide) ?_
              obtain ⟨hq, h⟩ := h
              refine coI (va_runV (As := [.int 1]) (rest := [.ref a0]) ⟨hx, hb, hml, hown, hta⟩ (oc_X11_account l hl9 dC dI cT hO hq (P_r hP) ((D_r hD).weaken (fun _ _ _ _ => trivial))) (cV hta lm_L_229 md_X11_account ⟨(Nat.le_of_ble_eq_true rfl), (Nat.le_of_ble_eq_true rfl)⟩) ⟨fbU, recvO hK hO (P_r hP), fun U hU hW => ⟨rfl, hU, va_K.moved hW.alike hK, XS.call hX hS hU hW (freeO hD hS hA), hN.warm hW, ZS.call hZ hS hU hW (freeO hD hS hA), LT.call hT hS hU hW (freeO hD hS hA)⟩⟩ rfl rfl hl.1 rfl (lv_room (Nat.le_of_ble_eq_true rfl)) dL_thought_423 ⟨by show _ ≤ (507 : Nat); omega, by show _ ≤ (3312 : Nat); omega⟩) hS hA hP hD (fun r38 wo H locs hw hP hD hS => ?_)
              obtain ⟨hr9, hO⟩ := hw
              have h := h r38 hr9
              refine coI (vx_runSW (As := [.ref a0, .int r38]) (rest := []) ⟨hx, hb, hml, hown, hta⟩ (oc_L_lasts l hl9 dC dI cT hO (P_r hP) ((D_r hD).weaken (fun _ _ _ _ => trivial))) (cW hta lm_L_276 mw_L_lasts ⟨(Nat.le_of_ble_eq_true rfl), (Nat.le_of_ble_eq_true rfl)⟩) ⟨fbU, fun U hU hW => ⟨rfl, hU, va_K.moved hW.alike hK, XS.call hX hS hU hW (freeO hD hS hA), hN.warm hW, ZS.call hZ hS hU hW (freeO hD hS hA), LT.call hT hS hU hW (freeO hD hS hA)⟩⟩ rfl rfl hl.1 rfl (lv_room (Nat.le_of_ble_eq_true rfl)) dL_thought_426 ⟨by show _ ≤ (507 : Nat); omega, by show _ ≤ (3312 : Nat); omega⟩) hS hA hP hD (fun r39 wo H locs hw hP hD hS => ?_)
              obtain ⟨hr9, hO⟩ := hw
              have h := h r39 hr9
              refine lv_bipush (v := -11) hx hb dL_thought_429 (by decide) ?_
              refine lv_icmp_ne (tgt := 445) hx hb dL_thought_431 (by decide) (fun c0 => ?_) (fun c0 => ?_)
              · have h := h.2 c0
                exact wB_445 σ _ _ _ _ _ _ h hO hP hD hS (lv_sub hl [] rfl) (by omega) (by omega)
              · have h := h.1 c0
                refine lv_aload_n hx hb dL_thought_434 rfl (lv_at hl 0 rfl) ?_
                refine coI (va_runV (As := []) (rest := []) ⟨hx, hb, hml, hown, hta⟩ (oc_X11_isSafe l hl9 dC dI cT hO (P_r hP) ((D_r hD).weaken (fun _ _ _ _ => trivial))) (cV hta lm_L_289 md_X11_isSafe ⟨(Nat.le_of_ble_eq_true rfl), (Nat.le_of_ble_eq_true rfl)⟩) ⟨fbU, recvO hK hO (P_r hP), fun U hU hW => ⟨rfl, hU, va_K.moved hW.alike hK, XS.call hX hS hU hW (freeO hD hS hA), hN.warm hW, ZS.call hZ hS hU hW (freeO hD hS hA), LT.call hT hS hU hW (freeO hD hS hA)⟩⟩ rfl rfl hl.1 rfl (lv_room (Nat.le_of_ble_eq_true rfl)) dL_thought_435 ⟨by show _ ≤ (507 : Nat); omega, by show _ ≤ (3312 : Nat); omega⟩) hS hA hP hD (fun r40 wo H locs hw hP hD hS => ?_)
                obtain ⟨hr9, hO⟩ := hw
                have h := h r40 hr9
                refine lv_if_eq (tgt := 445) hx hb dL_thought_438 (by decide) (fun c0 => ?_) (fun c0 => ?_)
                · have h := h.1 c0
                  exact wB_445 σ _ _ _ _ _ _ h hO hP hD hS (lv_sub hl [] rfl) (by omega) (by omega)
                · have h := h.2 c0
                  refine lv_iconst (v := 1) hx hb dL_thought_441 (by decide) ?_
                  refine lv_goto (tgt := 446) hx hb dL_thought_442 (by decide) ?_
                  exact wB_446 (1 : Int32) σ _ _ _ _ _ _ h hO hP hD hS (lv_sub hl [] rfl) (by omega) (by omega)
      · have h := h.2 c0
        refine lv_aload_n hx hb dL_thought_17 rfl (lv_at hl 0 rfl) ?_
        refine coA (va_runS (As := [.ref a0]) (rest := []) ⟨hx, hb, hml, hown, hta⟩ (lc_L_bits l hl9 dC dI cT h hO (P_r hP) ((D_r hD).weaken (fun _ _ _ _ => trivial))) (cS hta lm_L_269 md_L_bits ⟨(Nat.le_of_ble_eq_true rfl), (Nat.le_of_ble_eq_true rfl)⟩) ⟨fbU, fun U hU hW => ⟨rfl, hU, va_K.moved hW.alike hK, XS.call hX hS hU hW (freeO hD hS hA), hN.warm hW, ZS.call hZ hS hU hW (freeO hD hS hA), LT.call hT hS hU hW (freeO hD hS hA)⟩⟩ rfl rfl hl.1 rfl (lv_room (Nat.le_of_ble_eq_true rfl)) dL_thought_18 ⟨by show _ ≤ (507 : Nat); omega, by show _ ≤ (3312 : Nat); omega⟩) hS hA hP hD (fun nq18_42 fq18_42 wo aq18_42 H locs hw hP hD hS => ?_)
        obtain ⟨σ41, h, hO⟩ := hw
        have hP : va_P (dC, dI) vwCl (([(aq18_42, .inl (cT 0, nq18_42, .inl fq18_42))] : va_W) ++ wo) H := hP
        have hD : va_D A (([(aq18_42, .inl (cT 0, nq18_42, .inl fq18_42))] : va_W) ++ wo) := hD
        refine lv_astore_n (lv' := [(3, .ref aq18_42), (0, .ref a0), (1, .int x1_8), (2, .int x2_8)]) hx hb dL_thought_21 rfl hl (by decide) rfl (fun ls hl => ?_)
        refine lv_iload_n hx hb dL_thought_22 rfl (lv_at hl 2 rfl) ?_
        obtain ⟨m43, hm, e_m, h⟩ := h
        rw [e_m]
        refine va_newaT (ty := .int) (a0 := (m43, .inl (fun _ => 0))) hx hb (hta _ ac_int) rfl (fun _ h9 => by cases h9) 0 rfl hK hP hD hS hA (fun _ => rfl) (nI_pos (by omega)) (nI_clamp (by omega)) (by show m43 * 4 ≤ _; omega) (by show _ ≤ (507 : Nat); omega) (by show _ ≤ (3312 : Nat); omega) dL_thought_23 (fun aq44 H hP hD hS => ?_)
        have hP : va_P (dC, dI) vwCl (([(aq18_42, .inl (cT 0, nq18_42, .inl fq18_42)), (aq44, .inl (cT 0, m43, .inl (fun _ => 0)))] : va_W) ++ wo) H := P_mv hP
        have hD : va_D A (([(aq18_42, .inl (cT 0, nq18_42, .inl fq18_42)), (aq44, .inl (cT 0, m43, .inl (fun _ => 0)))] : va_W) ++ wo) := D_mv hD
        refine lv_astore (lv' := [(4, .ref aq44), (3, .ref aq18_42), (0, .ref a0), (1, .int x1_8), (2, .int x2_8)]) hx hb dL_thought_25 hl (by decide) rfl (fun ls hl => ?_)
        refine lv_iconst (v := 0) hx hb dL_thought_27 (by decide) ?_
        refine lv_istore (lv' := [(5, .int 0), (4, .ref aq44), (3, .ref aq18_42), (0, .ref a0), (1, .int x1_8), (2, .int x2_8)]) hx hb dL_thought_28 hl (by decide) rfl (fun ls hl => ?_)
        exact wB_30 7 x1_8 x2_8 (0 : Int32) nq18_42 fq18_42 m43 (fun _ => 0) aq18_42 aq44 σ41 _ _ _ _ _ _ h hO hP hD hS (lv_sub hl [3, 4, 5, 2, 1, 0] rfl) (by omega) (by omega)
  unfold wp_L_thought at h
  have hc1 : (0 : Nat) + 507 ≤ 507 := Nat.le_of_eq (Nat.zero_add _)
  have hc2 : (0 : Nat) + 3312 ≤ 3312 := Nat.le_of_eq (Nat.zero_add _)
  clear hP0 hD0 hAe
  obtain ⟨wo, e_w⟩ : ∃ z, z = W0 := ⟨W0, rfl⟩
  rw [← e_w] at hO hP hD
  clear e_w
  refine lv_aload_n hx hb dL_thought_0 rfl (lv_at hl 0 rfl) ?_
  refine lv_iconst (v := 0) hx hb dL_thought_1 (by decide) ?_
  obtain ⟨hq, h⟩ := h
  refine coI (va_runV (As := [.int 0]) (rest := []) ⟨hx, hb, hml, hown, hta⟩ (oc_X11_account l hl9 dC dI cT hO hq (P_r hP) ((D_r hD).weaken (fun _ _ _ _ => trivial))) (cV hta lm_L_229 md_X11_account ⟨(Nat.le_of_ble_eq_true rfl), (Nat.le_of_ble_eq_true rfl)⟩) ⟨fbU, recvO hK hO (P_r hP), fun U hU hW => ⟨rfl, hU, va_K.moved hW.alike hK, XS.call hX hS hU hW (freeO hD hS hA), hN.warm hW, ZS.call hZ hS hU hW (freeO hD hS hA), LT.call hT hS hU hW (freeO hD hS hA)⟩⟩ rfl rfl hl.1 rfl (lv_room (Nat.le_of_ble_eq_true rfl)) dL_thought_2 ⟨by show _ ≤ (507 : Nat); omega, by show _ ≤ (3312 : Nat); omega⟩) hS hA hP hD (fun r45 wo H locs hw hP hD hS => ?_)
  obtain ⟨hr9, hO⟩ := hw
  have h := h r45 hr9
  refine lv_istore_n (lv' := [(1, .int r45), (0, .ref a0)]) hx hb dL_thought_5 rfl hl (by decide) rfl (fun ls hl => ?_)
  refine lv_iconst (v := 0) hx hb dL_thought_6 (by decide) ?_
  refine lv_istore_n (lv' := [(2, .int 0), (1, .int r45), (0, .ref a0)]) hx hb dL_thought_7 rfl hl (by decide) rfl (fun ls hl => ?_)
  exact wB_8 5 r45 (0 : Int32) σ _ _ _ _ _ _ h hO hP hD hS (lv_sub hl [2, 1, 0] rfl) (by omega) (by omega)
