/-! THE LAW's methods (gen/laws41.py) -/
def wp_L_tokens_b555 (K : (Int32 → AB → Prop))  (s0_555 : Int32) (σ : AB) : Prop :=
(bo s0_555 = true) ∧
K s0_555 σ
def wp_L_tokens_b554 (K : (Int32 → AB → Prop))   (σ : AB) : Prop :=
wp_L_tokens_b555 K (0 : Int32) σ
def wp_L_tokens_b496 (K : (Int32 → AB → Prop))   (σ : AB) : Prop :=
K (0 : Int32) σ
def wp_L_tokens_b440 (K : (Int32 → AB → Prop))  : Nat → Int32 → Nat → (Nat → Int32) → Nat → (Nat → Int32) → AB → Prop
  | 0, _, _, _, _, _, _ => False
  | n + 1, x3_440, mr1_440, fr1_440, mr2_440, fr2_440, σ =>
    (∃ n, n < 8 ∧ (0 : Int32) = nI n) ∧
    ∀ r1 : Int32, r1 = f_account σ.1 σ.2.2.2.2.2.2 (0 : Int32) →
    (r1 ≤ x3_440 →
    (∃ n, n < 8 ∧ (1 : Int32) = nI n) ∧
    ∀ r2 : Int32, r2 = f_account σ.1 σ.2.2.2.2.2.2 (1 : Int32) →
    (∃ n, n < 8 ∧ (0 : Int32) = nI n) ∧
    ∀ r3 : Int32, r3 = f_account σ.1 σ.2.2.2.2.2.2 (0 : Int32) →
    ∀ r4 : Int32, r4 = f_of σ.1 r3 (9 : Int32) →
    (r4 = (-1001) →
    ∀ r5 : Int32, r5 = f_spellOf σ.1 r2 (9 : Int32) →
    (r5 = (-11) →
    ∀ r6 : Int32, r6 = f_token σ.1 r2 (0 : Int32) →
    (r6 = (-11) →
    wp_L_tokens_b555 K (1 : Int32) σ) ∧
    (¬ r6 = (-11) →
    wp_L_tokens_b554 K σ)) ∧
    (¬ r5 = (-11) →
    wp_L_tokens_b554 K σ)) ∧
    (¬ r4 = (-1001) →
    wp_L_tokens_b554 K σ)) ∧
    (¬ r1 ≤ x3_440 →
    ∀ r7 : Int32, r7 = f_of σ.1 x3_440 (5 : Int32) →
    (inb x3_440 mr1_440 = true) ∧
    (r7 = (fr1_440 x3_440.toNatClampNeg) →
    ∀ r8 : Int32, r8 = f_of σ.1 x3_440 (6 : Int32) →
    (inb x3_440 mr2_440 = true) ∧
    (r8 = (fr2_440 x3_440.toNatClampNeg) →
    ∀ r9 : Int32, r9 = f_of σ.1 x3_440 (4 : Int32) →
    (r9 = 0 →
    ∀ r10 : Int32, r10 = f_of σ.1 x3_440 (7 : Int32) →
    (r10 = (-1003) →
    ∀ v11 : Int32, v11 = x3_440 + 1 →
    wp_L_tokens_b440 K n v11 mr1_440 fr1_440 mr2_440 fr2_440 σ) ∧
    (¬ r10 = (-1003) →
    wp_L_tokens_b496 K σ)) ∧
    (¬ r9 = 0 →
    wp_L_tokens_b496 K σ)) ∧
    (¬ r8 = (fr2_440 x3_440.toNatClampNeg) →
    wp_L_tokens_b496 K σ)) ∧
    (¬ r7 = (fr1_440 x3_440.toNatClampNeg) →
    wp_L_tokens_b496 K σ))
def wp_L_tokens_b423 (K : (Int32 → AB → Prop)) (k_12 : Int32 → Nat → (Nat → Int32) → Nat → (Nat → Int32) → AB → Prop) (x3_423 : Int32) (s0_423 : Int32) (mr1_423 : Nat) (fr1_423 : Nat → Int32) (mr2_423 : Nat) (fr2_423 : Nat → Int32) (σ : AB) : Prop :=
(s0_423 = 0 →
K (0 : Int32) σ) ∧
(¬ s0_423 = 0 →
∀ v12 : Int32, v12 = x3_423 + 1 →
k_12 v12 mr1_423 fr1_423 mr2_423 fr2_423 σ)
def wp_L_tokens_b422 (K : (Int32 → AB → Prop)) (k_12 : Int32 → Nat → (Nat → Int32) → Nat → (Nat → Int32) → AB → Prop) (x3_422 : Int32) (mr1_422 : Nat) (fr1_422 : Nat → Int32) (mr2_422 : Nat) (fr2_422 : Nat → Int32) (σ : AB) : Prop :=
wp_L_tokens_b423 K k_12 x3_422 (0 : Int32) mr1_422 fr1_422 mr2_422 fr2_422 σ
def wp_L_tokens_b296 (K : (Int32 → AB → Prop)) (k_12 : Int32 → Nat → (Nat → Int32) → Nat → (Nat → Int32) → AB → Prop) : Nat → Int32 → Int32 → Int32 → Int32 → Int32 → Int32 → Int32 → Int32 → Nat → (Nat → Int32) → Nat → (Nat → Int32) → AB → Prop
  | 0, _, _, _, _, _, _, _, _, _, _, _, _, _ => False
  | n + 1, x3_296, x5_296, x6_296, x7_296, x8_296, x9_296, x10_296, x12_296, mr1_296, fr1_296, mr2_296, fr2_296, σ =>
    (6 ≤ x12_296 →
    ∀ r13 : Int32, r13 = f_spellOf σ.1 x3_296 (0 : Int32) →
    (r13 = x5_296 →
    ∀ r14 : Int32, r14 = f_spellOf σ.1 x3_296 (1 : Int32) →
    (r14 = x6_296 →
    ∀ r15 : Int32, r15 = f_spellOf σ.1 x3_296 (2 : Int32) →
    (r15 = x8_296 →
    (x7_296 = 0 →
    ∀ r16 : Int32, r16 = f_token σ.1 x3_296 x5_296 →
    (r16 = (-14) →
    ∀ r17 : Int32, r17 = f_token σ.1 x3_296 (-1 : Int32) →
    (r17 = (-14) →
    ∀ r18 : Int32, r18 = f_spellOf σ.1 x3_296 (4 : Int32) →
    (r18 = 0 →
    ∀ r19 : Int32, r19 = f_spellOf σ.1 x3_296 (5 : Int32) →
    (r19 = (-12) →
    wp_L_tokens_b423 K k_12 x3_296 (1 : Int32) mr1_296 fr1_296 mr2_296 fr2_296 σ) ∧
    (¬ r19 = (-12) →
    wp_L_tokens_b422 K k_12 x3_296 mr1_296 fr1_296 mr2_296 fr2_296 σ)) ∧
    (¬ r18 = 0 →
    wp_L_tokens_b422 K k_12 x3_296 mr1_296 fr1_296 mr2_296 fr2_296 σ)) ∧
    (¬ r17 = (-14) →
    wp_L_tokens_b422 K k_12 x3_296 mr1_296 fr1_296 mr2_296 fr2_296 σ)) ∧
    (¬ r16 = (-14) →
    wp_L_tokens_b422 K k_12 x3_296 mr1_296 fr1_296 mr2_296 fr2_296 σ)) ∧
    (¬ x7_296 = 0 →
    wp_L_tokens_b422 K k_12 x3_296 mr1_296 fr1_296 mr2_296 fr2_296 σ)) ∧
    (¬ r15 = x8_296 →
    wp_L_tokens_b422 K k_12 x3_296 mr1_296 fr1_296 mr2_296 fr2_296 σ)) ∧
    (¬ r14 = x6_296 →
    wp_L_tokens_b422 K k_12 x3_296 mr1_296 fr1_296 mr2_296 fr2_296 σ)) ∧
    (¬ r13 = x5_296 →
    wp_L_tokens_b422 K k_12 x3_296 mr1_296 fr1_296 mr2_296 fr2_296 σ)) ∧
    (¬ 6 ≤ x12_296 →
    (inb x12_296 mr1_296 = true) ∧
    (inb x12_296 mr1_296 = true) ∧
    ∀ v20 : Int32, v20 = ((fr1_296 x12_296.toNatClampNeg) + ((x9_296 >>> (x12_296 &&& 31)) &&& 1)) →
    ∀ f21 : Nat → Int32, f21 = (upd fr1_296 x12_296.toNatClampNeg v20) →
    (inb x12_296 mr2_296 = true) ∧
    (inb x12_296 mr2_296 = true) ∧
    ∀ v22 : Int32, v22 = ((fr2_296 x12_296.toNatClampNeg) + ((x10_296 >>> (x12_296 &&& 31)) &&& 1)) →
    ∀ f23 : Nat → Int32, f23 = (upd fr2_296 x12_296.toNatClampNeg v22) →
    ∀ v24 : Int32, v24 = x12_296 + 1 →
    wp_L_tokens_b296 K k_12 n x3_296 x5_296 x6_296 x7_296 x8_296 x9_296 x10_296 v24 mr1_296 f21 mr2_296 f23 σ)
def wp_L_tokens_b284 (K : (Int32 → AB → Prop)) (k_12 : Int32 → Nat → (Nat → Int32) → Nat → (Nat → Int32) → AB → Prop) (k_49 : Int32 → Int32 → Int32 → Int32 → Int32 → Int32 → Int32 → Int32 → Nat → (Nat → Int32) → Nat → (Nat → Int32) → Nat → (Nat → Int32) → AB → Prop) (x3_284 : Int32) (x5_284 : Int32) (x6_284 : Int32) (x7_284 : Int32) (x8_284 : Int32) (x9_284 : Int32) (x10_284 : Int32) (s0_284 : Int32) (s1_284 : Int32) (mr1_284 : Nat) (fr1_284 : Nat → Int32) (mr2_284 : Nat) (fr2_284 : Nat → Int32) (mr4_284 : Nat) (fr4_284 : Nat → Int32) (σ : AB) : Prop :=
∀ v25 : Int32, v25 = (s1_284 + s0_284) →
∀ v26 : Int32, v26 = x5_284 + 1 →
k_49 x3_284 v26 x6_284 x7_284 x8_284 x9_284 x10_284 v25 mr1_284 fr1_284 mr2_284 fr2_284 mr4_284 fr4_284 σ
def wp_L_tokens_b270 (K : (Int32 → AB → Prop)) (k_12 : Int32 → Nat → (Nat → Int32) → Nat → (Nat → Int32) → AB → Prop) (k_49 : Int32 → Int32 → Int32 → Int32 → Int32 → Int32 → Int32 → Int32 → Nat → (Nat → Int32) → Nat → (Nat → Int32) → Nat → (Nat → Int32) → AB → Prop) (x3_270 : Int32) (x5_270 : Int32) (x6_270 : Int32) (x7_270 : Int32) (x8_270 : Int32) (x9_270 : Int32) (x10_270 : Int32) (x11_270 : Int32) (s0_270 : Int32) (mr1_270 : Nat) (fr1_270 : Nat → Int32) (mr2_270 : Nat) (fr2_270 : Nat → Int32) (mr4_270 : Nat) (fr4_270 : Nat → Int32) (σ : AB) : Prop :=
(s0_270 = 0 →
wp_L_tokens_b284 K k_12 k_49 x3_270 x5_270 x6_270 x7_270 x8_270 x9_270 x10_270 (1 : Int32) x11_270 mr1_270 fr1_270 mr2_270 fr2_270 mr4_270 fr4_270 σ) ∧
(¬ s0_270 = 0 →
wp_L_tokens_b284 K k_12 k_49 x3_270 x5_270 x6_270 x7_270 x8_270 x9_270 x10_270 (2 : Int32) x11_270 mr1_270 fr1_270 mr2_270 fr2_270 mr4_270 fr4_270 σ)
def wp_L_tokens_b265 (K : (Int32 → AB → Prop)) (k_12 : Int32 → Nat → (Nat → Int32) → Nat → (Nat → Int32) → AB → Prop) (k_49 : Int32 → Int32 → Int32 → Int32 → Int32 → Int32 → Int32 → Int32 → Nat → (Nat → Int32) → Nat → (Nat → Int32) → Nat → (Nat → Int32) → AB → Prop) (x3_265 : Int32) (x5_265 : Int32) (x6_265 : Int32) (x7_265 : Int32) (x8_265 : Int32) (x9_265 : Int32) (x10_265 : Int32) (x11_265 : Int32) (mr1_265 : Nat) (fr1_265 : Nat → Int32) (mr2_265 : Nat) (fr2_265 : Nat → Int32) (mr4_265 : Nat) (fr4_265 : Nat → Int32) (σ : AB) : Prop :=
wp_L_tokens_b270 K k_12 k_49 x3_265 x5_265 x6_265 x7_265 x8_265 x9_265 x10_265 x11_265 (1 : Int32) mr1_265 fr1_265 mr2_265 fr2_265 mr4_265 fr4_265 σ
def wp_L_tokens_b269 (K : (Int32 → AB → Prop)) (k_12 : Int32 → Nat → (Nat → Int32) → Nat → (Nat → Int32) → AB → Prop) (k_49 : Int32 → Int32 → Int32 → Int32 → Int32 → Int32 → Int32 → Int32 → Nat → (Nat → Int32) → Nat → (Nat → Int32) → Nat → (Nat → Int32) → AB → Prop) (x3_269 : Int32) (x5_269 : Int32) (x6_269 : Int32) (x7_269 : Int32) (x8_269 : Int32) (x9_269 : Int32) (x10_269 : Int32) (x11_269 : Int32) (mr1_269 : Nat) (fr1_269 : Nat → Int32) (mr2_269 : Nat) (fr2_269 : Nat → Int32) (mr4_269 : Nat) (fr4_269 : Nat → Int32) (σ : AB) : Prop :=
wp_L_tokens_b270 K k_12 k_49 x3_269 x5_269 x6_269 x7_269 x8_269 x9_269 x10_269 x11_269 (0 : Int32) mr1_269 fr1_269 mr2_269 fr2_269 mr4_269 fr4_269 σ
def wp_L_tokens_b215 (K : (Int32 → AB → Prop)) (k_12 : Int32 → Nat → (Nat → Int32) → Nat → (Nat → Int32) → AB → Prop) (k_49 : Int32 → Int32 → Int32 → Int32 → Int32 → Int32 → Int32 → Int32 → Nat → (Nat → Int32) → Nat → (Nat → Int32) → Nat → (Nat → Int32) → AB → Prop) (x3_215 : Int32) (x5_215 : Int32) (x6_215 : Int32) (x8_215 : Int32) (x9_215 : Int32) (x10_215 : Int32) (x11_215 : Int32) (x12_215 : Int32) (s0_215 : Int32) (s1_215 : Int32) (mr1_215 : Nat) (fr1_215 : Nat → Int32) (mr2_215 : Nat) (fr2_215 : Nat → Int32) (mr4_215 : Nat) (fr4_215 : Nat → Int32) (σ : AB) : Prop :=
∀ v27 : Int32, v27 = (s1_215 + s0_215) →
∀ v28 : Int32, v28 = (if x8_215 < v27 then v27 else x8_215) →
(x12_215 = 61 →
wp_L_tokens_b265 K k_12 k_49 x3_215 x5_215 x6_215 v27 v28 x9_215 x10_215 x11_215 mr1_215 fr1_215 mr2_215 fr2_215 mr4_215 fr4_215 σ) ∧
(¬ x12_215 = 61 →
wp_L_isDigit (fun (r30 : Int32) (σ29 : AB) =>
(r30 = 0 →
wp_L_tokens_b269 K k_12 k_49 x3_215 x5_215 x6_215 v27 v28 x9_215 x10_215 x11_215 mr1_215 fr1_215 mr2_215 fr2_215 mr4_215 fr4_215 σ29) ∧
(¬ r30 = 0 →
((nI mr4_215) ≤ (x11_215 + 1) →
wp_L_tokens_b269 K k_12 k_49 x3_215 x5_215 x6_215 v27 v28 x9_215 x10_215 x11_215 mr1_215 fr1_215 mr2_215 fr2_215 mr4_215 fr4_215 σ29) ∧
(¬ (nI mr4_215) ≤ (x11_215 + 1) →
(inb (x11_215 + 1) mr4_215 = true) ∧
wp_L_isDigit (fun (r32 : Int32) (σ31 : AB) =>
(r32 = 0 →
wp_L_tokens_b269 K k_12 k_49 x3_215 x5_215 x6_215 v27 v28 x9_215 x10_215 x11_215 mr1_215 fr1_215 mr2_215 fr2_215 mr4_215 fr4_215 σ31) ∧
(¬ r32 = 0 →
wp_L_tokens_b265 K k_12 k_49 x3_215 x5_215 x6_215 v27 v28 x9_215 x10_215 x11_215 mr1_215 fr1_215 mr2_215 fr2_215 mr4_215 fr4_215 σ31)) (fr4_215 (x11_215 + 1).toNatClampNeg) σ29))) x12_215 σ)
def wp_L_tokens_b210 (K : (Int32 → AB → Prop)) (k_12 : Int32 → Nat → (Nat → Int32) → Nat → (Nat → Int32) → AB → Prop) (k_49 : Int32 → Int32 → Int32 → Int32 → Int32 → Int32 → Int32 → Int32 → Nat → (Nat → Int32) → Nat → (Nat → Int32) → Nat → (Nat → Int32) → AB → Prop) (x3_210 : Int32) (x5_210 : Int32) (x6_210 : Int32) (x8_210 : Int32) (x9_210 : Int32) (x10_210 : Int32) (x11_210 : Int32) (x12_210 : Int32) (s0_210 : Int32) (mr1_210 : Nat) (fr1_210 : Nat → Int32) (mr2_210 : Nat) (fr2_210 : Nat → Int32) (mr4_210 : Nat) (fr4_210 : Nat → Int32) (σ : AB) : Prop :=
wp_L_tokens_b215 K k_12 k_49 x3_210 x5_210 x6_210 x8_210 x9_210 x10_210 x11_210 x12_210 (0 : Int32) s0_210 mr1_210 fr1_210 mr2_210 fr2_210 mr4_210 fr4_210 σ
def wp_L_tokens_b182 (K : (Int32 → AB → Prop)) (k_12 : Int32 → Nat → (Nat → Int32) → Nat → (Nat → Int32) → AB → Prop) (k_49 : Int32 → Int32 → Int32 → Int32 → Int32 → Int32 → Int32 → Int32 → Nat → (Nat → Int32) → Nat → (Nat → Int32) → Nat → (Nat → Int32) → AB → Prop) (x3_182 : Int32) (x5_182 : Int32) (x7_182 : Int32) (x8_182 : Int32) (x9_182 : Int32) (x10_182 : Int32) (x11_182 : Int32) (x12_182 : Int32) (x14_182 : Int32) (s0_182 : Int32) (s1_182 : Int32) (mr1_182 : Nat) (fr1_182 : Nat → Int32) (mr2_182 : Nat) (fr2_182 : Nat → Int32) (mr4_182 : Nat) (fr4_182 : Nat → Int32) (σ : AB) : Prop :=
∀ v33 : Int32, v33 = (s1_182 + s0_182) →
(x14_182 = 0 →
(x12_182 = 126 →
wp_L_tokens_b210 K k_12 k_49 x3_182 x5_182 v33 x8_182 x9_182 x10_182 x11_182 x12_182 x7_182 mr1_182 fr1_182 mr2_182 fr2_182 mr4_182 fr4_182 σ) ∧
(¬ x12_182 = 126 →
(x12_182 = 33 →
wp_L_tokens_b210 K k_12 k_49 x3_182 x5_182 v33 x8_182 x9_182 x10_182 x11_182 x12_182 x7_182 mr1_182 fr1_182 mr2_182 fr2_182 mr4_182 fr4_182 σ) ∧
(¬ x12_182 = 33 →
wp_L_tokens_b215 K k_12 k_49 x3_182 x5_182 v33 x8_182 x9_182 x10_182 x11_182 x12_182 (-1 : Int32) x7_182 mr1_182 fr1_182 mr2_182 fr2_182 mr4_182 fr4_182 σ))) ∧
(¬ x14_182 = 0 →
wp_L_tokens_b215 K k_12 k_49 x3_182 x5_182 v33 x8_182 x9_182 x10_182 x11_182 x12_182 (1 : Int32) x7_182 mr1_182 fr1_182 mr2_182 fr2_182 mr4_182 fr4_182 σ)
def wp_L_tokens_b165 (K : (Int32 → AB → Prop)) (k_12 : Int32 → Nat → (Nat → Int32) → Nat → (Nat → Int32) → AB → Prop) (k_49 : Int32 → Int32 → Int32 → Int32 → Int32 → Int32 → Int32 → Int32 → Nat → (Nat → Int32) → Nat → (Nat → Int32) → Nat → (Nat → Int32) → AB → Prop) (x3_165 : Int32) (x5_165 : Int32) (x6_165 : Int32) (x7_165 : Int32) (x8_165 : Int32) (x9_165 : Int32) (x11_165 : Int32) (x12_165 : Int32) (x14_165 : Int32) (s0_165 : Int32) (s1_165 : Int32) (mr1_165 : Nat) (fr1_165 : Nat → Int32) (mr2_165 : Nat) (fr2_165 : Nat → Int32) (mr4_165 : Nat) (fr4_165 : Nat → Int32) (σ : AB) : Prop :=
∀ v34 : Int32, v34 = (s1_165 ||| s0_165) →
(x12_165 = 61 →
wp_L_tokens_b182 K k_12 k_49 x3_165 x5_165 x7_165 x8_165 x9_165 v34 x11_165 x12_165 x14_165 (1 : Int32) x6_165 mr1_165 fr1_165 mr2_165 fr2_165 mr4_165 fr4_165 σ) ∧
(¬ x12_165 = 61 →
wp_L_tokens_b182 K k_12 k_49 x3_165 x5_165 x7_165 x8_165 x9_165 v34 x11_165 x12_165 x14_165 (0 : Int32) x6_165 mr1_165 fr1_165 mr2_165 fr2_165 mr4_165 fr4_165 σ)
def wp_L_tokens_b137 (K : (Int32 → AB → Prop)) (k_12 : Int32 → Nat → (Nat → Int32) → Nat → (Nat → Int32) → AB → Prop) (k_49 : Int32 → Int32 → Int32 → Int32 → Int32 → Int32 → Int32 → Int32 → Nat → (Nat → Int32) → Nat → (Nat → Int32) → Nat → (Nat → Int32) → AB → Prop) (x3_137 : Int32) (x5_137 : Int32) (x6_137 : Int32) (x7_137 : Int32) (x8_137 : Int32) (x10_137 : Int32) (x11_137 : Int32) (x12_137 : Int32) (x14_137 : Int32) (s0_137 : Int32) (s1_137 : Int32) (mr1_137 : Nat) (fr1_137 : Nat → Int32) (mr2_137 : Nat) (fr2_137 : Nat → Int32) (mr4_137 : Nat) (fr4_137 : Nat → Int32) (σ : AB) : Prop :=
∀ v35 : Int32, v35 = (s1_137 ||| s0_137) →
(x12_137 = 61 →
(inb (x11_137 + 1) mr4_137 = true) ∧
wp_L_tokens_b165 K k_12 k_49 x3_137 x5_137 x6_137 x7_137 x8_137 v35 x11_137 x12_137 x14_137 ((1 : Int32) <<< (((fr4_137 (x11_137 + 1).toNatClampNeg) - 97) &&& 31)) x10_137 mr1_137 fr1_137 mr2_137 fr2_137 mr4_137 fr4_137 σ) ∧
(¬ x12_137 = 61 →
wp_L_tokens_b165 K k_12 k_49 x3_137 x5_137 x6_137 x7_137 x8_137 v35 x11_137 x12_137 x14_137 (0 : Int32) x10_137 mr1_137 fr1_137 mr2_137 fr2_137 mr4_137 fr4_137 σ)
def wp_L_tokens_b117 (K : (Int32 → AB → Prop)) (k_12 : Int32 → Nat → (Nat → Int32) → Nat → (Nat → Int32) → AB → Prop) (k_49 : Int32 → Int32 → Int32 → Int32 → Int32 → Int32 → Int32 → Int32 → Nat → (Nat → Int32) → Nat → (Nat → Int32) → Nat → (Nat → Int32) → AB → Prop) (x3_117 : Int32) (x5_117 : Int32) (x6_117 : Int32) (x7_117 : Int32) (x8_117 : Int32) (x9_117 : Int32) (x10_117 : Int32) (x11_117 : Int32) (x12_117 : Int32) (x13_117 : Int32) (s0_117 : Int32) (mr1_117 : Nat) (fr1_117 : Nat → Int32) (mr2_117 : Nat) (fr2_117 : Nat → Int32) (mr4_117 : Nat) (fr4_117 : Nat → Int32) (σ : AB) : Prop :=
(x13_117 = 0 →
wp_L_tokens_b137 K k_12 k_49 x3_117 x5_117 x6_117 x7_117 x8_117 x10_117 x11_117 x12_117 s0_117 (0 : Int32) x9_117 mr1_117 fr1_117 mr2_117 fr2_117 mr4_117 fr4_117 σ) ∧
(¬ x13_117 = 0 →
wp_L_tokens_b137 K k_12 k_49 x3_117 x5_117 x6_117 x7_117 x8_117 x10_117 x11_117 x12_117 s0_117 ((1 : Int32) <<< ((x12_117 - 97) &&& 31)) x9_117 mr1_117 fr1_117 mr2_117 fr2_117 mr4_117 fr4_117 σ)
def wp_L_tokens_b112 (K : (Int32 → AB → Prop)) (k_12 : Int32 → Nat → (Nat → Int32) → Nat → (Nat → Int32) → AB → Prop) (k_49 : Int32 → Int32 → Int32 → Int32 → Int32 → Int32 → Int32 → Int32 → Nat → (Nat → Int32) → Nat → (Nat → Int32) → Nat → (Nat → Int32) → AB → Prop) (x3_112 : Int32) (x5_112 : Int32) (x6_112 : Int32) (x7_112 : Int32) (x8_112 : Int32) (x9_112 : Int32) (x10_112 : Int32) (x11_112 : Int32) (x12_112 : Int32) (x13_112 : Int32) (mr1_112 : Nat) (fr1_112 : Nat → Int32) (mr2_112 : Nat) (fr2_112 : Nat → Int32) (mr4_112 : Nat) (fr4_112 : Nat → Int32) (σ : AB) : Prop :=
wp_L_tokens_b117 K k_12 k_49 x3_112 x5_112 x6_112 x7_112 x8_112 x9_112 x10_112 x11_112 x12_112 x13_112 (1 : Int32) mr1_112 fr1_112 mr2_112 fr2_112 mr4_112 fr4_112 σ
def wp_L_tokens_b97 (K : (Int32 → AB → Prop)) (k_12 : Int32 → Nat → (Nat → Int32) → Nat → (Nat → Int32) → AB → Prop) (k_49 : Int32 → Int32 → Int32 → Int32 → Int32 → Int32 → Int32 → Int32 → Nat → (Nat → Int32) → Nat → (Nat → Int32) → Nat → (Nat → Int32) → AB → Prop) (x3_97 : Int32) (x5_97 : Int32) (x6_97 : Int32) (x7_97 : Int32) (x8_97 : Int32) (x9_97 : Int32) (x10_97 : Int32) (x11_97 : Int32) (x12_97 : Int32) (s0_97 : Int32) (mr1_97 : Nat) (fr1_97 : Nat → Int32) (mr2_97 : Nat) (fr2_97 : Nat → Int32) (mr4_97 : Nat) (fr4_97 : Nat → Int32) (σ : AB) : Prop :=
(s0_97 = 0 →
wp_L_isDigit (fun (r37 : Int32) (σ36 : AB) =>
(r37 = 0 →
wp_L_tokens_b117 K k_12 k_49 x3_97 x5_97 x6_97 x7_97 x8_97 x9_97 x10_97 x11_97 x12_97 s0_97 (0 : Int32) mr1_97 fr1_97 mr2_97 fr2_97 mr4_97 fr4_97 σ36) ∧
(¬ r37 = 0 →
wp_L_tokens_b112 K k_12 k_49 x3_97 x5_97 x6_97 x7_97 x8_97 x9_97 x10_97 x11_97 x12_97 s0_97 mr1_97 fr1_97 mr2_97 fr2_97 mr4_97 fr4_97 σ36)) x12_97 σ) ∧
(¬ s0_97 = 0 →
wp_L_tokens_b112 K k_12 k_49 x3_97 x5_97 x6_97 x7_97 x8_97 x9_97 x10_97 x11_97 x12_97 s0_97 mr1_97 fr1_97 mr2_97 fr2_97 mr4_97 fr4_97 σ)
def wp_L_tokens_b96 (K : (Int32 → AB → Prop)) (k_12 : Int32 → Nat → (Nat → Int32) → Nat → (Nat → Int32) → AB → Prop) (k_49 : Int32 → Int32 → Int32 → Int32 → Int32 → Int32 → Int32 → Int32 → Nat → (Nat → Int32) → Nat → (Nat → Int32) → Nat → (Nat → Int32) → AB → Prop) (x3_96 : Int32) (x5_96 : Int32) (x6_96 : Int32) (x7_96 : Int32) (x8_96 : Int32) (x9_96 : Int32) (x10_96 : Int32) (x11_96 : Int32) (x12_96 : Int32) (mr1_96 : Nat) (fr1_96 : Nat → Int32) (mr2_96 : Nat) (fr2_96 : Nat → Int32) (mr4_96 : Nat) (fr4_96 : Nat → Int32) (σ : AB) : Prop :=
wp_L_tokens_b97 K k_12 k_49 x3_96 x5_96 x6_96 x7_96 x8_96 x9_96 x10_96 x11_96 x12_96 (0 : Int32) mr1_96 fr1_96 mr2_96 fr2_96 mr4_96 fr4_96 σ
def wp_L_tokens_b49 (K : (Int32 → AB → Prop)) (k_12 : Int32 → Nat → (Nat → Int32) → Nat → (Nat → Int32) → AB → Prop) : Nat → Int32 → Int32 → Int32 → Int32 → Int32 → Int32 → Int32 → Int32 → Nat → (Nat → Int32) → Nat → (Nat → Int32) → Nat → (Nat → Int32) → AB → Prop
  | 0, _, _, _, _, _, _, _, _, _, _, _, _, _, _, _ => False
  | n + 1, x3_49, x5_49, x6_49, x7_49, x8_49, x9_49, x10_49, x11_49, mr1_49, fr1_49, mr2_49, fr2_49, mr4_49, fr4_49, σ =>
    ((nI mr4_49) ≤ x11_49 →
    wp_L_tokens_b296 K k_12 7 x3_49 x5_49 x6_49 x7_49 x8_49 x9_49 x10_49 (0 : Int32) mr1_49 fr1_49 mr2_49 fr2_49 σ) ∧
    (¬ (nI mr4_49) ≤ x11_49 →
    (inb x11_49 mr4_49 = true) ∧
    ∀ v38 : Int32, v38 = (fr4_49 x11_49.toNatClampNeg) →
    ∀ r39 : Int32, r39 = f_token σ.1 x3_49 x5_49 →
    (r39 = v38 →
    (v38 < 97 →
    wp_L_tokens_b96 K k_12 (wp_L_tokens_b49 K k_12 n) x3_49 x5_49 x6_49 x7_49 x8_49 x9_49 x10_49 x11_49 v38 mr1_49 fr1_49 mr2_49 fr2_49 mr4_49 fr4_49 σ) ∧
    (¬ v38 < 97 →
    (102 < v38 →
    wp_L_tokens_b96 K k_12 (wp_L_tokens_b49 K k_12 n) x3_49 x5_49 x6_49 x7_49 x8_49 x9_49 x10_49 x11_49 v38 mr1_49 fr1_49 mr2_49 fr2_49 mr4_49 fr4_49 σ) ∧
    (¬ 102 < v38 →
    wp_L_tokens_b97 K k_12 (wp_L_tokens_b49 K k_12 n) x3_49 x5_49 x6_49 x7_49 x8_49 x9_49 x10_49 x11_49 v38 (1 : Int32) mr1_49 fr1_49 mr2_49 fr2_49 mr4_49 fr4_49 σ))) ∧
    (¬ r39 = v38 →
    K (0 : Int32) σ))
def wp_L_tokens_b12 (K : (Int32 → AB → Prop))  : Nat → Int32 → Nat → (Nat → Int32) → Nat → (Nat → Int32) → AB → Prop
  | 0, _, _, _, _, _, _ => False
  | n + 1, x3_12, mr1_12, fr1_12, mr2_12, fr2_12, σ =>
    (∃ n, n < 8 ∧ (1 : Int32) = nI n) ∧
    ∀ r40 : Int32, r40 = f_account σ.1 σ.2.2.2.2.2.2 (1 : Int32) →
    (r40 ≤ x3_12 →
    wp_L_tokens_b440 K 7 (0 : Int32) mr1_12 fr1_12 mr2_12 fr2_12 σ) ∧
    (¬ r40 ≤ x3_12 →
    wp_L_text (fun (nq23_42 : Nat) (fq23_42 : Nat → Int32) (σ41 : AB) =>
    wp_L_tokens_b49 K (wp_L_tokens_b12 K n) 62 x3_12 (0 : Int32) (0 : Int32) (0 : Int32) (0 : Int32) (0 : Int32) (0 : Int32) (0 : Int32) mr1_12 fr1_12 mr2_12 fr2_12 nq23_42 fq23_42 σ41) x3_12 σ)
def wp_L_tokens (K : (Int32 → AB → Prop))  (σ : AB) : Prop :=
wp_L_tokens_b12 K 5 (0 : Int32) 6 (fun _ => 0) 6 (fun _ => 0) σ
set_option maxHeartbeats 4000000 in
set_option maxRecDepth 100000 in
theorem lc_L_tokens (l : Launch) (hl9 : l.stackTraces = false) (dC : Nat → ClassId) (dI : Nat → Nat → Nat) (cT : Nat → ClassId) {Hh : Heap} {a0 : Nat} {σ : AB} {W0 : va_W} {K : (Int32 → AB → Prop)} (h : wp_L_tokens K σ) (hO : OB cT a0 σ W0) (hP0 : va_P (dC, dI) vwCl W0 Hh) (hD0 : va_D (fun _ => True) W0) : Met l yL_tokens (wA yL_tokens cL_tokens 16 (some .boolean)) ({ frames := 10, cells := 1403, slots := 28876, locals := 201 } : Room) (PU dC dI cT [.ref a0] Hh (va_A W0 Hh.size)) (QEI dC dI (fun r W1 => ∃ σ9, K r σ9 ∧ OB cT a0 σ9 W1) (va_A W0 Hh.size)) 1403 28876 (va_A W0 Hh.size) := by
  refine Met.ofW (cc := cL_tokens) (maxL := 16) (ret := (some .boolean)) (by decide) rfl ?_
  intro p e s m args below meth c s₁ B hml hv
  obtain ⟨rfl, hH, hK, hX, hN, hZ, hT⟩ := hv
  subst hH
  have hx := B.exec
  have hb := B.bytes
  have hr := B.returns
  have hta : ∀ w ∈ ALLW, w.before [.ref a0].toArray s = true := fun w hw => atoms_spec (ws := wA yL_tokens cL_tokens 16 (some .boolean)) B.pre w (List.mem_cons_of_mem _ hw)
  have hown : s.vm.findClass RL = some m.cls := findClass_of_methodNamed B.named
  have hlocks := B.notSynchronized
  have hD : va_D (va_A W0 s.heap.size) (([] : va_W) ++ W0) := hD0.self (sz := s.heap.size)
  generalize hAe : va_A W0 s.heap.size = A at hD hX hZ hT ⊢
  have hP : va_P (dC, dI) vwCl (([] : va_W) ++ W0) s.heap := hP0
  have hA : ∀ q : Nat, s.heap.size ≤ q → A q := fun q h => by rw [← hAe]; exact Or.inr h
  have hS : va_S A s.heap s.heap [] := va_S.rf
  have hl := lv_entry [.ref a0] (n := 16) (Nat.le_of_ble_eq_true rfl)
  rw [lg_entry_eq]
  generalize (lg_sl [.ref a0] ++ List.replicate (16 - (lg_sl [.ref a0]).length) Slot.unset).toArray = ls at hl ⊢
  have hl : lv_has ls 16 [(0, .ref a0)] := hl
  obtain ⟨Q, hQ⟩ : ∃ Q, Q = MQ below (QEI dC dI (fun r W1 => ∃ σ9, K r σ9 ∧ OB cT a0 σ9 W1) A) [.ref a0].toArray s 1403 28876 A := ⟨_, rfl⟩
  rw [← hQ]
  have wB_555 : ∀ (s0_555 : Int32) (σ : AB) (wo : va_W) (H : Heap) (locs : List Loc) (ls : Array Slot) (cells slots : Nat), wp_L_tokens_b555 K s0_555 σ → OB cT a0 σ wo → va_P (dC, dI) vwCl (([] : va_W) ++ wo) H → va_D A (([] : va_W) ++ wo) → va_S A s.heap H locs → lv_has ls 16 [] → cells + (0) ≤ 1403 → slots + (0) ≤ 28876 → W p l e ({ frames := 10, cells := 1403, slots := 28876, locals := 201 } : Room) s m [.ref a0].toArray below meth c H locs cells slots Q (F0 m 555 ls [.int s0_555]) := by
    intro s0_555 σ wo H locs ls cells slots h hO hP hD hS hl hc1 hc2
    unfold wp_L_tokens_b555 at h
    obtain ⟨hbz, h⟩ := h
    refine W.widen (k := 1403) (n := 28876) (by omega) (by omega) ?_
    rw [hQ]
    exact W.zret (ty := .boolean) (v := s0_555) hx hb hr (bo_n (v := s0_555) hbz) (fun t ht hW => ⟨⟨s0_555, wo, rfl, ⟨_, h, hO⟩, by rw [ht]; exact P_r hP, D_r hD⟩, hS.F ht⟩) hS.2.2 dL_tokens_555
  have wB_554 : ∀  (σ : AB) (wo : va_W) (H : Heap) (locs : List Loc) (ls : Array Slot) (cells slots : Nat), wp_L_tokens_b554 K  σ → OB cT a0 σ wo → va_P (dC, dI) vwCl (([] : va_W) ++ wo) H → va_D A (([] : va_W) ++ wo) → va_S A s.heap H locs → lv_has ls 16 [] → cells + (0) ≤ 1403 → slots + (0) ≤ 28876 → W p l e ({ frames := 10, cells := 1403, slots := 28876, locals := 201 } : Room) s m [.ref a0].toArray below meth c H locs cells slots Q (F0 m 554 ls []) := by
    intro  σ wo H locs ls cells slots h hO hP hD hS hl hc1 hc2
    unfold wp_L_tokens_b554 at h
    refine lv_iconst (v := 0) hx hb dL_tokens_554 (by decide) ?_
    exact wB_555 (0 : Int32) σ _ _ _ _ _ _ h hO hP hD hS (lv_sub hl [] rfl) (by omega) (by omega)
  have wB_496 : ∀  (σ : AB) (wo : va_W) (H : Heap) (locs : List Loc) (ls : Array Slot) (cells slots : Nat), wp_L_tokens_b496 K  σ → OB cT a0 σ wo → va_P (dC, dI) vwCl (([] : va_W) ++ wo) H → va_D A (([] : va_W) ++ wo) → va_S A s.heap H locs → lv_has ls 16 [] → cells + (0) ≤ 1403 → slots + (0) ≤ 28876 → W p l e ({ frames := 10, cells := 1403, slots := 28876, locals := 201 } : Room) s m [.ref a0].toArray below meth c H locs cells slots Q (F0 m 496 ls []) := by
    intro  σ wo H locs ls cells slots h hO hP hD hS hl hc1 hc2
    unfold wp_L_tokens_b496 at h
    refine lv_iconst (v := 0) hx hb dL_tokens_496 (by decide) ?_
    refine W.widen (k := 1403) (n := 28876) (by omega) (by omega) ?_
    rw [hQ]
    exact W.zret (ty := .boolean) (v := 0) hx hb hr (bo_n (v := 0) rfl) (fun t ht hW => ⟨⟨0, wo, rfl, ⟨_, h, hO⟩, by rw [ht]; exact P_r hP, D_r hD⟩, hS.F ht⟩) hS.2.2 dL_tokens_497
  have wB_440 : ∀ (n_440 : Nat), ∀ (x3_440 : Int32) (mr1_440 : Nat) (fr1_440 : Nat → Int32) (mr2_440 : Nat) (fr2_440 : Nat → Int32) (ar1_440 : Nat) (ar2_440 : Nat) (σ : AB) (wo : va_W) (H : Heap) (locs : List Loc) (ls : Array Slot) (cells slots : Nat), wp_L_tokens_b440 K n_440 x3_440 mr1_440 fr1_440 mr2_440 fr2_440 σ → OB cT a0 σ wo → va_P (dC, dI) vwCl (([(ar1_440, .inl (cT 0, mr1_440, .inl fr1_440)), (ar2_440, .inl (cT 0, mr2_440, .inl fr2_440))] : va_W) ++ wo) H → va_D A (([(ar1_440, .inl (cT 0, mr1_440, .inl fr1_440)), (ar2_440, .inl (cT 0, mr2_440, .inl fr2_440))] : va_W) ++ wo) → va_S A s.heap H locs → lv_has ls 16 [(0, .ref a0), (1, .ref ar1_440), (2, .ref ar2_440), (3, .int x3_440)] → cells + (8 + n_440 * 9) ≤ 1403 → slots + (48 + n_440 * 54) ≤ 28876 → W p l e ({ frames := 10, cells := 1403, slots := 28876, locals := 201 } : Room) s m [.ref a0].toArray below meth c H locs cells slots Q (F0 m 440 ls []) := by
    intro n_440
    induction n_440 with
    | zero =>
      intro x3_440 mr1_440 fr1_440 mr2_440 fr2_440 ar1_440 ar2_440 σ wo H locs ls cells slots h hO hP hD hS hl hc1 hc2
      exact False.elim h
    | succ n_440 ih_440 =>
      intro x3_440 mr1_440 fr1_440 mr2_440 fr2_440 ar1_440 ar2_440 σ wo H locs ls cells slots h hO hP hD hS hl hc1 hc2
      rw [wp_L_tokens_b440] at h
      refine lv_iload_n hx hb dL_tokens_440 rfl (lv_at hl 3 rfl) ?_
      refine lv_aload_n hx hb dL_tokens_441 rfl (lv_at hl 0 rfl) ?_
      refine lv_iconst (v := 0) hx hb dL_tokens_442 (by decide) ?_
      obtain ⟨hq, h⟩ := h
      refine coI (va_runV (As := [.int 0]) (rest := [.int x3_440]) ⟨hx, hb, hml, hown, hta⟩ (oc_X11_account l hl9 dC dI cT hO hq (P_r hP) ((D_r hD).weaken (fun _ _ _ _ => trivial))) (cV hta lm_L_229 md_X11_account ⟨(Nat.le_of_ble_eq_true rfl), (Nat.le_of_ble_eq_true rfl)⟩) ⟨fbU, recvO hK hO (P_r hP), fun U hU hW => ⟨rfl, hU, va_K.moved hW.alike hK, XS.call hX hS hU hW (freeO hD hS hA), hN.warm hW, ZS.call hZ hS hU hW (freeO hD hS hA), LT.call hT hS hU hW (freeO hD hS hA)⟩⟩ rfl rfl hl.1 rfl (lv_room (Nat.le_of_ble_eq_true rfl)) dL_tokens_443 ⟨by show _ ≤ (1403 : Nat); omega, by show _ ≤ (28876 : Nat); omega⟩) hS hA hP hD (fun r1 wo H locs hw hP hD hS => ?_)
      obtain ⟨hr9, hO⟩ := hw
      have h := h r1 hr9
      refine lv_icmp_ge (tgt := 504) hx hb dL_tokens_446 (by decide) (fun c0 => ?_) (fun c0 => ?_)
      · have h := h.1 c0
        refine lv_aload_n hx hb dL_tokens_504 rfl (lv_at hl 0 rfl) ?_
        refine lv_iconst (v := 1) hx hb dL_tokens_505 (by decide) ?_
        obtain ⟨hq, h⟩ := h
        refine coI (va_runV (As := [.int 1]) (rest := []) ⟨hx, hb, hml, hown, hta⟩ (oc_X11_account l hl9 dC dI cT hO hq (P_r hP) ((D_r hD).weaken (fun _ _ _ _ => trivial))) (cV hta lm_L_229 md_X11_account ⟨(Nat.le_of_ble_eq_true rfl), (Nat.le_of_ble_eq_true rfl)⟩) ⟨fbU, recvO hK hO (P_r hP), fun U hU hW => ⟨rfl, hU, va_K.moved hW.alike hK, XS.call hX hS hU hW (freeO hD hS hA), hN.warm hW, ZS.call hZ hS hU hW (freeO hD hS hA), LT.call hT hS hU hW (freeO hD hS hA)⟩⟩ rfl rfl hl.1 rfl (lv_room (Nat.le_of_ble_eq_true rfl)) dL_tokens_506 ⟨by show _ ≤ (1403 : Nat); omega, by show _ ≤ (28876 : Nat); omega⟩) hS hA hP hD (fun r2 wo H locs hw hP hD hS => ?_)
        obtain ⟨hr9, hO⟩ := hw
        have h := h r2 hr9
        refine lv_istore_n (lv' := [(3, .int r2), (0, .ref a0), (1, .ref ar1_440), (2, .ref ar2_440)]) hx hb dL_tokens_509 rfl hl (by decide) rfl (fun ls hl => ?_)
        refine lv_aload_n hx hb dL_tokens_510 rfl (lv_at hl 1 rfl) ?_
        refine lv_aload_n hx hb dL_tokens_511 rfl (lv_at hl 1 rfl) ?_
        refine lv_iconst (v := 0) hx hb dL_tokens_512 (by decide) ?_
        obtain ⟨hq, h⟩ := h
        refine coI (va_runV (As := [.int 0]) (rest := [.ref a0]) ⟨hx, hb, hml, hown, hta⟩ (oc_X11_account l hl9 dC dI cT hO hq (P_r hP) ((D_r hD).weaken (fun _ _ _ _ => trivial))) (cV hta lm_L_229 md_X11_account ⟨(Nat.le_of_ble_eq_true rfl), (Nat.le_of_ble_eq_true rfl)⟩) ⟨fbU, recvO hK hO (P_r hP), fun U hU hW => ⟨rfl, hU, va_K.moved hW.alike hK, XS.call hX hS hU hW (freeO hD hS hA), hN.warm hW, ZS.call hZ hS hU hW (freeO hD hS hA), LT.call hT hS hU hW (freeO hD hS hA)⟩⟩ rfl rfl hl.1 rfl (lv_room (Nat.le_of_ble_eq_true rfl)) dL_tokens_513 ⟨by show _ ≤ (1403 : Nat); omega, by show _ ≤ (28876 : Nat); omega⟩) hS hA hP hD (fun r3 wo H locs hw hP hD hS => ?_)
        obtain ⟨hr9, hO⟩ := hw
        have h := h r3 hr9
        refine lv_bipush (v := 9) hx hb dL_tokens_516 (by decide) ?_
        refine coI (vx_runSW (As := [.ref a0, .int r3, .int 9]) (rest := []) ⟨hx, hb, hml, hown, hta⟩ (oc_L_of l hl9 dC dI cT hO (P_r hP) ((D_r hD).weaken (fun _ _ _ _ => trivial))) (cW hta lm_L_186 mw_L_of ⟨(Nat.le_of_ble_eq_true rfl), (Nat.le_of_ble_eq_true rfl)⟩) ⟨fbU, fun U hU hW => ⟨rfl, hU, va_K.moved hW.alike hK, XS.call hX hS hU hW (freeO hD hS hA), hN.warm hW, ZS.call hZ hS hU hW (freeO hD hS hA), LT.call hT hS hU hW (freeO hD hS hA)⟩⟩ rfl rfl hl.1 rfl (lv_room (Nat.le_of_ble_eq_true rfl)) dL_tokens_518 ⟨by show _ ≤ (1403 : Nat); omega, by show _ ≤ (28876 : Nat); omega⟩) hS hA hP hD (fun r4 wo H locs hw hP hD hS => ?_)
        obtain ⟨hr9, hO⟩ := hw
        have h := h r4 hr9
        refine lv_sipush (v := -1001) hx hb dL_tokens_521 (by decide) ?_
        refine lv_icmp_ne (tgt := 554) hx hb dL_tokens_524 (by decide) (fun c0 => ?_) (fun c0 => ?_)
        · have h := h.2 c0
          have hP := P_perm (X' := ([] : va_W)) hP [] rfl
          have hD := D_perm (X' := ([] : va_W)) hD [] (by decide) rfl
          exact wB_554 σ _ _ _ _ _ _ h hO hP hD hS (lv_sub hl [] rfl) (by omega) (by omega)
        · have h := h.1 c0
          refine lv_aload_n hx hb dL_tokens_527 rfl (lv_at hl 1 rfl) ?_
          refine lv_iload_n hx hb dL_tokens_528 rfl (lv_at hl 0 rfl) ?_
          refine lv_bipush (v := 9) hx hb dL_tokens_529 (by decide) ?_
          refine coI (vx_runSW (As := [.ref a0, .int r2, .int 9]) (rest := []) ⟨hx, hb, hml, hown, hta⟩ (oc_L_spellOf l hl9 dC dI cT hO (P_r hP) ((D_r hD).weaken (fun _ _ _ _ => trivial))) (cW hta lm_L_247 mw_L_spellOf ⟨(Nat.le_of_ble_eq_true rfl), (Nat.le_of_ble_eq_true rfl)⟩) ⟨fbU, fun U hU hW => ⟨rfl, hU, va_K.moved hW.alike hK, XS.call hX hS hU hW (freeO hD hS hA), hN.warm hW, ZS.call hZ hS hU hW (freeO hD hS hA), LT.call hT hS hU hW (freeO hD hS hA)⟩⟩ rfl rfl hl.1 rfl (lv_room (Nat.le_of_ble_eq_true rfl)) dL_tokens_531 ⟨by show _ ≤ (1403 : Nat); omega, by show _ ≤ (28876 : Nat); omega⟩) hS hA hP hD (fun r5 wo H locs hw hP hD hS => ?_)
          obtain ⟨hr9, hO⟩ := hw
          have h := h r5 hr9
          refine lv_bipush (v := -11) hx hb dL_tokens_534 (by decide) ?_
          refine lv_icmp_ne (tgt := 554) hx hb dL_tokens_536 (by decide) (fun c0 => ?_) (fun c0 => ?_)
          · have h := h.2 c0
            have hP := P_perm (X' := ([] : va_W)) hP [] rfl
            have hD := D_perm (X' := ([] : va_W)) hD [] (by decide) rfl
            exact wB_554 σ _ _ _ _ _ _ h hO hP hD hS (lv_sub hl [] rfl) (by omega) (by omega)
          · have h := h.1 c0
            refine lv_aload_n hx hb dL_tokens_539 rfl (lv_at hl 1 rfl) ?_
            refine lv_iload_n hx hb dL_tokens_540 rfl (lv_at hl 0 rfl) ?_
            refine lv_iconst (v := 0) hx hb dL_tokens_541 (by decide) ?_
            refine coI (vx_runSW (As := [.ref a0, .int r2, .int 0]) (rest := []) ⟨hx, hb, hml, hown, hta⟩ (oc_L_token l hl9 dC dI cT hO (P_r hP) ((D_r hD).weaken (fun _ _ _ _ => trivial))) (cW hta lm_L_236 mw_L_token ⟨(Nat.le_of_ble_eq_true rfl), (Nat.le_of_ble_eq_true rfl)⟩) ⟨fbU, fun U hU hW => ⟨rfl, hU, va_K.moved hW.alike hK, XS.call hX hS hU hW (freeO hD hS hA), hN.warm hW, ZS.call hZ hS hU hW (freeO hD hS hA), LT.call hT hS hU hW (freeO hD hS hA)⟩⟩ rfl rfl hl.1 rfl (lv_room (Nat.le_of_ble_eq_true rfl)) dL_tokens_542 ⟨by show _ ≤ (1403 : Nat); omega, by show _ ≤ (28876 : Nat); omega⟩) hS hA hP hD (fun r6 wo H locs hw hP hD hS => ?_)
            obtain ⟨hr9, hO⟩ := hw
            have h := h r6 hr9
            refine lv_bipush (v := -11) hx hb dL_tokens_545 (by decide) ?_
            refine lv_icmp_ne (tgt := 554) hx hb dL_tokens_547 (by decide) (fun c0 => ?_) (fun c0 => ?_)
            · have h := h.2 c0
              have hP := P_perm (X' := ([] : va_W)) hP [] rfl
              have hD := D_perm (X' := ([] : va_W)) hD [] (by decide) rfl
              exact wB_554 σ _ _ _ _ _ _ h hO hP hD hS (lv_sub hl [] rfl) (by omega) (by omega)
            · have h := h.1 c0
              refine lv_iconst (v := 1) hx hb dL_tokens_550 (by decide) ?_
              refine lv_goto (tgt := 555) hx hb dL_tokens_551 (by decide) ?_
              have hP := P_perm (X' := ([] : va_W)) hP [] rfl
              have hD := D_perm (X' := ([] : va_W)) hD [] (by decide) rfl
              exact wB_555 (1 : Int32) σ _ _ _ _ _ _ h hO hP hD hS (lv_sub hl [] rfl) (by omega) (by omega)
      · have h := h.2 c0
        refine lv_aload_n hx hb dL_tokens_449 rfl (lv_at hl 0 rfl) ?_
        refine lv_iload_n hx hb dL_tokens_450 rfl (lv_at hl 3 rfl) ?_
        refine lv_iconst (v := 5) hx hb dL_tokens_451 (by decide) ?_
        refine coI (vx_runSW (As := [.ref a0, .int x3_440, .int 5]) (rest := []) ⟨hx, hb, hml, hown, hta⟩ (oc_L_of l hl9 dC dI cT hO (P_r hP) ((D_r hD).weaken (fun _ _ _ _ => trivial))) (cW hta lm_L_186 mw_L_of ⟨(Nat.le_of_ble_eq_true rfl), (Nat.le_of_ble_eq_true rfl)⟩) ⟨fbU, fun U hU hW => ⟨rfl, hU, va_K.moved hW.alike hK, XS.call hX hS hU hW (freeO hD hS hA), hN.warm hW, ZS.call hZ hS hU hW (freeO hD hS hA), LT.call hT hS hU hW (freeO hD hS hA)⟩⟩ rfl rfl hl.1 rfl (lv_room (Nat.le_of_ble_eq_true rfl)) dL_tokens_452 ⟨by show _ ≤ (1403 : Nat); omega, by show _ ≤ (28876 : Nat); omega⟩) hS hA hP hD (fun r7 wo H locs hw hP hD hS => ?_)
        obtain ⟨hr9, hO⟩ := hw
        have h := h r7 hr9
        refine lv_aload_n hx hb dL_tokens_455 rfl (lv_at hl 1 rfl) ?_
        refine lv_iload_n hx hb dL_tokens_456 rfl (lv_at hl 3 rfl) ?_
        obtain ⟨hc, h⟩ := h
        refine va_iald hx hb hK hP 0 0 rfl rfl (inb_in hc) dL_tokens_457 ?_
        refine lv_icmp_ne (tgt := 496) hx hb dL_tokens_458 (by decide) (fun c0 => ?_) (fun c0 => ?_)
        · have h := h.2 c0
          have hP := P_perm (X' := ([] : va_W)) hP [] rfl
          have hD := D_perm (X' := ([] : va_W)) hD [] (by decide) rfl
          exact wB_496 σ _ _ _ _ _ _ h hO hP hD hS (lv_sub hl [] rfl) (by omega) (by omega)
        · have h := h.1 c0
          refine lv_aload_n hx hb dL_tokens_461 rfl (lv_at hl 0 rfl) ?_
          refine lv_iload_n hx hb dL_tokens_462 rfl (lv_at hl 3 rfl) ?_
          refine lv_bipush (v := 6) hx hb dL_tokens_463 (by decide) ?_
          refine coI (vx_runSW (As := [.ref a0, .int x3_440, .int 6]) (rest := []) ⟨hx, hb, hml, hown, hta⟩ (oc_L_of l hl9 dC dI cT hO (P_r hP) ((D_r hD).weaken (fun _ _ _ _ => trivial))) (cW hta lm_L_186 mw_L_of ⟨(Nat.le_of_ble_eq_true rfl), (Nat.le_of_ble_eq_true rfl)⟩) ⟨fbU, fun U hU hW => ⟨rfl, hU, va_K.moved hW.alike hK, XS.call hX hS hU hW (freeO hD hS hA), hN.warm hW, ZS.call hZ hS hU hW (freeO hD hS hA), LT.call hT hS hU hW (freeO hD hS hA)⟩⟩ rfl rfl hl.1 rfl (lv_room (Nat.le_of_ble_eq_true rfl)) dL_tokens_465 ⟨by show _ ≤ (1403 : Nat); omega, by show _ ≤ (28876 : Nat); omega⟩) hS hA hP hD (fun r8 wo H locs hw hP hD hS => ?_)
          obtain ⟨hr9, hO⟩ := hw
          have h := h r8 hr9
          refine lv_aload_n hx hb dL_tokens_468 rfl (lv_at hl 2 rfl) ?_
          refine lv_iload_n hx hb dL_tokens_469 rfl (lv_at hl 3 rfl) ?_
          obtain ⟨hc, h⟩ := h
          refine va_iald hx hb hK hP 1 0 rfl rfl (inb_in hc) dL_tokens_470 ?_
          refine lv_icmp_ne (tgt := 496) hx hb dL_tokens_471 (by decide) (fun c0 => ?_) (fun c0 => ?_)
          · have h := h.2 c0
            have hP := P_perm (X' := ([] : va_W)) hP [] rfl
            have hD := D_perm (X' := ([] : va_W)) hD [] (by decide) rfl
            exact wB_496 σ _ _ _ _ _ _ h hO hP hD hS (lv_sub hl [] rfl) (by omega) (by omega)
          · have h := h.1 c0
            refine lv_aload_n hx hb dL_tokens_474 rfl (lv_at hl 0 rfl) ?_
            refine lv_iload_n hx hb dL_tokens_475 rfl (lv_at hl 3 rfl) ?_
            refine lv_iconst (v := 4) hx hb dL_tokens_476 (by decide) ?_
            refine coI (vx_runSW (As := [.ref a0, .int x3_440, .int 4]) (rest := []) ⟨hx, hb, hml, hown, hta⟩ (oc_L_of l hl9 dC dI cT hO (P_r hP) ((D_r hD).weaken (fun _ _ _ _ => trivial))) (cW hta lm_L_186 mw_L_of ⟨(Nat.le_of_ble_eq_true rfl), (Nat.le_of_ble_eq_true rfl)⟩) ⟨fbU, fun U hU hW => ⟨rfl, hU, va_K.moved hW.alike hK, XS.call hX hS hU hW (freeO hD hS hA), hN.warm hW, ZS.call hZ hS hU hW (freeO hD hS hA), LT.call hT hS hU hW (freeO hD hS hA)⟩⟩ rfl rfl hl.1 rfl (lv_room (Nat.le_of_ble_eq_true rfl)) dL_tokens_477 ⟨by show _ ≤ (1403 : Nat); omega, by show _ ≤ (28876 : Nat); omega⟩) hS hA hP hD (fun r9 wo H locs hw hP hD hS => ?_)
            obtain ⟨hr9, hO⟩ := hw
            have h := h r9 hr9
            refine lv_if_ne (tgt := 496) hx hb dL_tokens_480 (by decide) (fun c0 => ?_) (fun c0 => ?_)
            · have h := h.2 c0
              have hP := P_perm (X' := ([] : va_W)) hP [] rfl
              have hD := D_perm (X' := ([] : va_W)) hD [] (by decide) rfl
              exact wB_496 σ _ _ _ _ _ _ h hO hP hD hS (lv_sub hl [] rfl) (by omega) (by omega)
            · have h := h.1 c0
              refine lv_aload_n hx hb dL_tokens_483 rfl (lv_at hl 0 rfl) ?_
              refine lv_iload_n hx hb dL_tokens_484 rfl (lv_at hl 3 rfl) ?_
              refine lv_bipush (v := 7) hx hb dL_tokens_485 (by decide) ?_
              refine coI (vx_runSW (As := [.ref a0, .int x3_440, .int 7]) (rest := []) ⟨hx, hb, hml, hown, hta⟩ (oc_L_of l hl9 dC dI cT hO (P_r hP) ((D_r hD).weaken (fun _ _ _ _ => trivial))) (cW hta lm_L_186 mw_L_of ⟨(Nat.le_of_ble_eq_true rfl), (Nat.le_of_ble_eq_true rfl)⟩) ⟨fbU, fun U hU hW => ⟨rfl, hU, va_K.moved hW.alike hK, XS.call hX hS hU hW (freeO hD hS hA), hN.warm hW, ZS.call hZ hS hU hW (freeO hD hS hA), LT.call hT hS hU hW (freeO hD hS hA)⟩⟩ rfl rfl hl.1 rfl (lv_room (Nat.le_of_ble_eq_true rfl)) dL_tokens_487 ⟨by show _ ≤ (1403 : Nat); omega, by show _ ≤ (28876 : Nat); omega⟩) hS hA hP hD (fun r10 wo H locs hw hP hD hS => ?_)
              obtain ⟨hr9, hO⟩ := hw
              have h := h r10 hr9
              refine lv_sipush (v := -1003) hx hb dL_tokens_490 (by decide) ?_
              refine lv_icmp_eq (tgt := 498) hx hb dL_tokens_493 (by decide) (fun c0 => ?_) (fun c0 => ?_)
              · have h := h.1 c0
                obtain ⟨v11, e_v⟩ : ∃ y : Int32, y = x3_440 + 1 := ⟨_, rfl⟩
                have h := h v11 e_v
                refine lv_iinc (v := v11) (lv' := [(3, .int v11), (0, .ref a0), (1, .ref ar1_440), (2, .ref ar2_440)]) hx hb dL_tokens_498 hl (k := 3) rfl (by rw [e_v]; rfl) (by decide) rfl (fun ls hl => ?_)
                refine lv_goto (tgt := 440) hx hb dL_tokens_501 (by decide) ?_
                exact ih_440 v11 mr1_440 fr1_440 mr2_440 fr2_440 ar1_440 ar2_440 σ _ _ _ _ _ _ h hO hP hD hS (lv_sub hl [1, 2, 3, 0] rfl) (by omega) (by omega)
              · have h := h.2 c0
                have hP := P_perm (X' := ([] : va_W)) hP [] rfl
                have hD := D_perm (X' := ([] : va_W)) hD [] (by decide) rfl
                exact wB_496 σ _ _ _ _ _ _ h hO hP hD hS (lv_sub hl [] rfl) (by omega) (by omega)
  have wB_12 : ∀ (n_12 : Nat), ∀ (x3_12 : Int32) (mr1_12 : Nat) (fr1_12 : Nat → Int32) (mr2_12 : Nat) (fr2_12 : Nat → Int32) (ar1_12 : Nat) (ar2_12 : Nat) (σ : AB) (wo : va_W) (H : Heap) (locs : List Loc) (ls : Array Slot) (cells slots : Nat), wp_L_tokens_b12 K n_12 x3_12 mr1_12 fr1_12 mr2_12 fr2_12 σ → OB cT a0 σ wo → va_P (dC, dI) vwCl (([(ar1_12, .inl (cT 0, mr1_12, .inl fr1_12)), (ar2_12, .inl (cT 0, mr2_12, .inl fr2_12))] : va_W) ++ wo) H → va_D A (([(ar1_12, .inl (cT 0, mr1_12, .inl fr1_12)), (ar2_12, .inl (cT 0, mr2_12, .inl fr2_12))] : va_W) ++ wo) → va_S A s.heap H locs → lv_has ls 16 [(0, .ref a0), (1, .ref ar1_12), (2, .ref ar2_12), (3, .int x3_12)] → cells + (71 + n_12 * 266) ≤ 1403 → slots + (426 + n_12 * 5666) ≤ 28876 → W p l e ({ frames := 10, cells := 1403, slots := 28876, locals := 201 } : Room) s m [.ref a0].toArray below meth c H locs cells slots Q (F0 m 12 ls []) := by
    intro n_12
    induction n_12 with
    | zero =>
      intro x3_12 mr1_12 fr1_12 mr2_12 fr2_12 ar1_12 ar2_12 σ wo H locs ls cells slots h hO hP hD hS hl hc1 hc2
      exact False.elim h
    | succ n_12 ih_12 =>
      have wB_423 : ∀ (x3_423 : Int32) (s0_423 : Int32) (mr1_423 : Nat) (fr1_423 : Nat → Int32) (mr2_423 : Nat) (fr2_423 : Nat → Int32) (ar1_423 : Nat) (ar2_423 : Nat) (σ : AB) (wo : va_W) (H : Heap) (locs : List Loc) (ls : Array Slot) (cells slots : Nat), wp_L_tokens_b423 K (wp_L_tokens_b12 K n_12) x3_423 s0_423 mr1_423 fr1_423 mr2_423 fr2_423 σ → OB cT a0 σ wo → va_P (dC, dI) vwCl (([(ar1_423, .inl (cT 0, mr1_423, .inl fr1_423)), (ar2_423, .inl (cT 0, mr2_423, .inl fr2_423))] : va_W) ++ wo) H → va_D A (([(ar1_423, .inl (cT 0, mr1_423, .inl fr1_423)), (ar2_423, .inl (cT 0, mr2_423, .inl fr2_423))] : va_W) ++ wo) → va_S A s.heap H locs → lv_has ls 16 [(0, .ref a0), (1, .ref ar1_423), (2, .ref ar2_423), (3, .int x3_423)] → cells + (71 + n_12 * 266) ≤ 1403 → slots + (426 + n_12 * 5666) ≤ 28876 → W p l e ({ frames := 10, cells := 1403, slots := 28876, locals := 201 } : Room) s m [.ref a0].toArray below meth c H locs cells slots Q (F0 m 423 ls [.int s0_423]) := by
        intro x3_423 s0_423 mr1_423 fr1_423 mr2_423 fr2_423 ar1_423 ar2_423 σ wo H locs ls cells slots h hO hP hD hS hl hc1 hc2
        unfold wp_L_tokens_b423 at h
        refine lv_istore (lv' := [(12, .int s0_423), (0, .ref a0), (1, .ref ar1_423), (2, .ref ar2_423), (3, .int x3_423)]) hx hb dL_tokens_423 hl (by decide) rfl (fun ls hl => ?_)
        refine lv_iload hx hb dL_tokens_425 (lv_at hl 0 rfl) ?_
        refine lv_if_ne (tgt := 432) hx hb dL_tokens_427 (by decide) (fun c0 => ?_) (fun c0 => ?_)
        · have h := h.2 c0
          obtain ⟨v12, e_v⟩ : ∃ y : Int32, y = x3_423 + 1 := ⟨_, rfl⟩
          have h := h v12 e_v
          refine lv_iinc (v := v12) (lv' := [(3, .int v12), (12, .int s0_423), (0, .ref a0), (1, .ref ar1_423), (2, .ref ar2_423)]) hx hb dL_tokens_432 hl (k := 4) rfl (by rw [e_v]; rfl) (by decide) rfl (fun ls hl => ?_)
          refine lv_goto (tgt := 12) hx hb dL_tokens_435 (by decide) ?_
          exact ih_12 v12 mr1_423 fr1_423 mr2_423 fr2_423 ar1_423 ar2_423 σ _ _ _ _ _ _ h hO hP hD hS (lv_sub hl [2, 3, 4, 0] rfl) (by omega) (by omega)
        · have h := h.1 c0
          refine lv_iconst (v := 0) hx hb dL_tokens_430 (by decide) ?_
          refine W.widen (k := 1403) (n := 28876) (by omega) (by omega) ?_
          rw [hQ]
          exact W.zret (ty := .boolean) (v := 0) hx hb hr (bo_n (v := 0) rfl) (fun t ht hW => ⟨⟨0, wo, rfl, ⟨_, h, hO⟩, by rw [ht]; exact P_r hP, D_r hD⟩, hS.F ht⟩) hS.2.2 dL_tokens_431
      have wB_422 : ∀ (x3_422 : Int32) (mr1_422 : Nat) (fr1_422 : Nat → Int32) (mr2_422 : Nat) (fr2_422 : Nat → Int32) (ar1_422 : Nat) (ar2_422 : Nat) (σ : AB) (wo : va_W) (H : Heap) (locs : List Loc) (ls : Array Slot) (cells slots : Nat), wp_L_tokens_b422 K (wp_L_tokens_b12 K n_12) x3_422 mr1_422 fr1_422 mr2_422 fr2_422 σ → OB cT a0 σ wo → va_P (dC, dI) vwCl (([(ar1_422, .inl (cT 0, mr1_422, .inl fr1_422)), (ar2_422, .inl (cT 0, mr2_422, .inl fr2_422))] : va_W) ++ wo) H → va_D A (([(ar1_422, .inl (cT 0, mr1_422, .inl fr1_422)), (ar2_422, .inl (cT 0, mr2_422, .inl fr2_422))] : va_W) ++ wo) → va_S A s.heap H locs → lv_has ls 16 [(0, .ref a0), (1, .ref ar1_422), (2, .ref ar2_422), (3, .int x3_422)] → cells + (71 + n_12 * 266) ≤ 1403 → slots + (426 + n_12 * 5666) ≤ 28876 → W p l e ({ frames := 10, cells := 1403, slots := 28876, locals := 201 } : Room) s m [.ref a0].toArray below meth c H locs cells slots Q (F0 m 422 ls []) := by
        intro x3_422 mr1_422 fr1_422 mr2_422 fr2_422 ar1_422 ar2_422 σ wo H locs ls cells slots h hO hP hD hS hl hc1 hc2
        unfold wp_L_tokens_b422 at h
        refine lv_iconst (v := 0) hx hb dL_tokens_422 (by decide) ?_
        exact wB_423 x3_422 (0 : Int32) mr1_422 fr1_422 mr2_422 fr2_422 ar1_422 ar2_422 σ _ _ _ _ _ _ h hO hP hD hS (lv_sub hl [0, 1, 2, 3] rfl) (by omega) (by omega)
      have wB_296 : ∀ (n_296 : Nat), ∀ (x3_296 : Int32) (x5_296 : Int32) (x6_296 : Int32) (x7_296 : Int32) (x8_296 : Int32) (x9_296 : Int32) (x10_296 : Int32) (x12_296 : Int32) (mr1_296 : Nat) (fr1_296 : Nat → Int32) (mr2_296 : Nat) (fr2_296 : Nat → Int32) (ar1_296 : Nat) (ar2_296 : Nat) (σ : AB) (wo : va_W) (H : Heap) (locs : List Loc) (ls : Array Slot) (cells slots : Nat), wp_L_tokens_b296 K (wp_L_tokens_b12 K n_12) n_296 x3_296 x5_296 x6_296 x7_296 x8_296 x9_296 x10_296 x12_296 mr1_296 fr1_296 mr2_296 fr2_296 σ → OB cT a0 σ wo → va_P (dC, dI) vwCl (([(ar1_296, .inl (cT 0, mr1_296, .inl fr1_296)), (ar2_296, .inl (cT 0, mr2_296, .inl fr2_296))] : va_W) ++ wo) H → va_D A (([(ar1_296, .inl (cT 0, mr1_296, .inl fr1_296)), (ar2_296, .inl (cT 0, mr2_296, .inl fr2_296))] : va_W) ++ wo) → va_S A s.heap H locs → lv_has ls 16 [(0, .ref a0), (1, .ref ar1_296), (2, .ref ar2_296), (3, .int x3_296), (5, .int x5_296), (6, .int x6_296), (7, .int x7_296), (8, .int x8_296), (9, .int x9_296), (10, .int x10_296), (12, .int x12_296)] → cells + (85 + n_12 * 266) ≤ 1403 → slots + (510 + n_12 * 5666) ≤ 28876 → W p l e ({ frames := 10, cells := 1403, slots := 28876, locals := 201 } : Room) s m [.ref a0].toArray below meth c H locs cells slots Q (F0 m 296 ls []) := by
        intro n_296
        induction n_296 with
        | zero =>
          intro x3_296 x5_296 x6_296 x7_296 x8_296 x9_296 x10_296 x12_296 mr1_296 fr1_296 mr2_296 fr2_296 ar1_296 ar2_296 σ wo H locs ls cells slots h hO hP hD hS hl hc1 hc2
          exact False.elim h
        | succ n_296 ih_296 =>
          intro x3_296 x5_296 x6_296 x7_296 x8_296 x9_296 x10_296 x12_296 mr1_296 fr1_296 mr2_296 fr2_296 ar1_296 ar2_296 σ wo H locs ls cells slots h hO hP hD hS hl hc1 hc2
          rw [wp_L_tokens_b296] at h
          refine lv_iload hx hb dL_tokens_296 (lv_at hl 10 rfl) ?_
          refine lv_bipush (v := 6) hx hb dL_tokens_298 (by decide) ?_
          refine lv_icmp_ge (tgt := 337) hx hb dL_tokens_300 (by decide) (fun c0 => ?_) (fun c0 => ?_)
          · have h := h.1 c0
            refine lv_aload_n hx hb dL_tokens_337 rfl (lv_at hl 0 rfl) ?_
            refine lv_iload_n hx hb dL_tokens_338 rfl (lv_at hl 3 rfl) ?_
            refine lv_iconst (v := 0) hx hb dL_tokens_339 (by decide) ?_
            refine coI (vx_runSW (As := [.ref a0, .int x3_296, .int 0]) (rest := []) ⟨hx, hb, hml, hown, hta⟩ (oc_L_spellOf l hl9 dC dI cT hO (P_r hP) ((D_r hD).weaken (fun _ _ _ _ => trivial))) (cW hta lm_L_247 mw_L_spellOf ⟨(Nat.le_of_ble_eq_true rfl), (Nat.le_of_ble_eq_true rfl)⟩) ⟨fbU, fun U hU hW => ⟨rfl, hU, va_K.moved hW.alike hK, XS.call hX hS hU hW (freeO hD hS hA), hN.warm hW, ZS.call hZ hS hU hW (freeO hD hS hA), LT.call hT hS hU hW (freeO hD hS hA)⟩⟩ rfl rfl hl.1 rfl (lv_room (Nat.le_of_ble_eq_true rfl)) dL_tokens_340 ⟨by show _ ≤ (1403 : Nat); omega, by show _ ≤ (28876 : Nat); omega⟩) hS hA hP hD (fun r13 wo H locs hw hP hD hS => ?_)
            obtain ⟨hr9, hO⟩ := hw
            have h := h r13 hr9
            refine lv_iload hx hb dL_tokens_343 (lv_at hl 4 rfl) ?_
            refine lv_icmp_ne (tgt := 422) hx hb dL_tokens_345 (by decide) (fun c0 => ?_) (fun c0 => ?_)
            · have h := h.2 c0
              exact wB_422 x3_296 mr1_296 fr1_296 mr2_296 fr2_296 ar1_296 ar2_296 σ _ _ _ _ _ _ h hO hP hD hS (lv_sub hl [0, 1, 2, 3] rfl) (by omega) (by omega)
            · have h := h.1 c0
              refine lv_aload_n hx hb dL_tokens_348 rfl (lv_at hl 0 rfl) ?_
              refine lv_iload_n hx hb dL_tokens_349 rfl (lv_at hl 3 rfl) ?_
              refine lv_iconst (v := 1) hx hb dL_tokens_350 (by decide) ?_
              refine coI (vx_runSW (As := [.ref a0, .int x3_296, .int 1]) (rest := []) ⟨hx, hb, hml, hown, hta⟩ (oc_L_spellOf l hl9 dC dI cT hO (P_r hP) ((D_r hD).weaken (fun _ _ _ _ => trivial))) (cW hta lm_L_247 mw_L_spellOf ⟨(Nat.le_of_ble_eq_true rfl), (Nat.le_of_ble_eq_true rfl)⟩) ⟨fbU, fun U hU hW => ⟨rfl, hU, va_K.moved hW.alike hK, XS.call hX hS hU hW (freeO hD hS hA), hN.warm hW, ZS.call hZ hS hU hW (freeO hD hS hA), LT.call hT hS hU hW (freeO hD hS hA)⟩⟩ rfl rfl hl.1 rfl (lv_room (Nat.le_of_ble_eq_true rfl)) dL_tokens_351 ⟨by show _ ≤ (1403 : Nat); omega, by show _ ≤ (28876 : Nat); omega⟩) hS hA hP hD (fun r14 wo H locs hw hP hD hS => ?_)
              obtain ⟨hr9, hO⟩ := hw
              have h := h r14 hr9
              refine lv_iload hx hb dL_tokens_354 (lv_at hl 5 rfl) ?_
              refine lv_icmp_ne (tgt := 422) hx hb dL_tokens_356 (by decide) (fun c0 => ?_) (fun c0 => ?_)
              · have h := h.2 c0
                exact wB_422 x3_296 mr1_296 fr1_296 mr2_296 fr2_296 ar1_296 ar2_296 σ _ _ _ _ _ _ h hO hP hD hS (lv_sub hl [0, 1, 2, 3] rfl) (by omega) (by omega)
              · have h := h.1 c0
                refine lv_aload_n hx hb dL_tokens_359 rfl (lv_at hl 0 rfl) ?_
                refine lv_iload_n hx hb dL_tokens_360 rfl (lv_at hl 3 rfl) ?_
                refine lv_iconst (v := 2) hx hb dL_tokens_361 (by decide) ?_
                refine coI (vx_runSW (As := [.ref a0, .int x3_296, .int 2]) (rest := []) ⟨hx, hb, hml, hown, hta⟩ (oc_L_spellOf l hl9 dC dI cT hO (P_r hP) ((D_r hD).weaken (fun _ _ _ _ => trivial))) (cW hta lm_L_247 mw_L_spellOf ⟨(Nat.le_of_ble_eq_true rfl), (Nat.le_of_ble_eq_true rfl)⟩) ⟨fbU, fun U hU hW => ⟨rfl, hU, va_K.moved hW.alike hK, XS.call hX hS hU hW (freeO hD hS hA), hN.warm hW, ZS.call hZ hS hU hW (freeO hD hS hA), LT.call hT hS hU hW (freeO hD hS hA)⟩⟩ rfl rfl hl.1 rfl (lv_room (Nat.le_of_ble_eq_true rfl)) dL_tokens_362 ⟨by show _ ≤ (1403 : Nat); omega, by show _ ≤ (28876 : Nat); omega⟩) hS hA hP hD (fun r15 wo H locs hw hP hD hS => ?_)
                obtain ⟨hr9, hO⟩ := hw
                have h := h r15 hr9
                refine lv_iload hx hb dL_tokens_365 (lv_at hl 7 rfl) ?_
                refine lv_icmp_ne (tgt := 422) hx hb dL_tokens_367 (by decide) (fun c0 => ?_) (fun c0 => ?_)
                · have h := h.2 c0
                  exact wB_422 x3_296 mr1_296 fr1_296 mr2_296 fr2_296 ar1_296 ar2_296 σ _ _ _ _ _ _ h hO hP hD hS (lv_sub hl [0, 1, 2, 3] rfl) (by omega) (by omega)
                · have h := h.1 c0
                  refine lv_iload hx hb dL_tokens_370 (lv_at hl 6 rfl) ?_
                  refine lv_if_ne (tgt := 422) hx hb dL_tokens_372 (by decide) (fun c0 => ?_) (fun c0 => ?_)
                  · have h := h.2 c0
                    exact wB_422 x3_296 mr1_296 fr1_296 mr2_296 fr2_296 ar1_296 ar2_296 σ _ _ _ _ _ _ h hO hP hD hS (lv_sub hl [0, 1, 2, 3] rfl) (by omega) (by omega)
                  · have h := h.1 c0
                    refine lv_aload_n hx hb dL_tokens_375 rfl (lv_at hl 0 rfl) ?_
                    refine lv_iload_n hx hb dL_tokens_376 rfl (lv_at hl 3 rfl) ?_
                    refine lv_iload hx hb dL_tokens_377 (lv_at hl 4 rfl) ?_
                    refine coI (vx_runSW (As := [.ref a0, .int x3_296, .int x5_296]) (rest := []) ⟨hx, hb, hml, hown, hta⟩ (oc_L_token l hl9 dC dI cT hO (P_r hP) ((D_r hD).weaken (fun _ _ _ _ => trivial))) (cW hta lm_L_236 mw_L_token ⟨(Nat.le_of_ble_eq_true rfl), (Nat.le_of_ble_eq_true rfl)⟩) ⟨fbU, fun U hU hW => ⟨rfl, hU, va_K.moved hW.alike hK, XS.call hX hS hU hW (freeO hD hS hA), hN.warm hW, ZS.call hZ hS hU hW (freeO hD hS hA), LT.call hT hS hU hW (freeO hD hS hA)⟩⟩ rfl rfl hl.1 rfl (lv_room (Nat.le_of_ble_eq_true rfl)) dL_tokens_379 ⟨by show _ ≤ (1403 : Nat); omega, by show _ ≤ (28876 : Nat); omega⟩) hS hA hP hD (fun r16 wo H locs hw hP hD hS => ?_)
                    obtain ⟨hr9, hO⟩ := hw
                    have h := h r16 hr9
                    refine lv_bipush (v := -14) hx hb dL_tokens_382 (by decide) ?_
                    refine lv_icmp_ne (tgt := 422) hx hb dL_tokens_384 (by decide) (fun c0 => ?_) (fun c0 => ?_)
                    · have h := h.2 c0
                      exact wB_422 x3_296 mr1_296 fr1_296 mr2_296 fr2_296 ar1_296 ar2_296 σ _ _ _ _ _ _ h hO hP hD hS (lv_sub hl [0, 1, 2, 3] rfl) (by omega) (by omega)
                    · have h := h.1 c0
                      refine lv_aload_n hx hb dL_tokens_387 rfl (lv_at hl 0 rfl) ?_
                      refine lv_iload_n hx hb dL_tokens_388 rfl (lv_at hl 3 rfl) ?_
                      refine lv_iconst (v := -1) hx hb dL_tokens_389 (by decide) ?_
                      refine coI (vx_runSW (As := [.ref a0, .int x3_296, .int (-1)]) (rest := []) ⟨hx, hb, hml, hown, hta⟩ (oc_L_token l hl9 dC dI cT hO (P_r hP) ((D_r hD).weaken (fun _ _ _ _ => trivial))) (cW hta lm_L_236 mw_L_token ⟨(Nat.le_of_ble_eq_true rfl), (Nat.le_of_ble_eq_true rfl)⟩) ⟨fbU, fun U hU hW => ⟨rfl, hU, va_K.moved hW.alike hK, XS.call hX hS hU hW (freeO hD hS hA), hN.warm hW, ZS.call hZ hS hU hW (freeO hD hS hA), LT.call hT hS hU hW (freeO hD hS hA)⟩⟩ rfl rfl hl.1 rfl (lv_room (Nat.le_of_ble_eq_true rfl)) dL_tokens_390 ⟨by show _ ≤ (1403 : Nat); omega, by show _ ≤ (28876 : Nat); omega⟩) hS hA hP hD (fun r17 wo H locs hw hP hD hS => ?_)
                      obtain ⟨hr9, hO⟩ := hw
                      have h := h r17 hr9
                      refine lv_bipush (v := -14) hx hb dL_tokens_393 (by decide) ?_
                      refine lv_icmp_ne (tgt := 422) hx hb dL_tokens_395 (by decide) (fun c0 => ?_) (fun c0 => ?_)
                      · have h := h.2 c0
                        exact wB_422 x3_296 mr1_296 fr1_296 mr2_296 fr2_296 ar1_296 ar2_296 σ _ _ _ _ _ _ h hO hP hD hS (lv_sub hl [0, 1, 2, 3] rfl) (by omega) (by omega)
                      · have h := h.1 c0
                        refine lv_aload_n hx hb dL_tokens_398 rfl (lv_at hl 0 rfl) ?_
                        refine lv_iload_n hx hb dL_tokens_399 rfl (lv_at hl 3 rfl) ?_
                        refine lv_iconst (v := 4) hx hb dL_tokens_400 (by decide) ?_
                        refine coI (vx_runSW (As := [.ref a0, .int x3_296, .int 4]) (rest := []) ⟨hx, hb, hml, hown, hta⟩ (oc_L_spellOf l hl9 dC dI cT hO (P_r hP) ((D_r hD).weaken (fun _ _ _ _ => trivial))) (cW hta lm_L_247 mw_L_spellOf ⟨(Nat.le_of_ble_eq_true rfl), (Nat.le_of_ble_eq_true rfl)⟩) ⟨fbU, fun U hU hW => ⟨rfl, hU, va_K.moved hW.alike hK, XS.call hX hS hU hW (freeO hD hS hA), hN.warm hW, ZS.call hZ hS hU hW (freeO hD hS hA), LT.call hT hS hU hW (freeO hD hS hA)⟩⟩ rfl rfl hl.1 rfl (lv_room (Nat.le_of_ble_eq_true rfl)) dL_tokens_401 ⟨by show _ ≤ (1403 : Nat); omega, by show _ ≤ (28876 : Nat); omega⟩) hS hA hP hD (fun r18 wo H locs hw hP hD hS => ?_)
                        obtain ⟨hr9, hO⟩ := hw
                        have h := h r18 hr9
                        refine lv_if_ne (tgt := 422) hx hb dL_tokens_404 (by decide) (fun c0 => ?_) (fun c0 => ?_)
                        · have h := h.2 c0
                          exact wB_422 x3_296 mr1_296 fr1_296 mr2_296 fr2_296 ar1_296 ar2_296 σ _ _ _ _ _ _ h hO hP hD hS (lv_sub hl [0, 1, 2, 3] rfl) (by omega) (by omega)
                        · have h := h.1 c0
                          refine lv_aload_n hx hb dL_tokens_407 rfl (lv_at hl 0 rfl) ?_
                          refine lv_iload_n hx hb dL_tokens_408 rfl (lv_at hl 3 rfl) ?_
                          refine lv_iconst (v := 5) hx hb dL_tokens_409 (by decide) ?_
                          refine coI (vx_runSW (As := [.ref a0, .int x3_296, .int 5]) (rest := []) ⟨hx, hb, hml, hown, hta⟩ (oc_L_spellOf l hl9 dC dI cT hO (P_r hP) ((D_r hD).weaken (fun _ _ _ _ => trivial))) (cW hta lm_L_247 mw_L_spellOf ⟨(Nat.le_of_ble_eq_true rfl), (Nat.le_of_ble_eq_true rfl)⟩) ⟨fbU, fun U hU hW => ⟨rfl, hU, va_K.moved hW.alike hK, XS.call hX hS hU hW (freeO hD hS hA), hN.warm hW, ZS.call hZ hS hU hW (freeO hD hS hA), LT.call hT hS hU hW (freeO hD hS hA)⟩⟩ rfl rfl hl.1 rfl (lv_room (Nat.le_of_ble_eq_true rfl)) dL_tokens_410 ⟨by show _ ≤ (1403 : Nat); omega, by show _ ≤ (28876 : Nat); omega⟩) hS hA hP hD (fun r19 wo H locs hw hP hD hS => ?_)
                          obtain ⟨hr9, hO⟩ := hw
                          have h := h r19 hr9
                          refine lv_bipush (v := -12) hx hb dL_tokens_413 (by decide) ?_
                          refine lv_icmp_ne (tgt := 422) hx hb dL_tokens_415 (by decide) (fun c0 => ?_) (fun c0 => ?_)
                          · have h := h.2 c0
                            exact wB_422 x3_296 mr1_296 fr1_296 mr2_296 fr2_296 ar1_296 ar2_296 σ _ _ _ _ _ _ h hO hP hD hS (lv_sub hl [0, 1, 2, 3] rfl) (by omega) (by omega)
                          · have h := h.1 c0
                            refine lv_iconst (v := 1) hx hb dL_tokens_418 (by decide) ?_
                            refine lv_goto (tgt := 423) hx hb dL_tokens_419 (by decide) ?_
                            exact wB_423 x3_296 (1 : Int32) mr1_296 fr1_296 mr2_296 fr2_296 ar1_296 ar2_296 σ _ _ _ _ _ _ h hO hP hD hS (lv_sub hl [0, 1, 2, 3] rfl) (by omega) (by omega)
          · have h := h.2 c0
            refine lv_aload_n hx hb dL_tokens_303 rfl (lv_at hl 1 rfl) ?_
            refine lv_iload hx hb dL_tokens_304 (lv_at hl 10 rfl) ?_
            refine lv_dup2_11 hx hb dL_tokens_306 rfl rfl ?_
            obtain ⟨hc, h⟩ := h
            refine va_iald hx hb hK hP 0 0 rfl rfl (inb_in hc) dL_tokens_307 ?_
            refine lv_iload hx hb dL_tokens_308 (lv_at hl 8 rfl) ?_
            refine lv_iload hx hb dL_tokens_310 (lv_at hl 10 rfl) ?_
            refine lv_ishr hx hb dL_tokens_312 ?_
            refine lv_iconst (v := 1) hx hb dL_tokens_313 (by decide) ?_
            refine lv_iand hx hb dL_tokens_314 ?_
            refine lv_iadd hx hb dL_tokens_315 ?_
            obtain ⟨hc, h⟩ := h
            refine lv_topi (fun v20 e_v => ?_)
            have h := h v20 e_v
            refine va_iast hx hb hK hP hD hS 0 0 rfl rfl (inb_in hc) dL_tokens_316 (fun H locs hP hD hS => ?_)
            obtain ⟨f21, e_f⟩ : ∃ y : Nat → Int32, y = (upd fr1_296 x12_296.toNatClampNeg v20) := ⟨_, rfl⟩
            have h := h f21 e_f
            have hP : va_P (dC, dI) vwCl (([(ar1_296, .inl (cT 0, mr1_296, .inl f21)), (ar2_296, .inl (cT 0, mr2_296, .inl fr2_296))] : va_W) ++ wo) H := by rw [e_f]; exact hP
            have hD : va_D A (([(ar1_296, .inl (cT 0, mr1_296, .inl f21)), (ar2_296, .inl (cT 0, mr2_296, .inl fr2_296))] : va_W) ++ wo) := by rw [e_f]; exact hD
            refine lv_aload_n hx hb dL_tokens_317 rfl (lv_at hl 2 rfl) ?_
            refine lv_iload hx hb dL_tokens_318 (lv_at hl 10 rfl) ?_
            refine lv_dup2_11 hx hb dL_tokens_320 rfl rfl ?_
            obtain ⟨hc, h⟩ := h
            refine va_iald hx hb hK hP 1 0 rfl rfl (inb_in hc) dL_tokens_321 ?_
            refine lv_iload hx hb dL_tokens_322 (lv_at hl 9 rfl) ?_
            refine lv_iload hx hb dL_tokens_324 (lv_at hl 10 rfl) ?_
            refine lv_ishr hx hb dL_tokens_326 ?_
            refine lv_iconst (v := 1) hx hb dL_tokens_327 (by decide) ?_
            refine lv_iand hx hb dL_tokens_328 ?_
            refine lv_iadd hx hb dL_tokens_329 ?_
            obtain ⟨hc, h⟩ := h
            refine lv_topi (fun v22 e_v => ?_)
            have h := h v22 e_v
            refine va_iast hx hb hK hP hD hS 1 0 rfl rfl (inb_in hc) dL_tokens_330 (fun H locs hP hD hS => ?_)
            obtain ⟨f23, e_f⟩ : ∃ y : Nat → Int32, y = (upd fr2_296 x12_296.toNatClampNeg v22) := ⟨_, rfl⟩
            have h := h f23 e_f
            have hP : va_P (dC, dI) vwCl (([(ar1_296, .inl (cT 0, mr1_296, .inl f21)), (ar2_296, .inl (cT 0, mr2_296, .inl f23))] : va_W) ++ wo) H := by rw [e_f]; exact hP
            have hD : va_D A (([(ar1_296, .inl (cT 0, mr1_296, .inl f21)), (ar2_296, .inl (cT 0, mr2_296, .inl f23))] : va_W) ++ wo) := by rw [e_f]; exact hD
            obtain ⟨v24, e_v⟩ : ∃ y : Int32, y = x12_296 + 1 := ⟨_, rfl⟩
            have h := h v24 e_v
            refine lv_iinc (v := v24) (lv' := [(12, .int v24), (0, .ref a0), (1, .ref ar1_296), (2, .ref ar2_296), (3, .int x3_296), (5, .int x5_296), (6, .int x6_296), (7, .int x7_296), (8, .int x8_296), (9, .int x9_296), (10, .int x10_296)]) hx hb dL_tokens_331 hl (k := 10) rfl (by rw [e_v]; rfl) (by decide) rfl (fun ls hl => ?_)
            refine lv_goto (tgt := 296) hx hb dL_tokens_334 (by decide) ?_
            exact ih_296 x3_296 x5_296 x6_296 x7_296 x8_296 x9_296 x10_296 v24 mr1_296 f21 mr2_296 f23 ar1_296 ar2_296 σ _ _ _ _ _ _ h hO hP hD hS (lv_sub hl [1, 2, 3, 4, 5, 6, 7, 8, 9, 10, 0] rfl) (by omega) (by omega)
      have wB_49 : ∀ (n_49 : Nat), ∀ (x3_49 : Int32) (x5_49 : Int32) (x6_49 : Int32) (x7_49 : Int32) (x8_49 : Int32) (x9_49 : Int32) (x10_49 : Int32) (x11_49 : Int32) (mr1_49 : Nat) (fr1_49 : Nat → Int32) (mr2_49 : Nat) (fr2_49 : Nat → Int32) (mr4_49 : Nat) (fr4_49 : Nat → Int32) (ar1_49 : Nat) (ar2_49 : Nat) (ar4_49 : Nat) (σ : AB) (wo : va_W) (H : Heap) (locs : List Loc) (ls : Array Slot) (cells slots : Nat), wp_L_tokens_b49 K (wp_L_tokens_b12 K n_12) n_49 x3_49 x5_49 x6_49 x7_49 x8_49 x9_49 x10_49 x11_49 mr1_49 fr1_49 mr2_49 fr2_49 mr4_49 fr4_49 σ → OB cT a0 σ wo → va_P (dC, dI) vwCl (([(ar1_49, .inl (cT 0, mr1_49, .inl fr1_49)), (ar2_49, .inl (cT 0, mr2_49, .inl fr2_49)), (ar4_49, .inl (cT 2, mr4_49, .inl fr4_49))] : va_W) ++ wo) H → va_D A (([(ar1_49, .inl (cT 0, mr1_49, .inl fr1_49)), (ar2_49, .inl (cT 0, mr2_49, .inl fr2_49)), (ar4_49, .inl (cT 2, mr4_49, .inl fr4_49))] : va_W) ++ wo) → va_S A s.heap H locs → lv_has ls 16 [(0, .ref a0), (1, .ref ar1_49), (2, .ref ar2_49), (3, .int x3_49), (4, .ref ar4_49), (5, .int x5_49), (6, .int x6_49), (7, .int x7_49), (8, .int x8_49), (9, .int x9_49), (10, .int x10_49), (11, .int x11_49)] → cells + (85 + n_12 * 266 + n_49 * 2) ≤ 1403 → slots + (510 + n_12 * 5666 + n_49 * 12) ≤ 28876 → W p l e ({ frames := 10, cells := 1403, slots := 28876, locals := 201 } : Room) s m [.ref a0].toArray below meth c H locs cells slots Q (F0 m 49 ls []) := by
        intro n_49
        induction n_49 with
        | zero =>
          intro x3_49 x5_49 x6_49 x7_49 x8_49 x9_49 x10_49 x11_49 mr1_49 fr1_49 mr2_49 fr2_49 mr4_49 fr4_49 ar1_49 ar2_49 ar4_49 σ wo H locs ls cells slots h hO hP hD hS hl hc1 hc2
          exact False.elim h
        | succ n_49 ih_49 =>
          have wB_284 : ∀ (x3_284 : Int32) (x5_284 : Int32) (x6_284 : Int32) (x7_284 : Int32) (x8_284 : Int32) (x9_284 : Int32) (x10_284 : Int32) (s0_284 : Int32) (s1_284 : Int32) (mr1_284 : Nat) (fr1_284 : Nat → Int32) (mr2_284 : Nat) (fr2_284 : Nat → Int32) (mr4_284 : Nat) (fr4_284 : Nat → Int32) (ar1_284 : Nat) (ar2_284 : Nat) (ar4_284 : Nat) (σ : AB) (wo : va_W) (H : Heap) (locs : List Loc) (ls : Array Slot) (cells slots : Nat), wp_L_tokens_b284 K (wp_L_tokens_b12 K n_12) (wp_L_tokens_b49 K (wp_L_tokens_b12 K n_12) n_49) x3_284 x5_284 x6_284 x7_284 x8_284 x9_284 x10_284 s0_284 s1_284 mr1_284 fr1_284 mr2_284 fr2_284 mr4_284 fr4_284 σ → OB cT a0 σ wo → va_P (dC, dI) vwCl (([(ar1_284, .inl (cT 0, mr1_284, .inl fr1_284)), (ar2_284, .inl (cT 0, mr2_284, .inl fr2_284)), (ar4_284, .inl (cT 2, mr4_284, .inl fr4_284))] : va_W) ++ wo) H → va_D A (([(ar1_284, .inl (cT 0, mr1_284, .inl fr1_284)), (ar2_284, .inl (cT 0, mr2_284, .inl fr2_284)), (ar4_284, .inl (cT 2, mr4_284, .inl fr4_284))] : va_W) ++ wo) → va_S A s.heap H locs → lv_has ls 16 [(0, .ref a0), (1, .ref ar1_284), (2, .ref ar2_284), (3, .int x3_284), (4, .ref ar4_284), (5, .int x5_284), (6, .int x6_284), (7, .int x7_284), (8, .int x8_284), (9, .int x9_284), (10, .int x10_284)] → cells + (85 + n_12 * 266 + n_49 * 2) ≤ 1403 → slots + (510 + n_12 * 5666 + n_49 * 12) ≤ 28876 → W p l e ({ frames := 10, cells := 1403, slots := 28876, locals := 201 } : Room) s m [.ref a0].toArray below meth c H locs cells slots Q (F0 m 284 ls [.int s0_284, .int s1_284]) := by
            intro x3_284 x5_284 x6_284 x7_284 x8_284 x9_284 x10_284 s0_284 s1_284 mr1_284 fr1_284 mr2_284 fr2_284 mr4_284 fr4_284 ar1_284 ar2_284 ar4_284 σ wo H locs ls cells slots h hO hP hD hS hl hc1 hc2
            unfold wp_L_tokens_b284 at h
            refine lv_iadd hx hb dL_tokens_284 ?_
            refine lv_topi (fun v25 e_v => ?_)
            have h := h v25 e_v
            refine lv_istore (lv' := [(11, .int v25), (0, .ref a0), (1, .ref ar1_284), (2, .ref ar2_284), (3, .int x3_284), (4, .ref ar4_284), (5, .int x5_284), (6, .int x6_284), (7, .int x7_284), (8, .int x8_284), (9, .int x9_284), (10, .int x10_284)]) hx hb dL_tokens_285 hl (by decide) rfl (fun ls hl => ?_)
            obtain ⟨v26, e_v⟩ : ∃ y : Int32, y = x5_284 + 1 := ⟨_, rfl⟩
            have h := h v26 e_v
            refine lv_iinc (v := v26) (lv' := [(5, .int v26), (11, .int v25), (0, .ref a0), (1, .ref ar1_284), (2, .ref ar2_284), (3, .int x3_284), (4, .ref ar4_284), (6, .int x6_284), (7, .int x7_284), (8, .int x8_284), (9, .int x9_284), (10, .int x10_284)]) hx hb dL_tokens_287 hl (k := 6) rfl (by rw [e_v]; rfl) (by decide) rfl (fun ls hl => ?_)
            refine lv_goto (tgt := 49) hx hb dL_tokens_290 (by decide) ?_
            exact ih_49 x3_284 v26 x6_284 x7_284 x8_284 x9_284 x10_284 v25 mr1_284 fr1_284 mr2_284 fr2_284 mr4_284 fr4_284 ar1_284 ar2_284 ar4_284 σ _ _ _ _ _ _ h hO hP hD hS (lv_sub hl [2, 3, 4, 5, 6, 0, 7, 8, 9, 10, 11, 1] rfl) (by omega) (by omega)
          have wB_270 : ∀ (x3_270 : Int32) (x5_270 : Int32) (x6_270 : Int32) (x7_270 : Int32) (x8_270 : Int32) (x9_270 : Int32) (x10_270 : Int32) (x11_270 : Int32) (s0_270 : Int32) (mr1_270 : Nat) (fr1_270 : Nat → Int32) (mr2_270 : Nat) (fr2_270 : Nat → Int32) (mr4_270 : Nat) (fr4_270 : Nat → Int32) (ar1_270 : Nat) (ar2_270 : Nat) (ar4_270 : Nat) (σ : AB) (wo : va_W) (H : Heap) (locs : List Loc) (ls : Array Slot) (cells slots : Nat), wp_L_tokens_b270 K (wp_L_tokens_b12 K n_12) (wp_L_tokens_b49 K (wp_L_tokens_b12 K n_12) n_49) x3_270 x5_270 x6_270 x7_270 x8_270 x9_270 x10_270 x11_270 s0_270 mr1_270 fr1_270 mr2_270 fr2_270 mr4_270 fr4_270 σ → OB cT a0 σ wo → va_P (dC, dI) vwCl (([(ar1_270, .inl (cT 0, mr1_270, .inl fr1_270)), (ar2_270, .inl (cT 0, mr2_270, .inl fr2_270)), (ar4_270, .inl (cT 2, mr4_270, .inl fr4_270))] : va_W) ++ wo) H → va_D A (([(ar1_270, .inl (cT 0, mr1_270, .inl fr1_270)), (ar2_270, .inl (cT 0, mr2_270, .inl fr2_270)), (ar4_270, .inl (cT 2, mr4_270, .inl fr4_270))] : va_W) ++ wo) → va_S A s.heap H locs → lv_has ls 16 [(0, .ref a0), (1, .ref ar1_270), (2, .ref ar2_270), (3, .int x3_270), (4, .ref ar4_270), (5, .int x5_270), (6, .int x6_270), (7, .int x7_270), (8, .int x8_270), (9, .int x9_270), (10, .int x10_270), (11, .int x11_270)] → cells + (85 + n_12 * 266 + n_49 * 2) ≤ 1403 → slots + (510 + n_12 * 5666 + n_49 * 12) ≤ 28876 → W p l e ({ frames := 10, cells := 1403, slots := 28876, locals := 201 } : Room) s m [.ref a0].toArray below meth c H locs cells slots Q (F0 m 270 ls [.int s0_270]) := by
            intro x3_270 x5_270 x6_270 x7_270 x8_270 x9_270 x10_270 x11_270 s0_270 mr1_270 fr1_270 mr2_270 fr2_270 mr4_270 fr4_270 ar1_270 ar2_270 ar4_270 σ wo H locs ls cells slots h hO hP hD hS hl hc1 hc2
            unfold wp_L_tokens_b270 at h
            refine lv_istore (lv' := [(15, .int s0_270), (0, .ref a0), (1, .ref ar1_270), (2, .ref ar2_270), (3, .int x3_270), (4, .ref ar4_270), (5, .int x5_270), (6, .int x6_270), (7, .int x7_270), (8, .int x8_270), (9, .int x9_270), (10, .int x10_270), (11, .int x11_270)]) hx hb dL_tokens_270 hl (by decide) rfl (fun ls hl => ?_)
            refine lv_iload hx hb dL_tokens_272 (lv_at hl 12 rfl) ?_
            refine lv_iload hx hb dL_tokens_274 (lv_at hl 0 rfl) ?_
            refine lv_if_eq (tgt := 283) hx hb dL_tokens_276 (by decide) (fun c0 => ?_) (fun c0 => ?_)
            · have h := h.1 c0
              refine lv_iconst (v := 1) hx hb dL_tokens_283 (by decide) ?_
              exact wB_284 x3_270 x5_270 x6_270 x7_270 x8_270 x9_270 x10_270 (1 : Int32) x11_270 mr1_270 fr1_270 mr2_270 fr2_270 mr4_270 fr4_270 ar1_270 ar2_270 ar4_270 σ _ _ _ _ _ _ h hO hP hD hS (lv_sub hl [1, 2, 3, 4, 5, 6, 7, 8, 9, 10, 11] rfl) (by omega) (by omega)
            · have h := h.2 c0
              refine lv_iconst (v := 2) hx hb dL_tokens_279 (by decide) ?_
              refine lv_goto (tgt := 284) hx hb dL_tokens_280 (by decide) ?_
              exact wB_284 x3_270 x5_270 x6_270 x7_270 x8_270 x9_270 x10_270 (2 : Int32) x11_270 mr1_270 fr1_270 mr2_270 fr2_270 mr4_270 fr4_270 ar1_270 ar2_270 ar4_270 σ _ _ _ _ _ _ h hO hP hD hS (lv_sub hl [1, 2, 3, 4, 5, 6, 7, 8, 9, 10, 11] rfl) (by omega) (by omega)
          have wB_265 : ∀ (x3_265 : Int32) (x5_265 : Int32) (x6_265 : Int32) (x7_265 : Int32) (x8_265 : Int32) (x9_265 : Int32) (x10_265 : Int32) (x11_265 : Int32) (mr1_265 : Nat) (fr1_265 : Nat → Int32) (mr2_265 : Nat) (fr2_265 : Nat → Int32) (mr4_265 : Nat) (fr4_265 : Nat → Int32) (ar1_265 : Nat) (ar2_265 : Nat) (ar4_265 : Nat) (σ : AB) (wo : va_W) (H : Heap) (locs : List Loc) (ls : Array Slot) (cells slots : Nat), wp_L_tokens_b265 K (wp_L_tokens_b12 K n_12) (wp_L_tokens_b49 K (wp_L_tokens_b12 K n_12) n_49) x3_265 x5_265 x6_265 x7_265 x8_265 x9_265 x10_265 x11_265 mr1_265 fr1_265 mr2_265 fr2_265 mr4_265 fr4_265 σ → OB cT a0 σ wo → va_P (dC, dI) vwCl (([(ar1_265, .inl (cT 0, mr1_265, .inl fr1_265)), (ar2_265, .inl (cT 0, mr2_265, .inl fr2_265)), (ar4_265, .inl (cT 2, mr4_265, .inl fr4_265))] : va_W) ++ wo) H → va_D A (([(ar1_265, .inl (cT 0, mr1_265, .inl fr1_265)), (ar2_265, .inl (cT 0, mr2_265, .inl fr2_265)), (ar4_265, .inl (cT 2, mr4_265, .inl fr4_265))] : va_W) ++ wo) → va_S A s.heap H locs → lv_has ls 16 [(0, .ref a0), (1, .ref ar1_265), (2, .ref ar2_265), (3, .int x3_265), (4, .ref ar4_265), (5, .int x5_265), (6, .int x6_265), (7, .int x7_265), (8, .int x8_265), (9, .int x9_265), (10, .int x10_265), (11, .int x11_265)] → cells + (85 + n_12 * 266 + n_49 * 2) ≤ 1403 → slots + (510 + n_12 * 5666 + n_49 * 12) ≤ 28876 → W p l e ({ frames := 10, cells := 1403, slots := 28876, locals := 201 } : Room) s m [.ref a0].toArray below meth c H locs cells slots Q (F0 m 265 ls []) := by
            intro x3_265 x5_265 x6_265 x7_265 x8_265 x9_265 x10_265 x11_265 mr1_265 fr1_265 mr2_265 fr2_265 mr4_265 fr4_265 ar1_265 ar2_265 ar4_265 σ wo H locs ls cells slots h hO hP hD hS hl hc1 hc2
            unfold wp_L_tokens_b265 at h
            refine lv_iconst (v := 1) hx hb dL_tokens_265 (by decide) ?_
            refine lv_goto (tgt := 270) hx hb dL_tokens_266 (by decide) ?_
            exact wB_270 x3_265 x5_265 x6_265 x7_265 x8_265 x9_265 x10_265 x11_265 (1 : Int32) mr1_265 fr1_265 mr2_265 fr2_265 mr4_265 fr4_265 ar1_265 ar2_265 ar4_265 σ _ _ _ _ _ _ h hO hP hD hS (lv_sub hl [0, 1, 2, 3, 4, 5, 6, 7, 8, 9, 10, 11] rfl) (by omega) (by omega)
          have wB_269 : ∀ (x3_269 : Int32) (x5_269 : Int32) (x6_269 : Int32) (x7_269 : Int32) (x8_269 : Int32) (x9_269 : Int32) (x10_269 : Int32) (x11_269 : Int32) (mr1_269 : Nat) (fr1_269 : Nat → Int32) (mr2_269 : Nat) (fr2_269 : Nat → Int32) (mr4_269 : Nat) (fr4_269 : Nat → Int32) (ar1_269 : Nat) (ar2_269 : Nat) (ar4_269 : Nat) (σ : AB) (wo : va_W) (H : Heap) (locs : List Loc) (ls : Array Slot) (cells slots : Nat), wp_L_tokens_b269 K (wp_L_tokens_b12 K n_12) (wp_L_tokens_b49 K (wp_L_tokens_b12 K n_12) n_49) x3_269 x5_269 x6_269 x7_269 x8_269 x9_269 x10_269 x11_269 mr1_269 fr1_269 mr2_269 fr2_269 mr4_269 fr4_269 σ → OB cT a0 σ wo → va_P (dC, dI) vwCl (([(ar1_269, .inl (cT 0, mr1_269, .inl fr1_269)), (ar2_269, .inl (cT 0, mr2_269, .inl fr2_269)), (ar4_269, .inl (cT 2, mr4_269, .inl fr4_269))] : va_W) ++ wo) H → va_D A (([(ar1_269, .inl (cT 0, mr1_269, .inl fr1_269)), (ar2_269, .inl (cT 0, mr2_269, .inl fr2_269)), (ar4_269, .inl (cT 2, mr4_269, .inl fr4_269))] : va_W) ++ wo) → va_S A s.heap H locs → lv_has ls 16 [(0, .ref a0), (1, .ref ar1_269), (2, .ref ar2_269), (3, .int x3_269), (4, .ref ar4_269), (5, .int x5_269), (6, .int x6_269), (7, .int x7_269), (8, .int x8_269), (9, .int x9_269), (10, .int x10_269), (11, .int x11_269)] → cells + (85 + n_12 * 266 + n_49 * 2) ≤ 1403 → slots + (510 + n_12 * 5666 + n_49 * 12) ≤ 28876 → W p l e ({ frames := 10, cells := 1403, slots := 28876, locals := 201 } : Room) s m [.ref a0].toArray below meth c H locs cells slots Q (F0 m 269 ls []) := by
            intro x3_269 x5_269 x6_269 x7_269 x8_269 x9_269 x10_269 x11_269 mr1_269 fr1_269 mr2_269 fr2_269 mr4_269 fr4_269 ar1_269 ar2_269 ar4_269 σ wo H locs ls cells slots h hO hP hD hS hl hc1 hc2
            unfold wp_L_tokens_b269 at h
            refine lv_iconst (v := 0) hx hb dL_tokens_269 (by decide) ?_
            exact wB_270 x3_269 x5_269 x6_269 x7_269 x8_269 x9_269 x10_269 x11_269 (0 : Int32) mr1_269 fr1_269 mr2_269 fr2_269 mr4_269 fr4_269 ar1_269 ar2_269 ar4_269 σ _ _ _ _ _ _ h hO hP hD hS (lv_sub hl [0, 1, 2, 3, 4, 5, 6, 7, 8, 9, 10, 11] rfl) (by omega) (by omega)
          have wB_215 : ∀ (x3_215 : Int32) (x5_215 : Int32) (x6_215 : Int32) (x8_215 : Int32) (x9_215 : Int32) (x10_215 : Int32) (x11_215 : Int32) (x12_215 : Int32) (s0_215 : Int32) (s1_215 : Int32) (mr1_215 : Nat) (fr1_215 : Nat → Int32) (mr2_215 : Nat) (fr2_215 : Nat → Int32) (mr4_215 : Nat) (fr4_215 : Nat → Int32) (ar1_215 : Nat) (ar2_215 : Nat) (ar4_215 : Nat) (σ : AB) (wo : va_W) (H : Heap) (locs : List Loc) (ls : Array Slot) (cells slots : Nat), wp_L_tokens_b215 K (wp_L_tokens_b12 K n_12) (wp_L_tokens_b49 K (wp_L_tokens_b12 K n_12) n_49) x3_215 x5_215 x6_215 x8_215 x9_215 x10_215 x11_215 x12_215 s0_215 s1_215 mr1_215 fr1_215 mr2_215 fr2_215 mr4_215 fr4_215 σ → OB cT a0 σ wo → va_P (dC, dI) vwCl (([(ar1_215, .inl (cT 0, mr1_215, .inl fr1_215)), (ar2_215, .inl (cT 0, mr2_215, .inl fr2_215)), (ar4_215, .inl (cT 2, mr4_215, .inl fr4_215))] : va_W) ++ wo) H → va_D A (([(ar1_215, .inl (cT 0, mr1_215, .inl fr1_215)), (ar2_215, .inl (cT 0, mr2_215, .inl fr2_215)), (ar4_215, .inl (cT 2, mr4_215, .inl fr4_215))] : va_W) ++ wo) → va_S A s.heap H locs → lv_has ls 16 [(0, .ref a0), (1, .ref ar1_215), (2, .ref ar2_215), (3, .int x3_215), (4, .ref ar4_215), (5, .int x5_215), (6, .int x6_215), (8, .int x8_215), (9, .int x9_215), (10, .int x10_215), (11, .int x11_215), (12, .int x12_215)] → cells + (85 + n_12 * 266 + n_49 * 2) ≤ 1403 → slots + (510 + n_12 * 5666 + n_49 * 12) ≤ 28876 → W p l e ({ frames := 10, cells := 1403, slots := 28876, locals := 201 } : Room) s m [.ref a0].toArray below meth c H locs cells slots Q (F0 m 215 ls [.int s0_215, .int s1_215]) := by
            intro x3_215 x5_215 x6_215 x8_215 x9_215 x10_215 x11_215 x12_215 s0_215 s1_215 mr1_215 fr1_215 mr2_215 fr2_215 mr4_215 fr4_215 ar1_215 ar2_215 ar4_215 σ wo H locs ls cells slots h hO hP hD hS hl hc1 hc2
            unfold wp_L_tokens_b215 at h
            refine lv_iadd hx hb dL_tokens_215 ?_
            refine lv_topi (fun v27 e_v => ?_)
            have h := h v27 e_v
            refine lv_istore (lv' := [(7, .int v27), (0, .ref a0), (1, .ref ar1_215), (2, .ref ar2_215), (3, .int x3_215), (4, .ref ar4_215), (5, .int x5_215), (6, .int x6_215), (8, .int x8_215), (9, .int x9_215), (10, .int x10_215), (11, .int x11_215), (12, .int x12_215)]) hx hb dL_tokens_216 hl (by decide) rfl (fun ls hl => ?_)
            refine lv_iload hx hb dL_tokens_218 (lv_at hl 8 rfl) ?_
            refine lv_iload hx hb dL_tokens_220 (lv_at hl 0 rfl) ?_
            refine va_mmax hx hb (hml.trans hl.1.symm) hown (hta _ lm_L_242) (hta _ mth_maxint_s) (hta _ mth_i) (hta _ mth_maxint_c) (Nat.le_of_ble_eq_true rfl) (Nat.le_of_ble_eq_true rfl) (by show _ ≤ (1403 : Nat); omega) (by show _ ≤ (28876 : Nat); omega) dL_tokens_222 ?_
            refine lv_topi (fun v28 e_v => ?_)
            have h := h v28 e_v
            refine lv_istore (lv' := [(8, .int v28), (7, .int v27), (0, .ref a0), (1, .ref ar1_215), (2, .ref ar2_215), (3, .int x3_215), (4, .ref ar4_215), (5, .int x5_215), (6, .int x6_215), (9, .int x9_215), (10, .int x10_215), (11, .int x11_215), (12, .int x12_215)]) hx hb dL_tokens_225 hl (by decide) rfl (fun ls hl => ?_)
            refine lv_iload hx hb dL_tokens_227 (lv_at hl 12 rfl) ?_
            refine lv_bipush (v := 61) hx hb dL_tokens_229 (by decide) ?_
            refine lv_icmp_eq (tgt := 265) hx hb dL_tokens_231 (by decide) (fun c0 => ?_) (fun c0 => ?_)
            · have h := h.1 c0
              exact wB_265 x3_215 x5_215 x6_215 v27 v28 x9_215 x10_215 x11_215 mr1_215 fr1_215 mr2_215 fr2_215 mr4_215 fr4_215 ar1_215 ar2_215 ar4_215 σ _ _ _ _ _ _ h hO hP hD hS (lv_sub hl [2, 3, 4, 5, 6, 7, 8, 1, 0, 9, 10, 11] rfl) (by omega) (by omega)
            · have h := h.2 c0
              refine lv_iload hx hb dL_tokens_234 (lv_at hl 12 rfl) ?_
              refine coI (va_runS (As := [.int x12_215]) (rest := []) ⟨hx, hb, hml, hown, hta⟩ (lc_L_isDigit l hl9 dC dI cT h hO (P_r hP) ((D_r hD).weaken (fun _ _ _ _ => trivial))) (cS hta lm_L_238 md_L_isDigit ⟨(Nat.le_of_ble_eq_true rfl), (Nat.le_of_ble_eq_true rfl)⟩) ⟨fbU, fun U hU hW => ⟨rfl, hU, va_K.moved hW.alike hK, XS.call hX hS hU hW (freeO hD hS hA), hN.warm hW, ZS.call hZ hS hU hW (freeO hD hS hA), LT.call hT hS hU hW (freeO hD hS hA)⟩⟩ rfl rfl hl.1 rfl (lv_room (Nat.le_of_ble_eq_true rfl)) dL_tokens_236 ⟨by show _ ≤ (1403 : Nat); omega, by show _ ≤ (28876 : Nat); omega⟩) hS hA hP hD (fun r30 wo H locs hw hP hD hS => ?_)
              obtain ⟨σ29, h, hO⟩ := hw
              refine lv_if_eq (tgt := 269) hx hb dL_tokens_239 (by decide) (fun c0 => ?_) (fun c0 => ?_)
              · have h := h.1 c0
                exact wB_269 x3_215 x5_215 x6_215 v27 v28 x9_215 x10_215 x11_215 mr1_215 fr1_215 mr2_215 fr2_215 mr4_215 fr4_215 ar1_215 ar2_215 ar4_215 σ29 _ _ _ _ _ _ h hO hP hD hS (lv_sub hl [2, 3, 4, 5, 6, 7, 8, 1, 0, 9, 10, 11] rfl) (by omega) (by omega)
              · have h := h.2 c0
                refine lv_iload hx hb dL_tokens_242 (lv_at hl 11 rfl) ?_
                refine lv_iconst (v := 1) hx hb dL_tokens_244 (by decide) ?_
                refine lv_iadd hx hb dL_tokens_245 ?_
                refine lv_aload hx hb dL_tokens_246 (lv_at hl 6 rfl) ?_
                refine va_alen hx hb hK hP 2 2 rfl rfl rfl dL_tokens_248 ?_
                refine lv_icmp_ge (tgt := 269) hx hb dL_tokens_249 (by decide) (fun c0 => ?_) (fun c0 => ?_)
                · have h := h.1 c0
                  exact wB_269 x3_215 x5_215 x6_215 v27 v28 x9_215 x10_215 x11_215 mr1_215 fr1_215 mr2_215 fr2_215 mr4_215 fr4_215 ar1_215 ar2_215 ar4_215 σ29 _ _ _ _ _ _ h hO hP hD hS (lv_sub hl [2, 3, 4, 5, 6, 7, 8, 1, 0, 9, 10, 11] rfl) (by omega) (by omega)
                · have h := h.2 c0
                  refine lv_aload hx hb dL_tokens_252 (lv_at hl 6 rfl) ?_
                  refine lv_iload hx hb dL_tokens_254 (lv_at hl 11 rfl) ?_
                  refine lv_iconst (v := 1) hx hb dL_tokens_256 (by decide) ?_
                  refine lv_iadd hx hb dL_tokens_257 ?_
                  obtain ⟨hc, h⟩ := h
                  refine va_cald hx hb hK hP 2 2 rfl rfl (inb_in hc) dL_tokens_258 ?_
                  refine coI (va_runS (As := [.int (fr4_215 (x11_215 + 1).toNatClampNeg)]) (rest := []) ⟨hx, hb, hml, hown, hta⟩ (lc_L_isDigit l hl9 dC dI cT h hO (P_r hP) ((D_r hD).weaken (fun _ _ _ _ => trivial))) (cS hta lm_L_238 md_L_isDigit ⟨(Nat.le_of_ble_eq_true rfl), (Nat.le_of_ble_eq_true rfl)⟩) ⟨fbU, fun U hU hW => ⟨rfl, hU, va_K.moved hW.alike hK, XS.call hX hS hU hW (freeO hD hS hA), hN.warm hW, ZS.call hZ hS hU hW (freeO hD hS hA), LT.call hT hS hU hW (freeO hD hS hA)⟩⟩ rfl rfl hl.1 rfl (lv_room (Nat.le_of_ble_eq_true rfl)) dL_tokens_259 ⟨by show _ ≤ (1403 : Nat); omega, by show _ ≤ (28876 : Nat); omega⟩) hS hA hP hD (fun r32 wo H locs hw hP hD hS => ?_)
                  obtain ⟨σ31, h, hO⟩ := hw
                  refine lv_if_eq (tgt := 269) hx hb dL_tokens_262 (by decide) (fun c0 => ?_) (fun c0 => ?_)
                  · have h := h.1 c0
                    exact wB_269 x3_215 x5_215 x6_215 v27 v28 x9_215 x10_215 x11_215 mr1_215 fr1_215 mr2_215 fr2_215 mr4_215 fr4_215 ar1_215 ar2_215 ar4_215 σ31 _ _ _ _ _ _ h hO hP hD hS (lv_sub hl [2, 3, 4, 5, 6, 7, 8, 1, 0, 9, 10, 11] rfl) (by omega) (by omega)
                  · have h := h.2 c0
                    exact wB_265 x3_215 x5_215 x6_215 v27 v28 x9_215 x10_215 x11_215 mr1_215 fr1_215 mr2_215 fr2_215 mr4_215 fr4_215 ar1_215 ar2_215 ar4_215 σ31 _ _ _ _ _ _ h hO hP hD hS (lv_sub hl [2, 3, 4, 5, 6, 7, 8, 1, 0, 9, 10, 11] rfl) (by omega) (by omega)
          have wB_210 : ∀ (x3_210 : Int32) (x5_210 : Int32) (x6_210 : Int32) (x8_210 : Int32) (x9_210 : Int32) (x10_210 : Int32) (x11_210 : Int32) (x12_210 : Int32) (s0_210 : Int32) (mr1_210 : Nat) (fr1_210 : Nat → Int32) (mr2_210 : Nat) (fr2_210 : Nat → Int32) (mr4_210 : Nat) (fr4_210 : Nat → Int32) (ar1_210 : Nat) (ar2_210 : Nat) (ar4_210 : Nat) (σ : AB) (wo : va_W) (H : Heap) (locs : List Loc) (ls : Array Slot) (cells slots : Nat), wp_L_tokens_b210 K (wp_L_tokens_b12 K n_12) (wp_L_tokens_b49 K (wp_L_tokens_b12 K n_12) n_49) x3_210 x5_210 x6_210 x8_210 x9_210 x10_210 x11_210 x12_210 s0_210 mr1_210 fr1_210 mr2_210 fr2_210 mr4_210 fr4_210 σ → OB cT a0 σ wo → va_P (dC, dI) vwCl (([(ar1_210, .inl (cT 0, mr1_210, .inl fr1_210)), (ar2_210, .inl (cT 0, mr2_210, .inl fr2_210)), (ar4_210, .inl (cT 2, mr4_210, .inl fr4_210))] : va_W) ++ wo) H → va_D A (([(ar1_210, .inl (cT 0, mr1_210, .inl fr1_210)), (ar2_210, .inl (cT 0, mr2_210, .inl fr2_210)), (ar4_210, .inl (cT 2, mr4_210, .inl fr4_210))] : va_W) ++ wo) → va_S A s.heap H locs → lv_has ls 16 [(0, .ref a0), (1, .ref ar1_210), (2, .ref ar2_210), (3, .int x3_210), (4, .ref ar4_210), (5, .int x5_210), (6, .int x6_210), (8, .int x8_210), (9, .int x9_210), (10, .int x10_210), (11, .int x11_210), (12, .int x12_210)] → cells + (85 + n_12 * 266 + n_49 * 2) ≤ 1403 → slots + (510 + n_12 * 5666 + n_49 * 12) ≤ 28876 → W p l e ({ frames := 10, cells := 1403, slots := 28876, locals := 201 } : Room) s m [.ref a0].toArray below meth c H locs cells slots Q (F0 m 210 ls [.int s0_210]) := by
            intro x3_210 x5_210 x6_210 x8_210 x9_210 x10_210 x11_210 x12_210 s0_210 mr1_210 fr1_210 mr2_210 fr2_210 mr4_210 fr4_210 ar1_210 ar2_210 ar4_210 σ wo H locs ls cells slots h hO hP hD hS hl hc1 hc2
            unfold wp_L_tokens_b210 at h
            refine lv_iconst (v := 0) hx hb dL_tokens_210 (by decide) ?_
            refine lv_goto (tgt := 215) hx hb dL_tokens_211 (by decide) ?_
            exact wB_215 x3_210 x5_210 x6_210 x8_210 x9_210 x10_210 x11_210 x12_210 (0 : Int32) s0_210 mr1_210 fr1_210 mr2_210 fr2_210 mr4_210 fr4_210 ar1_210 ar2_210 ar4_210 σ _ _ _ _ _ _ h hO hP hD hS (lv_sub hl [0, 1, 2, 3, 4, 5, 6, 7, 8, 9, 10, 11] rfl) (by omega) (by omega)
          have wB_182 : ∀ (x3_182 : Int32) (x5_182 : Int32) (x7_182 : Int32) (x8_182 : Int32) (x9_182 : Int32) (x10_182 : Int32) (x11_182 : Int32) (x12_182 : Int32) (x14_182 : Int32) (s0_182 : Int32) (s1_182 : Int32) (mr1_182 : Nat) (fr1_182 : Nat → Int32) (mr2_182 : Nat) (fr2_182 : Nat → Int32) (mr4_182 : Nat) (fr4_182 : Nat → Int32) (ar1_182 : Nat) (ar2_182 : Nat) (ar4_182 : Nat) (σ : AB) (wo : va_W) (H : Heap) (locs : List Loc) (ls : Array Slot) (cells slots : Nat), wp_L_tokens_b182 K (wp_L_tokens_b12 K n_12) (wp_L_tokens_b49 K (wp_L_tokens_b12 K n_12) n_49) x3_182 x5_182 x7_182 x8_182 x9_182 x10_182 x11_182 x12_182 x14_182 s0_182 s1_182 mr1_182 fr1_182 mr2_182 fr2_182 mr4_182 fr4_182 σ → OB cT a0 σ wo → va_P (dC, dI) vwCl (([(ar1_182, .inl (cT 0, mr1_182, .inl fr1_182)), (ar2_182, .inl (cT 0, mr2_182, .inl fr2_182)), (ar4_182, .inl (cT 2, mr4_182, .inl fr4_182))] : va_W) ++ wo) H → va_D A (([(ar1_182, .inl (cT 0, mr1_182, .inl fr1_182)), (ar2_182, .inl (cT 0, mr2_182, .inl fr2_182)), (ar4_182, .inl (cT 2, mr4_182, .inl fr4_182))] : va_W) ++ wo) → va_S A s.heap H locs → lv_has ls 16 [(0, .ref a0), (1, .ref ar1_182), (2, .ref ar2_182), (3, .int x3_182), (4, .ref ar4_182), (5, .int x5_182), (7, .int x7_182), (8, .int x8_182), (9, .int x9_182), (10, .int x10_182), (11, .int x11_182), (12, .int x12_182), (14, .int x14_182)] → cells + (85 + n_12 * 266 + n_49 * 2) ≤ 1403 → slots + (510 + n_12 * 5666 + n_49 * 12) ≤ 28876 → W p l e ({ frames := 10, cells := 1403, slots := 28876, locals := 201 } : Room) s m [.ref a0].toArray below meth c H locs cells slots Q (F0 m 182 ls [.int s0_182, .int s1_182]) := by
            intro x3_182 x5_182 x7_182 x8_182 x9_182 x10_182 x11_182 x12_182 x14_182 s0_182 s1_182 mr1_182 fr1_182 mr2_182 fr2_182 mr4_182 fr4_182 ar1_182 ar2_182 ar4_182 σ wo H locs ls cells slots h hO hP hD hS hl hc1 hc2
            unfold wp_L_tokens_b182 at h
            refine lv_iadd hx hb dL_tokens_182 ?_
            refine lv_topi (fun v33 e_v => ?_)
            have h := h v33 e_v
            refine lv_istore (lv' := [(6, .int v33), (0, .ref a0), (1, .ref ar1_182), (2, .ref ar2_182), (3, .int x3_182), (4, .ref ar4_182), (5, .int x5_182), (7, .int x7_182), (8, .int x8_182), (9, .int x9_182), (10, .int x10_182), (11, .int x11_182), (12, .int x12_182), (14, .int x14_182)]) hx hb dL_tokens_183 hl (by decide) rfl (fun ls hl => ?_)
            refine lv_iload hx hb dL_tokens_185 (lv_at hl 7 rfl) ?_
            refine lv_iload hx hb dL_tokens_187 (lv_at hl 13 rfl) ?_
            refine lv_if_eq (tgt := 196) hx hb dL_tokens_189 (by decide) (fun c0 => ?_) (fun c0 => ?_)
            · have h := h.1 c0
              refine lv_iload hx hb dL_tokens_196 (lv_at hl 12 rfl) ?_
              refine lv_bipush (v := 126) hx hb dL_tokens_198 (by decide) ?_
              refine lv_icmp_eq (tgt := 210) hx hb dL_tokens_200 (by decide) (fun c0 => ?_) (fun c0 => ?_)
              · have h := h.1 c0
                exact wB_210 x3_182 x5_182 v33 x8_182 x9_182 x10_182 x11_182 x12_182 x7_182 mr1_182 fr1_182 mr2_182 fr2_182 mr4_182 fr4_182 ar1_182 ar2_182 ar4_182 σ _ _ _ _ _ _ h hO hP hD hS (lv_sub hl [1, 2, 3, 4, 5, 6, 0, 8, 9, 10, 11, 12] rfl) (by omega) (by omega)
              · have h := h.2 c0
                refine lv_iload hx hb dL_tokens_203 (lv_at hl 12 rfl) ?_
                refine lv_bipush (v := 33) hx hb dL_tokens_205 (by decide) ?_
                refine lv_icmp_ne (tgt := 214) hx hb dL_tokens_207 (by decide) (fun c0 => ?_) (fun c0 => ?_)
                · have h := h.2 c0
                  refine lv_iconst (v := -1) hx hb dL_tokens_214 (by decide) ?_
                  exact wB_215 x3_182 x5_182 v33 x8_182 x9_182 x10_182 x11_182 x12_182 (-1 : Int32) x7_182 mr1_182 fr1_182 mr2_182 fr2_182 mr4_182 fr4_182 ar1_182 ar2_182 ar4_182 σ _ _ _ _ _ _ h hO hP hD hS (lv_sub hl [1, 2, 3, 4, 5, 6, 0, 8, 9, 10, 11, 12] rfl) (by omega) (by omega)
                · have h := h.1 c0
                  exact wB_210 x3_182 x5_182 v33 x8_182 x9_182 x10_182 x11_182 x12_182 x7_182 mr1_182 fr1_182 mr2_182 fr2_182 mr4_182 fr4_182 ar1_182 ar2_182 ar4_182 σ _ _ _ _ _ _ h hO hP hD hS (lv_sub hl [1, 2, 3, 4, 5, 6, 0, 8, 9, 10, 11, 12] rfl) (by omega) (by omega)
            · have h := h.2 c0
              refine lv_iconst (v := 1) hx hb dL_tokens_192 (by decide) ?_
              refine lv_goto (tgt := 215) hx hb dL_tokens_193 (by decide) ?_
              exact wB_215 x3_182 x5_182 v33 x8_182 x9_182 x10_182 x11_182 x12_182 (1 : Int32) x7_182 mr1_182 fr1_182 mr2_182 fr2_182 mr4_182 fr4_182 ar1_182 ar2_182 ar4_182 σ _ _ _ _ _ _ h hO hP hD hS (lv_sub hl [1, 2, 3, 4, 5, 6, 0, 8, 9, 10, 11, 12] rfl) (by omega) (by omega)
          have wB_165 : ∀ (x3_165 : Int32) (x5_165 : Int32) (x6_165 : Int32) (x7_165 : Int32) (x8_165 : Int32) (x9_165 : Int32) (x11_165 : Int32) (x12_165 : Int32) (x14_165 : Int32) (s0_165 : Int32) (s1_165 : Int32) (mr1_165 : Nat) (fr1_165 : Nat → Int32) (mr2_165 : Nat) (fr2_165 : Nat → Int32) (mr4_165 : Nat) (fr4_165 : Nat → Int32) (ar1_165 : Nat) (ar2_165 : Nat) (ar4_165 : Nat) (σ : AB) (wo : va_W) (H : Heap) (locs : List Loc) (ls : Array Slot) (cells slots : Nat), wp_L_tokens_b165 K (wp_L_tokens_b12 K n_12) (wp_L_tokens_b49 K (wp_L_tokens_b12 K n_12) n_49) x3_165 x5_165 x6_165 x7_165 x8_165 x9_165 x11_165 x12_165 x14_165 s0_165 s1_165 mr1_165 fr1_165 mr2_165 fr2_165 mr4_165 fr4_165 σ → OB cT a0 σ wo → va_P (dC, dI) vwCl (([(ar1_165, .inl (cT 0, mr1_165, .inl fr1_165)), (ar2_165, .inl (cT 0, mr2_165, .inl fr2_165)), (ar4_165, .inl (cT 2, mr4_165, .inl fr4_165))] : va_W) ++ wo) H → va_D A (([(ar1_165, .inl (cT 0, mr1_165, .inl fr1_165)), (ar2_165, .inl (cT 0, mr2_165, .inl fr2_165)), (ar4_165, .inl (cT 2, mr4_165, .inl fr4_165))] : va_W) ++ wo) → va_S A s.heap H locs → lv_has ls 16 [(0, .ref a0), (1, .ref ar1_165), (2, .ref ar2_165), (3, .int x3_165), (4, .ref ar4_165), (5, .int x5_165), (6, .int x6_165), (7, .int x7_165), (8, .int x8_165), (9, .int x9_165), (11, .int x11_165), (12, .int x12_165), (14, .int x14_165)] → cells + (85 + n_12 * 266 + n_49 * 2) ≤ 1403 → slots + (510 + n_12 * 5666 + n_49 * 12) ≤ 28876 → W p l e ({ frames := 10, cells := 1403, slots := 28876, locals := 201 } : Room) s m [.ref a0].toArray below meth c H locs cells slots Q (F0 m 165 ls [.int s0_165, .int s1_165]) := by
            intro x3_165 x5_165 x6_165 x7_165 x8_165 x9_165 x11_165 x12_165 x14_165 s0_165 s1_165 mr1_165 fr1_165 mr2_165 fr2_165 mr4_165 fr4_165 ar1_165 ar2_165 ar4_165 σ wo H locs ls cells slots h hO hP hD hS hl hc1 hc2
            unfold wp_L_tokens_b165 at h
            refine lv_ior hx hb dL_tokens_165 ?_
            refine lv_topi (fun v34 e_v => ?_)
            have h := h v34 e_v
            refine lv_istore (lv' := [(10, .int v34), (0, .ref a0), (1, .ref ar1_165), (2, .ref ar2_165), (3, .int x3_165), (4, .ref ar4_165), (5, .int x5_165), (6, .int x6_165), (7, .int x7_165), (8, .int x8_165), (9, .int x9_165), (11, .int x11_165), (12, .int x12_165), (14, .int x14_165)]) hx hb dL_tokens_166 hl (by decide) rfl (fun ls hl => ?_)
            refine lv_iload hx hb dL_tokens_168 (lv_at hl 7 rfl) ?_
            refine lv_iload hx hb dL_tokens_170 (lv_at hl 12 rfl) ?_
            refine lv_bipush (v := 61) hx hb dL_tokens_172 (by decide) ?_
            refine lv_icmp_ne (tgt := 181) hx hb dL_tokens_174 (by decide) (fun c0 => ?_) (fun c0 => ?_)
            · have h := h.2 c0
              refine lv_iconst (v := 0) hx hb dL_tokens_181 (by decide) ?_
              exact wB_182 x3_165 x5_165 x7_165 x8_165 x9_165 v34 x11_165 x12_165 x14_165 (0 : Int32) x6_165 mr1_165 fr1_165 mr2_165 fr2_165 mr4_165 fr4_165 ar1_165 ar2_165 ar4_165 σ _ _ _ _ _ _ h hO hP hD hS (lv_sub hl [1, 2, 3, 4, 5, 6, 8, 9, 10, 0, 11, 12, 13] rfl) (by omega) (by omega)
            · have h := h.1 c0
              refine lv_iconst (v := 1) hx hb dL_tokens_177 (by decide) ?_
              refine lv_goto (tgt := 182) hx hb dL_tokens_178 (by decide) ?_
              exact wB_182 x3_165 x5_165 x7_165 x8_165 x9_165 v34 x11_165 x12_165 x14_165 (1 : Int32) x6_165 mr1_165 fr1_165 mr2_165 fr2_165 mr4_165 fr4_165 ar1_165 ar2_165 ar4_165 σ _ _ _ _ _ _ h hO hP hD hS (lv_sub hl [1, 2, 3, 4, 5, 6, 8, 9, 10, 0, 11, 12, 13] rfl) (by omega) (by omega)
          have wB_137 : ∀ (x3_137 : Int32) (x5_137 : Int32) (x6_137 : Int32) (x7_137 : Int32) (x8_137 : Int32) (x10_137 : Int32) (x11_137 : Int32) (x12_137 : Int32) (x14_137 : Int32) (s0_137 : Int32) (s1_137 : Int32) (mr1_137 : Nat) (fr1_137 : Nat → Int32) (mr2_137 : Nat) (fr2_137 : Nat → Int32) (mr4_137 : Nat) (fr4_137 : Nat → Int32) (ar1_137 : Nat) (ar2_137 : Nat) (ar4_137 : Nat) (σ : AB) (wo : va_W) (H : Heap) (locs : List Loc) (ls : Array Slot) (cells slots : Nat), wp_L_tokens_b137 K (wp_L_tokens_b12 K n_12) (wp_L_tokens_b49 K (wp_L_tokens_b12 K n_12) n_49) x3_137 x5_137 x6_137 x7_137 x8_137 x10_137 x11_137 x12_137 x14_137 s0_137 s1_137 mr1_137 fr1_137 mr2_137 fr2_137 mr4_137 fr4_137 σ → OB cT a0 σ wo → va_P (dC, dI) vwCl (([(ar1_137, .inl (cT 0, mr1_137, .inl fr1_137)), (ar2_137, .inl (cT 0, mr2_137, .inl fr2_137)), (ar4_137, .inl (cT 2, mr4_137, .inl fr4_137))] : va_W) ++ wo) H → va_D A (([(ar1_137, .inl (cT 0, mr1_137, .inl fr1_137)), (ar2_137, .inl (cT 0, mr2_137, .inl fr2_137)), (ar4_137, .inl (cT 2, mr4_137, .inl fr4_137))] : va_W) ++ wo) → va_S A s.heap H locs → lv_has ls 16 [(0, .ref a0), (1, .ref ar1_137), (2, .ref ar2_137), (3, .int x3_137), (4, .ref ar4_137), (5, .int x5_137), (6, .int x6_137), (7, .int x7_137), (8, .int x8_137), (10, .int x10_137), (11, .int x11_137), (12, .int x12_137), (14, .int x14_137)] → cells + (85 + n_12 * 266 + n_49 * 2) ≤ 1403 → slots + (510 + n_12 * 5666 + n_49 * 12) ≤ 28876 → W p l e ({ frames := 10, cells := 1403, slots := 28876, locals := 201 } : Room) s m [.ref a0].toArray below meth c H locs cells slots Q (F0 m 137 ls [.int s0_137, .int s1_137]) := by
            intro x3_137 x5_137 x6_137 x7_137 x8_137 x10_137 x11_137 x12_137 x14_137 s0_137 s1_137 mr1_137 fr1_137 mr2_137 fr2_137 mr4_137 fr4_137 ar1_137 ar2_137 ar4_137 σ wo H locs ls cells slots h hO hP hD hS hl hc1 hc2
            unfold wp_L_tokens_b137 at h
            refine lv_ior hx hb dL_tokens_137 ?_
            refine lv_topi (fun v35 e_v => ?_)
            have h := h v35 e_v
            refine lv_istore (lv' := [(9, .int v35), (0, .ref a0), (1, .ref ar1_137), (2, .ref ar2_137), (3, .int x3_137), (4, .ref ar4_137), (5, .int x5_137), (6, .int x6_137), (7, .int x7_137), (8, .int x8_137), (10, .int x10_137), (11, .int x11_137), (12, .int x12_137), (14, .int x14_137)]) hx hb dL_tokens_138 hl (by decide) rfl (fun ls hl => ?_)
            refine lv_iload hx hb dL_tokens_140 (lv_at hl 10 rfl) ?_
            refine lv_iload hx hb dL_tokens_142 (lv_at hl 12 rfl) ?_
            refine lv_bipush (v := 61) hx hb dL_tokens_144 (by decide) ?_
            refine lv_icmp_ne (tgt := 164) hx hb dL_tokens_146 (by decide) (fun c0 => ?_) (fun c0 => ?_)
            · have h := h.2 c0
              refine lv_iconst (v := 0) hx hb dL_tokens_164 (by decide) ?_
              exact wB_165 x3_137 x5_137 x6_137 x7_137 x8_137 v35 x11_137 x12_137 x14_137 (0 : Int32) x10_137 mr1_137 fr1_137 mr2_137 fr2_137 mr4_137 fr4_137 ar1_137 ar2_137 ar4_137 σ _ _ _ _ _ _ h hO hP hD hS (lv_sub hl [1, 2, 3, 4, 5, 6, 7, 8, 9, 0, 11, 12, 13] rfl) (by omega) (by omega)
            · have h := h.1 c0
              refine lv_iconst (v := 1) hx hb dL_tokens_149 (by decide) ?_
              refine lv_aload hx hb dL_tokens_150 (lv_at hl 5 rfl) ?_
              refine lv_iload hx hb dL_tokens_152 (lv_at hl 11 rfl) ?_
              refine lv_iconst (v := 1) hx hb dL_tokens_154 (by decide) ?_
              refine lv_iadd hx hb dL_tokens_155 ?_
              obtain ⟨hc, h⟩ := h
              refine va_cald hx hb hK hP 2 2 rfl rfl (inb_in hc) dL_tokens_156 ?_
              refine lv_bipush (v := 97) hx hb dL_tokens_157 (by decide) ?_
              refine lv_isub hx hb dL_tokens_159 ?_
              refine lv_ishl hx hb dL_tokens_160 ?_
              refine lv_goto (tgt := 165) hx hb dL_tokens_161 (by decide) ?_
              exact wB_165 x3_137 x5_137 x6_137 x7_137 x8_137 v35 x11_137 x12_137 x14_137 ((1 : Int32) <<< (((fr4_137 (x11_137 + 1).toNatClampNeg) - 97) &&& 31)) x10_137 mr1_137 fr1_137 mr2_137 fr2_137 mr4_137 fr4_137 ar1_137 ar2_137 ar4_137 σ _ _ _ _ _ _ h hO hP hD hS (lv_sub hl [1, 2, 3, 4, 5, 6, 7, 8, 9, 0, 11, 12, 13] rfl) (by omega) (by omega)
          have wB_117 : ∀ (x3_117 : Int32) (x5_117 : Int32) (x6_117 : Int32) (x7_117 : Int32) (x8_117 : Int32) (x9_117 : Int32) (x10_117 : Int32) (x11_117 : Int32) (x12_117 : Int32) (x13_117 : Int32) (s0_117 : Int32) (mr1_117 : Nat) (fr1_117 : Nat → Int32) (mr2_117 : Nat) (fr2_117 : Nat → Int32) (mr4_117 : Nat) (fr4_117 : Nat → Int32) (ar1_117 : Nat) (ar2_117 : Nat) (ar4_117 : Nat) (σ : AB) (wo : va_W) (H : Heap) (locs : List Loc) (ls : Array Slot) (cells slots : Nat), wp_L_tokens_b117 K (wp_L_tokens_b12 K n_12) (wp_L_tokens_b49 K (wp_L_tokens_b12 K n_12) n_49) x3_117 x5_117 x6_117 x7_117 x8_117 x9_117 x10_117 x11_117 x12_117 x13_117 s0_117 mr1_117 fr1_117 mr2_117 fr2_117 mr4_117 fr4_117 σ → OB cT a0 σ wo → va_P (dC, dI) vwCl (([(ar1_117, .inl (cT 0, mr1_117, .inl fr1_117)), (ar2_117, .inl (cT 0, mr2_117, .inl fr2_117)), (ar4_117, .inl (cT 2, mr4_117, .inl fr4_117))] : va_W) ++ wo) H → va_D A (([(ar1_117, .inl (cT 0, mr1_117, .inl fr1_117)), (ar2_117, .inl (cT 0, mr2_117, .inl fr2_117)), (ar4_117, .inl (cT 2, mr4_117, .inl fr4_117))] : va_W) ++ wo) → va_S A s.heap H locs → lv_has ls 16 [(0, .ref a0), (1, .ref ar1_117), (2, .ref ar2_117), (3, .int x3_117), (4, .ref ar4_117), (5, .int x5_117), (6, .int x6_117), (7, .int x7_117), (8, .int x8_117), (9, .int x9_117), (10, .int x10_117), (11, .int x11_117), (12, .int x12_117), (13, .int x13_117)] → cells + (85 + n_12 * 266 + n_49 * 2) ≤ 1403 → slots + (510 + n_12 * 5666 + n_49 * 12) ≤ 28876 → W p l e ({ frames := 10, cells := 1403, slots := 28876, locals := 201 } : Room) s m [.ref a0].toArray below meth c H locs cells slots Q (F0 m 117 ls [.int s0_117]) := by
            intro x3_117 x5_117 x6_117 x7_117 x8_117 x9_117 x10_117 x11_117 x12_117 x13_117 s0_117 mr1_117 fr1_117 mr2_117 fr2_117 mr4_117 fr4_117 ar1_117 ar2_117 ar4_117 σ wo H locs ls cells slots h hO hP hD hS hl hc1 hc2
            unfold wp_L_tokens_b117 at h
            refine lv_istore (lv' := [(14, .int s0_117), (0, .ref a0), (1, .ref ar1_117), (2, .ref ar2_117), (3, .int x3_117), (4, .ref ar4_117), (5, .int x5_117), (6, .int x6_117), (7, .int x7_117), (8, .int x8_117), (9, .int x9_117), (10, .int x10_117), (11, .int x11_117), (12, .int x12_117), (13, .int x13_117)]) hx hb dL_tokens_117 hl (by decide) rfl (fun ls hl => ?_)
            refine lv_iload hx hb dL_tokens_119 (lv_at hl 10 rfl) ?_
            refine lv_iload hx hb dL_tokens_121 (lv_at hl 14 rfl) ?_
            refine lv_if_eq (tgt := 136) hx hb dL_tokens_123 (by decide) (fun c0 => ?_) (fun c0 => ?_)
            · have h := h.1 c0
              refine lv_iconst (v := 0) hx hb dL_tokens_136 (by decide) ?_
              exact wB_137 x3_117 x5_117 x6_117 x7_117 x8_117 x10_117 x11_117 x12_117 s0_117 (0 : Int32) x9_117 mr1_117 fr1_117 mr2_117 fr2_117 mr4_117 fr4_117 ar1_117 ar2_117 ar4_117 σ _ _ _ _ _ _ h hO hP hD hS (lv_sub hl [1, 2, 3, 4, 5, 6, 7, 8, 9, 11, 12, 13, 0] rfl) (by omega) (by omega)
            · have h := h.2 c0
              refine lv_iconst (v := 1) hx hb dL_tokens_126 (by decide) ?_
              refine lv_iload hx hb dL_tokens_127 (lv_at hl 13 rfl) ?_
              refine lv_bipush (v := 97) hx hb dL_tokens_129 (by decide) ?_
              refine lv_isub hx hb dL_tokens_131 ?_
              refine lv_ishl hx hb dL_tokens_132 ?_
              refine lv_goto (tgt := 137) hx hb dL_tokens_133 (by decide) ?_
              exact wB_137 x3_117 x5_117 x6_117 x7_117 x8_117 x10_117 x11_117 x12_117 s0_117 ((1 : Int32) <<< ((x12_117 - 97) &&& 31)) x9_117 mr1_117 fr1_117 mr2_117 fr2_117 mr4_117 fr4_117 ar1_117 ar2_117 ar4_117 σ _ _ _ _ _ _ h hO hP hD hS (lv_sub hl [1, 2, 3, 4, 5, 6, 7, 8, 9, 11, 12, 13, 0] rfl) (by omega) (by omega)
          have wB_112 : ∀ (x3_112 : Int32) (x5_112 : Int32) (x6_112 : Int32) (x7_112 : Int32) (x8_112 : Int32) (x9_112 : Int32) (x10_112 : Int32) (x11_112 : Int32) (x12_112 : Int32) (x13_112 : Int32) (mr1_112 : Nat) (fr1_112 : Nat → Int32) (mr2_112 : Nat) (fr2_112 : Nat → Int32) (mr4_112 : Nat) (fr4_112 : Nat → Int32) (ar1_112 : Nat) (ar2_112 : Nat) (ar4_112 : Nat) (σ : AB) (wo : va_W) (H : Heap) (locs : List Loc) (ls : Array Slot) (cells slots : Nat), wp_L_tokens_b112 K (wp_L_tokens_b12 K n_12) (wp_L_tokens_b49 K (wp_L_tokens_b12 K n_12) n_49) x3_112 x5_112 x6_112 x7_112 x8_112 x9_112 x10_112 x11_112 x12_112 x13_112 mr1_112 fr1_112 mr2_112 fr2_112 mr4_112 fr4_112 σ → OB cT a0 σ wo → va_P (dC, dI) vwCl (([(ar1_112, .inl (cT 0, mr1_112, .inl fr1_112)), (ar2_112, .inl (cT 0, mr2_112, .inl fr2_112)), (ar4_112, .inl (cT 2, mr4_112, .inl fr4_112))] : va_W) ++ wo) H → va_D A (([(ar1_112, .inl (cT 0, mr1_112, .inl fr1_112)), (ar2_112, .inl (cT 0, mr2_112, .inl fr2_112)), (ar4_112, .inl (cT 2, mr4_112, .inl fr4_112))] : va_W) ++ wo) → va_S A s.heap H locs → lv_has ls 16 [(0, .ref a0), (1, .ref ar1_112), (2, .ref ar2_112), (3, .int x3_112), (4, .ref ar4_112), (5, .int x5_112), (6, .int x6_112), (7, .int x7_112), (8, .int x8_112), (9, .int x9_112), (10, .int x10_112), (11, .int x11_112), (12, .int x12_112), (13, .int x13_112)] → cells + (85 + n_12 * 266 + n_49 * 2) ≤ 1403 → slots + (510 + n_12 * 5666 + n_49 * 12) ≤ 28876 → W p l e ({ frames := 10, cells := 1403, slots := 28876, locals := 201 } : Room) s m [.ref a0].toArray below meth c H locs cells slots Q (F0 m 112 ls []) := by
            intro x3_112 x5_112 x6_112 x7_112 x8_112 x9_112 x10_112 x11_112 x12_112 x13_112 mr1_112 fr1_112 mr2_112 fr2_112 mr4_112 fr4_112 ar1_112 ar2_112 ar4_112 σ wo H locs ls cells slots h hO hP hD hS hl hc1 hc2
            unfold wp_L_tokens_b112 at h
            refine lv_iconst (v := 1) hx hb dL_tokens_112 (by decide) ?_
            refine lv_goto (tgt := 117) hx hb dL_tokens_113 (by decide) ?_
            exact wB_117 x3_112 x5_112 x6_112 x7_112 x8_112 x9_112 x10_112 x11_112 x12_112 x13_112 (1 : Int32) mr1_112 fr1_112 mr2_112 fr2_112 mr4_112 fr4_112 ar1_112 ar2_112 ar4_112 σ _ _ _ _ _ _ h hO hP hD hS (lv_sub hl [0, 1, 2, 3, 4, 5, 6, 7, 8, 9, 10, 11, 12, 13] rfl) (by omega) (by omega)
          have wB_97 : ∀ (x3_97 : Int32) (x5_97 : Int32) (x6_97 : Int32) (x7_97 : Int32) (x8_97 : Int32) (x9_97 : Int32) (x10_97 : Int32) (x11_97 : Int32) (x12_97 : Int32) (s0_97 : Int32) (mr1_97 : Nat) (fr1_97 : Nat → Int32) (mr2_97 : Nat) (fr2_97 : Nat → Int32) (mr4_97 : Nat) (fr4_97 : Nat → Int32) (ar1_97 : Nat) (ar2_97 : Nat) (ar4_97 : Nat) (σ : AB) (wo : va_W) (H : Heap) (locs : List Loc) (ls : Array Slot) (cells slots : Nat), wp_L_tokens_b97 K (wp_L_tokens_b12 K n_12) (wp_L_tokens_b49 K (wp_L_tokens_b12 K n_12) n_49) x3_97 x5_97 x6_97 x7_97 x8_97 x9_97 x10_97 x11_97 x12_97 s0_97 mr1_97 fr1_97 mr2_97 fr2_97 mr4_97 fr4_97 σ → OB cT a0 σ wo → va_P (dC, dI) vwCl (([(ar1_97, .inl (cT 0, mr1_97, .inl fr1_97)), (ar2_97, .inl (cT 0, mr2_97, .inl fr2_97)), (ar4_97, .inl (cT 2, mr4_97, .inl fr4_97))] : va_W) ++ wo) H → va_D A (([(ar1_97, .inl (cT 0, mr1_97, .inl fr1_97)), (ar2_97, .inl (cT 0, mr2_97, .inl fr2_97)), (ar4_97, .inl (cT 2, mr4_97, .inl fr4_97))] : va_W) ++ wo) → va_S A s.heap H locs → lv_has ls 16 [(0, .ref a0), (1, .ref ar1_97), (2, .ref ar2_97), (3, .int x3_97), (4, .ref ar4_97), (5, .int x5_97), (6, .int x6_97), (7, .int x7_97), (8, .int x8_97), (9, .int x9_97), (10, .int x10_97), (11, .int x11_97), (12, .int x12_97)] → cells + (85 + n_12 * 266 + n_49 * 2) ≤ 1403 → slots + (510 + n_12 * 5666 + n_49 * 12) ≤ 28876 → W p l e ({ frames := 10, cells := 1403, slots := 28876, locals := 201 } : Room) s m [.ref a0].toArray below meth c H locs cells slots Q (F0 m 97 ls [.int s0_97]) := by
            intro x3_97 x5_97 x6_97 x7_97 x8_97 x9_97 x10_97 x11_97 x12_97 s0_97 mr1_97 fr1_97 mr2_97 fr2_97 mr4_97 fr4_97 ar1_97 ar2_97 ar4_97 σ wo H locs ls cells slots h hO hP hD hS hl hc1 hc2
            unfold wp_L_tokens_b97 at h
            refine lv_istore (lv' := [(13, .int s0_97), (0, .ref a0), (1, .ref ar1_97), (2, .ref ar2_97), (3, .int x3_97), (4, .ref ar4_97), (5, .int x5_97), (6, .int x6_97), (7, .int x7_97), (8, .int x8_97), (9, .int x9_97), (10, .int x10_97), (11, .int x11_97), (12, .int x12_97)]) hx hb dL_tokens_97 hl (by decide) rfl (fun ls hl => ?_)
            refine lv_iload hx hb dL_tokens_99 (lv_at hl 0 rfl) ?_
            refine lv_if_ne (tgt := 112) hx hb dL_tokens_101 (by decide) (fun c0 => ?_) (fun c0 => ?_)
            · have h := h.2 c0
              exact wB_112 x3_97 x5_97 x6_97 x7_97 x8_97 x9_97 x10_97 x11_97 x12_97 s0_97 mr1_97 fr1_97 mr2_97 fr2_97 mr4_97 fr4_97 ar1_97 ar2_97 ar4_97 σ _ _ _ _ _ _ h hO hP hD hS (lv_sub hl [1, 2, 3, 4, 5, 6, 7, 8, 9, 10, 11, 12, 13, 0] rfl) (by omega) (by omega)
            · have h := h.1 c0
              refine lv_iload hx hb dL_tokens_104 (lv_at hl 13 rfl) ?_
              refine coI (va_runS (As := [.int x12_97]) (rest := []) ⟨hx, hb, hml, hown, hta⟩ (lc_L_isDigit l hl9 dC dI cT h hO (P_r hP) ((D_r hD).weaken (fun _ _ _ _ => trivial))) (cS hta lm_L_238 md_L_isDigit ⟨(Nat.le_of_ble_eq_true rfl), (Nat.le_of_ble_eq_true rfl)⟩) ⟨fbU, fun U hU hW => ⟨rfl, hU, va_K.moved hW.alike hK, XS.call hX hS hU hW (freeO hD hS hA), hN.warm hW, ZS.call hZ hS hU hW (freeO hD hS hA), LT.call hT hS hU hW (freeO hD hS hA)⟩⟩ rfl rfl hl.1 rfl (lv_room (Nat.le_of_ble_eq_true rfl)) dL_tokens_106 ⟨by show _ ≤ (1403 : Nat); omega, by show _ ≤ (28876 : Nat); omega⟩) hS hA hP hD (fun r37 wo H locs hw hP hD hS => ?_)
              obtain ⟨σ36, h, hO⟩ := hw
              refine lv_if_eq (tgt := 116) hx hb dL_tokens_109 (by decide) (fun c0 => ?_) (fun c0 => ?_)
              · have h := h.1 c0
                refine lv_iconst (v := 0) hx hb dL_tokens_116 (by decide) ?_
                exact wB_117 x3_97 x5_97 x6_97 x7_97 x8_97 x9_97 x10_97 x11_97 x12_97 s0_97 (0 : Int32) mr1_97 fr1_97 mr2_97 fr2_97 mr4_97 fr4_97 ar1_97 ar2_97 ar4_97 σ36 _ _ _ _ _ _ h hO hP hD hS (lv_sub hl [1, 2, 3, 4, 5, 6, 7, 8, 9, 10, 11, 12, 13, 0] rfl) (by omega) (by omega)
              · have h := h.2 c0
                exact wB_112 x3_97 x5_97 x6_97 x7_97 x8_97 x9_97 x10_97 x11_97 x12_97 s0_97 mr1_97 fr1_97 mr2_97 fr2_97 mr4_97 fr4_97 ar1_97 ar2_97 ar4_97 σ36 _ _ _ _ _ _ h hO hP hD hS (lv_sub hl [1, 2, 3, 4, 5, 6, 7, 8, 9, 10, 11, 12, 13, 0] rfl) (by omega) (by omega)
          have wB_96 : ∀ (x3_96 : Int32) (x5_96 : Int32) (x6_96 : Int32) (x7_96 : Int32) (x8_96 : Int32) (x9_96 : Int32) (x10_96 : Int32) (x11_96 : Int32) (x12_96 : Int32) (mr1_96 : Nat) (fr1_96 : Nat → Int32) (mr2_96 : Nat) (fr2_96 : Nat → Int32) (mr4_96 : Nat) (fr4_96 : Nat → Int32) (ar1_96 : Nat) (ar2_96 : Nat) (ar4_96 : Nat) (σ : AB) (wo : va_W) (H : Heap) (locs : List Loc) (ls : Array Slot) (cells slots : Nat), wp_L_tokens_b96 K (wp_L_tokens_b12 K n_12) (wp_L_tokens_b49 K (wp_L_tokens_b12 K n_12) n_49) x3_96 x5_96 x6_96 x7_96 x8_96 x9_96 x10_96 x11_96 x12_96 mr1_96 fr1_96 mr2_96 fr2_96 mr4_96 fr4_96 σ → OB cT a0 σ wo → va_P (dC, dI) vwCl (([(ar1_96, .inl (cT 0, mr1_96, .inl fr1_96)), (ar2_96, .inl (cT 0, mr2_96, .inl fr2_96)), (ar4_96, .inl (cT 2, mr4_96, .inl fr4_96))] : va_W) ++ wo) H → va_D A (([(ar1_96, .inl (cT 0, mr1_96, .inl fr1_96)), (ar2_96, .inl (cT 0, mr2_96, .inl fr2_96)), (ar4_96, .inl (cT 2, mr4_96, .inl fr4_96))] : va_W) ++ wo) → va_S A s.heap H locs → lv_has ls 16 [(0, .ref a0), (1, .ref ar1_96), (2, .ref ar2_96), (3, .int x3_96), (4, .ref ar4_96), (5, .int x5_96), (6, .int x6_96), (7, .int x7_96), (8, .int x8_96), (9, .int x9_96), (10, .int x10_96), (11, .int x11_96), (12, .int x12_96)] → cells + (85 + n_12 * 266 + n_49 * 2) ≤ 1403 → slots + (510 + n_12 * 5666 + n_49 * 12) ≤ 28876 → W p l e ({ frames := 10, cells := 1403, slots := 28876, locals := 201 } : Room) s m [.ref a0].toArray below meth c H locs cells slots Q (F0 m 96 ls []) := by
            intro x3_96 x5_96 x6_96 x7_96 x8_96 x9_96 x10_96 x11_96 x12_96 mr1_96 fr1_96 mr2_96 fr2_96 mr4_96 fr4_96 ar1_96 ar2_96 ar4_96 σ wo H locs ls cells slots h hO hP hD hS hl hc1 hc2
            unfold wp_L_tokens_b96 at h
            refine lv_iconst (v := 0) hx hb dL_tokens_96 (by decide) ?_
            exact wB_97 x3_96 x5_96 x6_96 x7_96 x8_96 x9_96 x10_96 x11_96 x12_96 (0 : Int32) mr1_96 fr1_96 mr2_96 fr2_96 mr4_96 fr4_96 ar1_96 ar2_96 ar4_96 σ _ _ _ _ _ _ h hO hP hD hS (lv_sub hl [0, 1, 2, 3, 4, 5, 6, 7, 8, 9, 10, 11, 12] rfl) (by omega) (by omega)
          intro x3_49 x5_49 x6_49 x7_49 x8_49 x9_49 x10_49 x11_49 mr1_49 fr1_49 mr2_49 fr2_49 mr4_49 fr4_49 ar1_49 ar2_49 ar4_49 σ wo H locs ls cells slots h hO hP hD hS hl hc1 hc2
          rw [wp_L_tokens_b49] at h
          refine lv_iload hx hb dL_tokens_49 (lv_at hl 11 rfl) ?_
          refine lv_aload hx hb dL_tokens_51 (lv_at hl 4 rfl) ?_
          refine va_alen hx hb hK hP 2 2 rfl rfl rfl dL_tokens_53 ?_
          refine lv_icmp_ge (tgt := 293) hx hb dL_tokens_54 (by decide) (fun c0 => ?_) (fun c0 => ?_)
          · have h := h.1 c0
            refine lv_iconst (v := 0) hx hb dL_tokens_293 (by decide) ?_
            refine lv_istore (lv' := [(12, .int 0), (0, .ref a0), (1, .ref ar1_49), (2, .ref ar2_49), (3, .int x3_49), (4, .ref ar4_49), (5, .int x5_49), (6, .int x6_49), (7, .int x7_49), (8, .int x8_49), (9, .int x9_49), (10, .int x10_49), (11, .int x11_49)]) hx hb dL_tokens_294 hl (by decide) rfl (fun ls hl => ?_)
            have hP := P_perm (X' := ([(ar1_49, .inl (cT 0, mr1_49, .inl fr1_49)), (ar2_49, .inl (cT 0, mr2_49, .inl fr2_49))] : va_W)) hP [0, 1] rfl
            have hD := D_perm (X' := ([(ar1_49, .inl (cT 0, mr1_49, .inl fr1_49)), (ar2_49, .inl (cT 0, mr2_49, .inl fr2_49))] : va_W)) hD [0, 1] (by decide) rfl
            exact wB_296 7 x3_49 x5_49 x6_49 x7_49 x8_49 x9_49 x10_49 (0 : Int32) mr1_49 fr1_49 mr2_49 fr2_49 ar1_49 ar2_49 σ _ _ _ _ _ _ h hO hP hD hS (lv_sub hl [1, 2, 3, 4, 6, 7, 8, 9, 10, 11, 0] rfl) (by omega) (by omega)
          · have h := h.2 c0
            refine lv_aload hx hb dL_tokens_57 (lv_at hl 4 rfl) ?_
            refine lv_iload hx hb dL_tokens_59 (lv_at hl 11 rfl) ?_
            obtain ⟨hc, h⟩ := h
            refine va_cald hx hb hK hP 2 2 rfl rfl (inb_in hc) dL_tokens_61 ?_
            refine lv_topi (fun v38 e_v => ?_)
            have h := h v38 e_v
            refine lv_istore (lv' := [(12, .int v38), (0, .ref a0), (1, .ref ar1_49), (2, .ref ar2_49), (3, .int x3_49), (4, .ref ar4_49), (5, .int x5_49), (6, .int x6_49), (7, .int x7_49), (8, .int x8_49), (9, .int x9_49), (10, .int x10_49), (11, .int x11_49)]) hx hb dL_tokens_62 hl (by decide) rfl (fun ls hl => ?_)
            refine lv_aload_n hx hb dL_tokens_64 rfl (lv_at hl 1 rfl) ?_
            refine lv_iload_n hx hb dL_tokens_65 rfl (lv_at hl 4 rfl) ?_
            refine lv_iload hx hb dL_tokens_66 (lv_at hl 6 rfl) ?_
            refine coI (vx_runSW (As := [.ref a0, .int x3_49, .int x5_49]) (rest := []) ⟨hx, hb, hml, hown, hta⟩ (oc_L_token l hl9 dC dI cT hO (P_r hP) ((D_r hD).weaken (fun _ _ _ _ => trivial))) (cW hta lm_L_236 mw_L_token ⟨(Nat.le_of_ble_eq_true rfl), (Nat.le_of_ble_eq_true rfl)⟩) ⟨fbU, fun U hU hW => ⟨rfl, hU, va_K.moved hW.alike hK, XS.call hX hS hU hW (freeO hD hS hA), hN.warm hW, ZS.call hZ hS hU hW (freeO hD hS hA), LT.call hT hS hU hW (freeO hD hS hA)⟩⟩ rfl rfl hl.1 rfl (lv_room (Nat.le_of_ble_eq_true rfl)) dL_tokens_68 ⟨by show _ ≤ (1403 : Nat); omega, by show _ ≤ (28876 : Nat); omega⟩) hS hA hP hD (fun r39 wo H locs hw hP hD hS => ?_)
            obtain ⟨hr9, hO⟩ := hw
            have h := h r39 hr9
            refine lv_iload hx hb dL_tokens_71 (lv_at hl 0 rfl) ?_
            refine lv_icmp_eq (tgt := 78) hx hb dL_tokens_73 (by decide) (fun c0 => ?_) (fun c0 => ?_)
            · have h := h.1 c0
              refine lv_iload hx hb dL_tokens_78 (lv_at hl 0 rfl) ?_
              refine lv_bipush (v := 97) hx hb dL_tokens_80 (by decide) ?_
              refine lv_icmp_lt (tgt := 96) hx hb dL_tokens_82 (by decide) (fun c0 => ?_) (fun c0 => ?_)
              · have h := h.1 c0
                exact wB_96 x3_49 x5_49 x6_49 x7_49 x8_49 x9_49 x10_49 x11_49 v38 mr1_49 fr1_49 mr2_49 fr2_49 mr4_49 fr4_49 ar1_49 ar2_49 ar4_49 σ _ _ _ _ _ _ h hO hP hD hS (lv_sub hl [1, 2, 3, 4, 5, 6, 7, 8, 9, 10, 11, 12, 0] rfl) (by omega) (by omega)
              · have h := h.2 c0
                refine lv_iload hx hb dL_tokens_85 (lv_at hl 0 rfl) ?_
                refine lv_bipush (v := 102) hx hb dL_tokens_87 (by decide) ?_
                refine lv_icmp_gt (tgt := 96) hx hb dL_tokens_89 (by decide) (fun c0 => ?_) (fun c0 => ?_)
                · have h := h.1 c0
                  exact wB_96 x3_49 x5_49 x6_49 x7_49 x8_49 x9_49 x10_49 x11_49 v38 mr1_49 fr1_49 mr2_49 fr2_49 mr4_49 fr4_49 ar1_49 ar2_49 ar4_49 σ _ _ _ _ _ _ h hO hP hD hS (lv_sub hl [1, 2, 3, 4, 5, 6, 7, 8, 9, 10, 11, 12, 0] rfl) (by omega) (by omega)
                · have h := h.2 c0
                  refine lv_iconst (v := 1) hx hb dL_tokens_92 (by decide) ?_
                  refine lv_goto (tgt := 97) hx hb dL_tokens_93 (by decide) ?_
                  exact wB_97 x3_49 x5_49 x6_49 x7_49 x8_49 x9_49 x10_49 x11_49 v38 (1 : Int32) mr1_49 fr1_49 mr2_49 fr2_49 mr4_49 fr4_49 ar1_49 ar2_49 ar4_49 σ _ _ _ _ _ _ h hO hP hD hS (lv_sub hl [1, 2, 3, 4, 5, 6, 7, 8, 9, 10, 11, 12, 0] rfl) (by omega) (by omega)
            · have h := h.2 c0
              refine lv_iconst (v := 0) hx hb dL_tokens_76 (by decide) ?_
              refine W.widen (k := 1403) (n := 28876) (by omega) (by omega) ?_
              rw [hQ]
              exact W.zret (ty := .boolean) (v := 0) hx hb hr (bo_n (v := 0) rfl) (fun t ht hW => ⟨⟨0, wo, rfl, ⟨_, h, hO⟩, by rw [ht]; exact P_r hP, D_r hD⟩, hS.F ht⟩) hS.2.2 dL_tokens_77
      intro x3_12 mr1_12 fr1_12 mr2_12 fr2_12 ar1_12 ar2_12 σ wo H locs ls cells slots h hO hP hD hS hl hc1 hc2
      rw [wp_L_tokens_b12] at h
      refine lv_iload_n hx hb dL_tokens_12 rfl (lv_at hl 3 rfl) ?_
      refine lv_aload_n hx hb dL_tokens_13 rfl (lv_at hl 0 rfl) ?_
      refine lv_iconst (v := 1) hx hb dL_tokens_14 (by decide) ?_
      obtain ⟨hq, h⟩ := h
      refine coI (va_runV (As := [.int 1]) (rest := [.int x3_12]) ⟨hx, hb, hml, hown, hta⟩ (oc_X11_account l hl9 dC dI cT hO hq (P_r hP) ((D_r hD).weaken (fun _ _ _ _ => trivial))) (cV hta lm_L_229 md_X11_account ⟨(Nat.le_of_ble_eq_true rfl), (Nat.le_of_ble_eq_true rfl)⟩) ⟨fbU, recvO hK hO (P_r hP), fun U hU hW => ⟨rfl, hU, va_K.moved hW.alike hK, XS.call hX hS hU hW (freeO hD hS hA), hN.warm hW, ZS.call hZ hS hU hW (freeO hD hS hA), LT.call hT hS hU hW (freeO hD hS hA)⟩⟩ rfl rfl hl.1 rfl (lv_room (Nat.le_of_ble_eq_true rfl)) dL_tokens_15 ⟨by show _ ≤ (1403 : Nat); omega, by show _ ≤ (28876 : Nat); omega⟩) hS hA hP hD (fun r40 wo H locs hw hP hD hS => ?_)
      obtain ⟨hr9, hO⟩ := hw
      have h := h r40 hr9
      refine lv_icmp_ge (tgt := 438) hx hb dL_tokens_18 (by decide) (fun c0 => ?_) (fun c0 => ?_)
      · have h := h.1 c0
        refine lv_iconst (v := 0) hx hb dL_tokens_438 (by decide) ?_
        refine lv_istore_n (lv' := [(3, .int 0), (0, .ref a0), (1, .ref ar1_12), (2, .ref ar2_12)]) hx hb dL_tokens_439 rfl hl (by decide) rfl (fun ls hl => ?_)
        exact wB_440 7 (0 : Int32) mr1_12 fr1_12 mr2_12 fr2_12 ar1_12 ar2_12 σ _ _ _ _ _ _ h hO hP hD hS (lv_sub hl [1, 2, 3, 0] rfl) (by omega) (by omega)
      · have h := h.2 c0
        refine lv_aload_n hx hb dL_tokens_21 rfl (lv_at hl 0 rfl) ?_
        refine lv_iload_n hx hb dL_tokens_22 rfl (lv_at hl 3 rfl) ?_
        refine coA (va_runS (As := [.ref a0, .int x3_12]) (rest := []) ⟨hx, hb, hml, hown, hta⟩ (lc_L_text l hl9 dC dI cT h hO (P_r hP) ((D_r hD).weaken (fun _ _ _ _ => trivial))) (cS hta lm_L_232 md_L_text ⟨(Nat.le_of_ble_eq_true rfl), (Nat.le_of_ble_eq_true rfl)⟩) ⟨fbU, fun U hU hW => ⟨rfl, hU, va_K.moved hW.alike hK, XS.call hX hS hU hW (freeO hD hS hA), hN.warm hW, ZS.call hZ hS hU hW (freeO hD hS hA), LT.call hT hS hU hW (freeO hD hS hA)⟩⟩ rfl rfl hl.1 rfl (lv_room (Nat.le_of_ble_eq_true rfl)) dL_tokens_23 ⟨by show _ ≤ (1403 : Nat); omega, by show _ ≤ (28876 : Nat); omega⟩) hS hA hP hD (fun nq23_42 fq23_42 wo aq23_42 H locs hw hP hD hS => ?_)
        obtain ⟨σ41, h, hO⟩ := hw
        have hP : va_P (dC, dI) vwCl (([(ar1_12, .inl (cT 0, mr1_12, .inl fr1_12)), (ar2_12, .inl (cT 0, mr2_12, .inl fr2_12)), (aq23_42, .inl (cT 2, nq23_42, .inl fq23_42))] : va_W) ++ wo) H := hP
        have hD : va_D A (([(ar1_12, .inl (cT 0, mr1_12, .inl fr1_12)), (ar2_12, .inl (cT 0, mr2_12, .inl fr2_12)), (aq23_42, .inl (cT 2, nq23_42, .inl fq23_42))] : va_W) ++ wo) := hD
        refine lv_astore (lv' := [(4, .ref aq23_42), (0, .ref a0), (1, .ref ar1_12), (2, .ref ar2_12), (3, .int x3_12)]) hx hb dL_tokens_26 hl (by decide) rfl (fun ls hl => ?_)
        refine lv_iconst (v := 0) hx hb dL_tokens_28 (by decide) ?_
        refine lv_istore (lv' := [(5, .int 0), (4, .ref aq23_42), (0, .ref a0), (1, .ref ar1_12), (2, .ref ar2_12), (3, .int x3_12)]) hx hb dL_tokens_29 hl (by decide) rfl (fun ls hl => ?_)
        refine lv_iconst (v := 0) hx hb dL_tokens_31 (by decide) ?_
        refine lv_istore (lv' := [(6, .int 0), (5, .int 0), (4, .ref aq23_42), (0, .ref a0), (1, .ref ar1_12), (2, .ref ar2_12), (3, .int x3_12)]) hx hb dL_tokens_32 hl (by decide) rfl (fun ls hl => ?_)
        refine lv_iconst (v := 0) hx hb dL_tokens_34 (by decide) ?_
        refine lv_istore (lv' := [(7, .int 0), (6, .int 0), (5, .int 0), (4, .ref aq23_42), (0, .ref a0), (1, .ref ar1_12), (2, .ref ar2_12), (3, .int x3_12)]) hx hb dL_tokens_35 hl (by decide) rfl (fun ls hl => ?_)
        refine lv_iconst (v := 0) hx hb dL_tokens_37 (by decide) ?_
        refine lv_istore (lv' := [(8, .int 0), (7, .int 0), (6, .int 0), (5, .int 0), (4, .ref aq23_42), (0, .ref a0), (1, .ref ar1_12), (2, .ref ar2_12), (3, .int x3_12)]) hx hb dL_tokens_38 hl (by decide) rfl (fun ls hl => ?_)
        refine lv_iconst (v := 0) hx hb dL_tokens_40 (by decide) ?_
        refine lv_istore (lv' := [(9, .int 0), (8, .int 0), (7, .int 0), (6, .int 0), (5, .int 0), (4, .ref aq23_42), (0, .ref a0), (1, .ref ar1_12), (2, .ref ar2_12), (3, .int x3_12)]) hx hb dL_tokens_41 hl (by decide) rfl (fun ls hl => ?_)
        refine lv_iconst (v := 0) hx hb dL_tokens_43 (by decide) ?_
        refine lv_istore (lv' := [(10, .int 0), (9, .int 0), (8, .int 0), (7, .int 0), (6, .int 0), (5, .int 0), (4, .ref aq23_42), (0, .ref a0), (1, .ref ar1_12), (2, .ref ar2_12), (3, .int x3_12)]) hx hb dL_tokens_44 hl (by decide) rfl (fun ls hl => ?_)
        refine lv_iconst (v := 0) hx hb dL_tokens_46 (by decide) ?_
        refine lv_istore (lv' := [(11, .int 0), (10, .int 0), (9, .int 0), (8, .int 0), (7, .int 0), (6, .int 0), (5, .int 0), (4, .ref aq23_42), (0, .ref a0), (1, .ref ar1_12), (2, .ref ar2_12), (3, .int x3_12)]) hx hb dL_tokens_47 hl (by decide) rfl (fun ls hl => ?_)
        exact wB_49 62 x3_12 (0 : Int32) (0 : Int32) (0 : Int32) (0 : Int32) (0 : Int32) (0 : Int32) (0 : Int32) mr1_12 fr1_12 mr2_12 fr2_12 nq23_42 fq23_42 ar1_12 ar2_12 aq23_42 σ41 _ _ _ _ _ _ h hO hP hD hS (lv_sub hl [8, 9, 10, 11, 7, 6, 5, 4, 3, 2, 1, 0] rfl) (by omega) (by omega)
  unfold wp_L_tokens at h
  have hc1 : (0 : Nat) + 1403 ≤ 1403 := Nat.le_of_eq (Nat.zero_add _)
  have hc2 : (0 : Nat) + 28876 ≤ 28876 := Nat.le_of_eq (Nat.zero_add _)
  clear hP0 hD0 hAe
  obtain ⟨wo, e_w⟩ : ∃ z, z = W0 := ⟨W0, rfl⟩
  rw [← e_w] at hO hP hD
  clear e_w
  refine lv_bipush (v := 6) hx hb dL_tokens_0 (by decide) ?_
  refine va_newaT (ty := .int) (a0 := (6, .inl (fun _ => 0))) hx hb (hta _ ac_int) rfl (fun _ h9 => by cases h9) 0 rfl hK hP hD hS hA (fun _ => rfl) (by decide) rfl (Nat.le_of_ble_eq_true rfl) (by show _ ≤ (1403 : Nat); omega) (by show _ ≤ (28876 : Nat); omega) dL_tokens_2 (fun aq43 H hP hD hS => ?_)
  have hP : va_P (dC, dI) vwCl (([(aq43, .inl (cT 0, 6, .inl (fun _ => 0)))] : va_W) ++ wo) H := P_mv hP
  have hD : va_D A (([(aq43, .inl (cT 0, 6, .inl (fun _ => 0)))] : va_W) ++ wo) := D_mv hD
  refine lv_astore_n (lv' := [(1, .ref aq43), (0, .ref a0)]) hx hb dL_tokens_4 rfl hl (by decide) rfl (fun ls hl => ?_)
  refine lv_bipush (v := 6) hx hb dL_tokens_5 (by decide) ?_
  refine va_newaT (ty := .int) (a0 := (6, .inl (fun _ => 0))) hx hb (hta _ ac_int) rfl (fun _ h9 => by cases h9) 0 rfl hK hP hD hS hA (fun _ => rfl) (by decide) rfl (Nat.le_of_ble_eq_true rfl) (by show _ ≤ (1403 : Nat); omega) (by show _ ≤ (28876 : Nat); omega) dL_tokens_7 (fun aq44 H hP hD hS => ?_)
  have hP : va_P (dC, dI) vwCl (([(aq43, .inl (cT 0, 6, .inl (fun _ => 0))), (aq44, .inl (cT 0, 6, .inl (fun _ => 0)))] : va_W) ++ wo) H := P_mv hP
  have hD : va_D A (([(aq43, .inl (cT 0, 6, .inl (fun _ => 0))), (aq44, .inl (cT 0, 6, .inl (fun _ => 0)))] : va_W) ++ wo) := D_mv hD
  refine lv_astore_n (lv' := [(2, .ref aq44), (1, .ref aq43), (0, .ref a0)]) hx hb dL_tokens_9 rfl hl (by decide) rfl (fun ls hl => ?_)
  refine lv_iconst (v := 0) hx hb dL_tokens_10 (by decide) ?_
  refine lv_istore_n (lv' := [(3, .int 0), (2, .ref aq44), (1, .ref aq43), (0, .ref a0)]) hx hb dL_tokens_11 rfl hl (by decide) rfl (fun ls hl => ?_)
  exact wB_12 5 (0 : Int32) 6 (fun _ => 0) 6 (fun _ => 0) aq43 aq44 σ _ _ _ _ _ _ h hO hP hD hS (lv_sub hl [3, 2, 1, 0] rfl) (by omega) (by omega)
