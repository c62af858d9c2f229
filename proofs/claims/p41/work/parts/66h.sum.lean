/-! THE LAW's methods (gen/laws41.py) -/
def wp_L_sum_b107 (K : (Int64 → AB → Prop)) (k_83 : Int64 → Int32 → AB → Prop) : Nat → Int64 → Int32 → Int32 → Int32 → Nat → (Nat → Int32) → AB → Prop
  | 0, _, _, _, _, _, _, _ => False
  | n + 1, x1_107, x3_107, x5_107, x6_107, mr4_107, fr4_107, σ =>
    (x5_107 ≤ x6_107 →
    ∀ r1 : Int32, r1 = f_spellOf σ.1 x3_107 (4 : Int32) →
    ∀ v2 : Int64, v2 = (((43 : Int64) * x1_107) + r1.toInt64) →
    ∀ v3 : Int32, v3 = x3_107 + 1 →
    k_83 v2 v3 σ) ∧
    (¬ x5_107 ≤ x6_107 →
    (inb x6_107 mr4_107 = true) ∧
    ∀ v4 : Int32, v4 = (fr4_107 x6_107.toNatClampNeg) →
    ∀ v5 : Int64, v5 = (((41 : Int64) * x1_107) + v4.toInt64) →
    ∀ v6 : Int32, v6 = x6_107 + 1 →
    wp_L_sum_b107 K k_83 n v5 x3_107 x5_107 v6 mr4_107 fr4_107 σ)
def wp_L_sum_b83 (K : (Int64 → AB → Prop))  : Nat → Int64 → Int32 → AB → Prop
  | 0, _, _, _ => False
  | n + 1, x1_83, x3_83, σ =>
    (∃ n, n < 8 ∧ (1 : Int32) = nI n) ∧
    ∀ r7 : Int32, r7 = f_account σ.1 σ.2.2.2.2.2.2 (1 : Int32) →
    (r7 ≤ x3_83 →
    K x1_83 σ) ∧
    (¬ r7 ≤ x3_83 →
    wp_L_text (fun (nq94_9 : Nat) (fq94_9 : Nat → Int32) (σ8 : AB) =>
    ∀ v10 : Int32, v10 = (nI nq94_9) →
    wp_L_sum_b107 K (wp_L_sum_b83 K n) 62 x1_83 x3_83 v10 (0 : Int32) nq94_9 fq94_9 σ8) x3_83 σ)
def wp_L_sum_b33 (K : (Int64 → AB → Prop))  : Nat → Int64 → Int32 → AB → Prop
  | 0, _, _, _ => False
  | n + 1, x1_33, x3_33, σ =>
    (∃ n, n < 8 ∧ (0 : Int32) = nI n) ∧
    ∀ r11 : Int32, r11 = f_account σ.1 σ.2.2.2.2.2.2 (0 : Int32) →
    (((7 : Int32) * r11) ≤ x3_33 →
    wp_L_sum_b83 K 5 x1_33 (0 : Int32) σ) ∧
    (¬ ((7 : Int32) * r11) ≤ x3_33 →
    (¬ (7 : Int32) = 0) ∧
    (¬ (7 : Int32) = 0) ∧
    ∀ v12 : Int32, v12 = (x3_33 - x3_33 / (7 : Int32) * (7 : Int32)) →
    ∀ r13 : Int32, r13 = f_of σ.1 (x3_33 / (7 : Int32)) v12 →
    (¬ (7 : Int32) = 0) ∧
    (∃ n, n < σ.1.2.1 ∧ (x3_33 / (7 : Int32)) = nI n) ∧
    ∀ r14 : Int32, r14 = f_bits σ.1 (x3_33 / (7 : Int32)) →
    ∀ v15 : Int64, v15 = ((((37 : Int64) * x1_33) + r13.toInt64) + r14.toInt64) →
    ∀ v16 : Int32, v16 = x3_33 + 1 →
    wp_L_sum_b33 K n v15 v16 σ)
def wp_L_sum_b6 (K : (Int64 → AB → Prop))  : Nat → Int64 → Int32 → AB → Prop
  | 0, _, _, _ => False
  | n + 1, x1_6, x3_6, σ =>
    (6 ≤ x3_6 →
    wp_L_sum_b33 K 43 x1_6 (0 : Int32) σ) ∧
    (¬ 6 ≤ x3_6 →
    (∃ n, n < 8 ∧ x3_6 = nI n) ∧
    ∀ r17 : Int32, r17 = f_account σ.1 σ.2.2.2.2.2.2 x3_6 →
    ∀ v18 : Int64, v18 = (((31 : Int64) * x1_6) + r17.toInt64) →
    ∀ v19 : Int32, v19 = x3_6 + 1 →
    wp_L_sum_b6 K n v18 v19 σ)
def wp_L_sum (K : (Int64 → AB → Prop))  (σ : AB) : Prop :=
∀ v20 : Int64, v20 = (7 : Int64) →
wp_L_sum_b6 K 7 v20 (0 : Int32) σ
set_option maxHeartbeats 4000000 in
set_option maxRecDepth 100000 in
theorem lc_L_sum (l : Launch) (hl9 : l.stackTraces = false) (dC : Nat → ClassId) (dI : Nat → Nat → Nat) (cT : Nat → ClassId) {Hh : Heap} {a0 : Nat} {σ : AB} {W0 : va_W} {K : (Int64 → AB → Prop)} (h : wp_L_sum K σ) (hO : OB cT a0 σ W0) (hP0 : va_P (dC, dI) vwCl W0 Hh) (hD0 : va_D (fun _ => True) W0) : Met l yL_sum (wA yL_sum cL_sum 8 (some .long)) ({ frames := 10, cells := 829, slots := 25324, locals := 201 } : Room) (PU dC dI cT [.ref a0] Hh (va_A W0 Hh.size)) (QEL dC dI (fun r W1 => ∃ σ9, K r σ9 ∧ OB cT a0 σ9 W1) (va_A W0 Hh.size)) 829 25324 (va_A W0 Hh.size) := by
  refine Met.ofW (cc := cL_sum) (maxL := 8) (ret := (some .long)) (by decide) rfl ?_
  intro p e s m args below meth c s₁ B hml hv
  obtain ⟨rfl, hH, hK, hX, hN, hZ, hT⟩ := hv
  subst hH
  have hx := B.exec
  have hb := B.bytes
  have hr := B.returns
  have hta : ∀ w ∈ ALLW, w.before [.ref a0].toArray s = true := fun w hw => atoms_spec (ws := wA yL_sum cL_sum 8 (some .long)) B.pre w (List.mem_cons_of_mem _ hw)
  have hown : s.vm.findClass RL = some m.cls := findClass_of_methodNamed B.named
  have hlocks := B.notSynchronized
  have hD : va_D (va_A W0 s.heap.size) (([] : va_W) ++ W0) := hD0.self (sz := s.heap.size)
  generalize hAe : va_A W0 s.heap.size = A at hD hX hZ hT ⊢
  have hP : va_P (dC, dI) vwCl (([] : va_W) ++ W0) s.heap := hP0
  have hA : ∀ q : Nat, s.heap.size ≤ q → A q := fun q h => by rw [← hAe]; exact Or.inr h
  have hS : va_S A s.heap s.heap [] := va_S.rf
  have hl := lv_entry [.ref a0] (n := 8) (Nat.le_of_ble_eq_true rfl)
  rw [lg_entry_eq]
  generalize (lg_sl [.ref a0] ++ List.replicate (8 - (lg_sl [.ref a0]).length) Slot.unset).toArray = ls at hl ⊢
  have hl : lv_has ls 8 [(0, .ref a0)] := hl
  obtain ⟨Q, hQ⟩ : ∃ Q, Q = MQ below (QEL dC dI (fun r W1 => ∃ σ9, K r σ9 ∧ OB cT a0 σ9 W1) A) [.ref a0].toArray s 829 25324 A := ⟨_, rfl⟩
  rw [← hQ]
  have wB_83 : ∀ (n_83 : Nat), ∀ (x1_83 : Int64) (x3_83 : Int32) (σ : AB) (wo : va_W) (H : Heap) (locs : List Loc) (ls : Array Slot) (cells slots : Nat), wp_L_sum_b83 K n_83 x1_83 x3_83 σ → OB cT a0 σ wo → va_P (dC, dI) vwCl (([] : va_W) ++ wo) H → va_D A (([] : va_W) ++ wo) → va_S A s.heap H locs → lv_has ls 8 [(0, .ref a0), (1, .long x1_83), (3, .int x3_83)] → cells + (0 + n_83 * 130) ≤ 829 → slots + (0 + n_83 * 4850) ≤ 25324 → W p l e ({ frames := 10, cells := 829, slots := 25324, locals := 201 } : Room) s m [.ref a0].toArray below meth c H locs cells slots Q (F0 m 83 ls []) := by
    intro n_83
    induction n_83 with
    | zero =>
      intro x1_83 x3_83 σ wo H locs ls cells slots h hO hP hD hS hl hc1 hc2
      exact False.elim h
    | succ n_83 ih_83 =>
      have wB_107 : ∀ (n_107 : Nat), ∀ (x1_107 : Int64) (x3_107 : Int32) (x5_107 : Int32) (x6_107 : Int32) (mr4_107 : Nat) (fr4_107 : Nat → Int32) (ar4_107 : Nat) (σ : AB) (wo : va_W) (H : Heap) (locs : List Loc) (ls : Array Slot) (cells slots : Nat), wp_L_sum_b107 K (wp_L_sum_b83 K n_83) n_107 x1_107 x3_107 x5_107 x6_107 mr4_107 fr4_107 σ → OB cT a0 σ wo → va_P (dC, dI) vwCl (([(ar4_107, .inl (cT 2, mr4_107, .inl fr4_107))] : va_W) ++ wo) H → va_D A (([(ar4_107, .inl (cT 2, mr4_107, .inl fr4_107))] : va_W) ++ wo) → va_S A s.heap H locs → lv_has ls 8 [(0, .ref a0), (1, .long x1_107), (3, .int x3_107), (4, .ref ar4_107), (5, .int x5_107), (6, .int x6_107)] → cells + (2 + n_83 * 130) ≤ 829 → slots + (12 + n_83 * 4850) ≤ 25324 → W p l e ({ frames := 10, cells := 829, slots := 25324, locals := 201 } : Room) s m [.ref a0].toArray below meth c H locs cells slots Q (F0 m 107 ls []) := by
        intro n_107
        induction n_107 with
        | zero =>
          intro x1_107 x3_107 x5_107 x6_107 mr4_107 fr4_107 ar4_107 σ wo H locs ls cells slots h hO hP hD hS hl hc1 hc2
          exact False.elim h
        | succ n_107 ih_107 =>
          intro x1_107 x3_107 x5_107 x6_107 mr4_107 fr4_107 ar4_107 σ wo H locs ls cells slots h hO hP hD hS hl hc1 hc2
          rw [wp_L_sum_b107] at h
          refine lv_iload hx hb dL_sum_107 (lv_at hl 5 rfl) ?_
          refine lv_iload hx hb dL_sum_109 (lv_at hl 4 rfl) ?_
          refine lv_icmp_ge (tgt := 137) hx hb dL_sum_111 (by decide) (fun c0 => ?_) (fun c0 => ?_)
          · have h := h.1 c0
            refine lv_ldc2 (v := 43) hx hb hown (hta _ kc_L_334) dL_sum_137 ?_
            refine lv_lload_n hx hb dL_sum_140 rfl (lv_at hl 1 rfl) ?_
            refine lv_lmul hx hb dL_sum_141 ?_
            refine lv_aload_n hx hb dL_sum_142 rfl (lv_at hl 0 rfl) ?_
            refine lv_iload_n hx hb dL_sum_143 rfl (lv_at hl 2 rfl) ?_
            refine lv_iconst (v := 4) hx hb dL_sum_144 (by decide) ?_
            refine coI (vx_runSW (As := [.ref a0, .int x3_107, .int 4]) (rest := [.long ((43 : Int64) * x1_107)]) ⟨hx, hb, hml, hown, hta⟩ (oc_L_spellOf l hl9 dC dI cT hO (P_r hP) ((D_r hD).weaken (fun _ _ _ _ => trivial))) (cW hta lm_L_247 mw_L_spellOf ⟨(Nat.le_of_ble_eq_true rfl), (Nat.le_of_ble_eq_true rfl)⟩) ⟨fbU, fun U hU hW => ⟨rfl, hU, va_K.moved hW.alike hK, XS.call hX hS hU hW (freeO hD hS hA), hN.warm hW, ZS.call hZ hS hU hW (freeO hD hS hA), LT.call hT hS hU hW (freeO hD hS hA)⟩⟩ rfl rfl hl.1 rfl (lv_room (Nat.le_of_ble_eq_true rfl)) dL_sum_145 ⟨by show _ ≤ (829 : Nat); omega, by show _ ≤ (25324 : Nat); omega⟩) hS hA hP hD (fun r1 wo H locs hw hP hD hS => ?_)
            obtain ⟨hr9, hO⟩ := hw
            have h := h r1 hr9
            refine lv_i2l hx hb dL_sum_148 rfl ?_
            refine lv_ladd hx hb dL_sum_149 ?_
            refine lv_topl (fun v2 e_v => ?_)
            have h := h v2 e_v
            refine lv_lstore_n (lv' := [(1, .long v2), (0, .ref a0), (3, .int x3_107), (4, .ref ar4_107), (5, .int x5_107), (6, .int x6_107)]) hx hb dL_sum_150 rfl hl (by decide) rfl (fun ls hl => ?_)
            obtain ⟨v3, e_v⟩ : ∃ y : Int32, y = x3_107 + 1 := ⟨_, rfl⟩
            have h := h v3 e_v
            refine lv_iinc (v := v3) (lv' := [(3, .int v3), (1, .long v2), (0, .ref a0), (4, .ref ar4_107), (5, .int x5_107), (6, .int x6_107)]) hx hb dL_sum_151 hl (k := 2) rfl (by rw [e_v]; rfl) (by decide) rfl (fun ls hl => ?_)
            refine lv_goto (tgt := 83) hx hb dL_sum_154 (by decide) ?_
            have hP := P_perm (X' := ([] : va_W)) hP [] rfl
            have hD := D_perm (X' := ([] : va_W)) hD [] (by decide) rfl
            exact ih_83 v2 v3 σ _ _ _ _ _ _ h hO hP hD hS (lv_sub hl [2, 1, 0] rfl) (by omega) (by omega)
          · have h := h.2 c0
            refine lv_aload hx hb dL_sum_114 (lv_at hl 3 rfl) ?_
            refine lv_iload hx hb dL_sum_116 (lv_at hl 5 rfl) ?_
            obtain ⟨hc, h⟩ := h
            refine va_cald hx hb hK hP 0 2 rfl rfl (inb_in hc) dL_sum_118 ?_
            refine lv_topi (fun v4 e_v => ?_)
            have h := h v4 e_v
            refine lv_istore (lv' := [(7, .int v4), (0, .ref a0), (1, .long x1_107), (3, .int x3_107), (4, .ref ar4_107), (5, .int x5_107), (6, .int x6_107)]) hx hb dL_sum_119 hl (by decide) rfl (fun ls hl => ?_)
            refine lv_ldc2 (v := 41) hx hb hown (hta _ kc_L_332) dL_sum_121 ?_
            refine lv_lload_n hx hb dL_sum_124 rfl (lv_at hl 2 rfl) ?_
            refine lv_lmul hx hb dL_sum_125 ?_
            refine lv_iload hx hb dL_sum_126 (lv_at hl 0 rfl) ?_
            refine lv_i2l hx hb dL_sum_128 rfl ?_
            refine lv_ladd hx hb dL_sum_129 ?_
            refine lv_topl (fun v5 e_v => ?_)
            have h := h v5 e_v
            refine lv_lstore_n (lv' := [(1, .long v5), (7, .int v4), (0, .ref a0), (3, .int x3_107), (4, .ref ar4_107), (5, .int x5_107), (6, .int x6_107)]) hx hb dL_sum_130 rfl hl (by decide) rfl (fun ls hl => ?_)
            obtain ⟨v6, e_v⟩ : ∃ y : Int32, y = x6_107 + 1 := ⟨_, rfl⟩
            have h := h v6 e_v
            refine lv_iinc (v := v6) (lv' := [(6, .int v6), (1, .long v5), (7, .int v4), (0, .ref a0), (3, .int x3_107), (4, .ref ar4_107), (5, .int x5_107)]) hx hb dL_sum_131 hl (k := 6) rfl (by rw [e_v]; rfl) (by decide) rfl (fun ls hl => ?_)
            refine lv_goto (tgt := 107) hx hb dL_sum_134 (by decide) ?_
            exact ih_107 v5 x3_107 x5_107 v6 mr4_107 fr4_107 ar4_107 σ _ _ _ _ _ _ h hO hP hD hS (lv_sub hl [3, 1, 4, 5, 6, 0] rfl) (by omega) (by omega)
      intro x1_83 x3_83 σ wo H locs ls cells slots h hO hP hD hS hl hc1 hc2
      rw [wp_L_sum_b83] at h
      refine lv_iload_n hx hb dL_sum_83 rfl (lv_at hl 2 rfl) ?_
      refine lv_aload_n hx hb dL_sum_84 rfl (lv_at hl 0 rfl) ?_
      refine lv_iconst (v := 1) hx hb dL_sum_85 (by decide) ?_
      obtain ⟨hq, h⟩ := h
      refine coI (va_runV (As := [.int 1]) (rest := [.int x3_83]) ⟨hx, hb, hml, hown, hta⟩ (oc_X11_account l hl9 dC dI cT hO hq (P_r hP) ((D_r hD).weaken (fun _ _ _ _ => trivial))) (cV hta lm_L_229 md_X11_account ⟨(Nat.le_of_ble_eq_true rfl), (Nat.le_of_ble_eq_true rfl)⟩) ⟨fbU, recvO hK hO (P_r hP), fun U hU hW => ⟨rfl, hU, va_K.moved hW.alike hK, XS.call hX hS hU hW (freeO hD hS hA), hN.warm hW, ZS.call hZ hS hU hW (freeO hD hS hA), LT.call hT hS hU hW (freeO hD hS hA)⟩⟩ rfl rfl hl.1 rfl (lv_room (Nat.le_of_ble_eq_true rfl)) dL_sum_86 ⟨by show _ ≤ (829 : Nat); omega, by show _ ≤ (25324 : Nat); omega⟩) hS hA hP hD (fun r7 wo H locs hw hP hD hS => ?_)
      obtain ⟨hr9, hO⟩ := hw
      have h := h r7 hr9
      refine lv_icmp_ge (tgt := 157) hx hb dL_sum_89 (by decide) (fun c0 => ?_) (fun c0 => ?_)
      · have h := h.1 c0
        refine lv_lload_n hx hb dL_sum_157 rfl (lv_at hl 1 rfl) ?_
        refine W.widen (k := 829) (n := 25324) (by omega) (by omega) ?_
        rw [hQ]
        exact W.lret (v := x1_83) hx hb hr (fun t ht hW => ⟨⟨x1_83, wo, rfl, ⟨_, h, hO⟩, by rw [ht]; exact P_r hP, D_r hD⟩, hS.F ht⟩) hS.2.2 dL_sum_158
      · have h := h.2 c0
        refine lv_aload_n hx hb dL_sum_92 rfl (lv_at hl 0 rfl) ?_
        refine lv_iload_n hx hb dL_sum_93 rfl (lv_at hl 2 rfl) ?_
        refine coA (va_runS (As := [.ref a0, .int x3_83]) (rest := []) ⟨hx, hb, hml, hown, hta⟩ (lc_L_text l hl9 dC dI cT h hO (P_r hP) ((D_r hD).weaken (fun _ _ _ _ => trivial))) (cS hta lm_L_232 md_L_text ⟨(Nat.le_of_ble_eq_true rfl), (Nat.le_of_ble_eq_true rfl)⟩) ⟨fbU, fun U hU hW => ⟨rfl, hU, va_K.moved hW.alike hK, XS.call hX hS hU hW (freeO hD hS hA), hN.warm hW, ZS.call hZ hS hU hW (freeO hD hS hA), LT.call hT hS hU hW (freeO hD hS hA)⟩⟩ rfl rfl hl.1 rfl (lv_room (Nat.le_of_ble_eq_true rfl)) dL_sum_94 ⟨by show _ ≤ (829 : Nat); omega, by show _ ≤ (25324 : Nat); omega⟩) hS hA hP hD (fun nq94_9 fq94_9 wo aq94_9 H locs hw hP hD hS => ?_)
        obtain ⟨σ8, h, hO⟩ := hw
        have hP : va_P (dC, dI) vwCl (([(aq94_9, .inl (cT 2, nq94_9, .inl fq94_9))] : va_W) ++ wo) H := hP
        have hD : va_D A (([(aq94_9, .inl (cT 2, nq94_9, .inl fq94_9))] : va_W) ++ wo) := hD
        refine lv_astore (lv' := [(4, .ref aq94_9), (0, .ref a0), (1, .long x1_83), (3, .int x3_83)]) hx hb dL_sum_97 hl (by decide) rfl (fun ls hl => ?_)
        refine lv_aload hx hb dL_sum_99 (lv_at hl 0 rfl) ?_
        refine va_alen hx hb hK hP 0 2 rfl rfl rfl dL_sum_101 ?_
        refine lv_topi (fun v10 e_v => ?_)
        have h := h v10 e_v
        refine lv_istore (lv' := [(5, .int v10), (4, .ref aq94_9), (0, .ref a0), (1, .long x1_83), (3, .int x3_83)]) hx hb dL_sum_102 hl (by decide) rfl (fun ls hl => ?_)
        refine lv_iconst (v := 0) hx hb dL_sum_104 (by decide) ?_
        refine lv_istore (lv' := [(6, .int 0), (5, .int v10), (4, .ref aq94_9), (0, .ref a0), (1, .long x1_83), (3, .int x3_83)]) hx hb dL_sum_105 hl (by decide) rfl (fun ls hl => ?_)
        exact wB_107 62 x1_83 x3_83 v10 (0 : Int32) nq94_9 fq94_9 aq94_9 σ8 _ _ _ _ _ _ h hO hP hD hS (lv_sub hl [3, 4, 5, 2, 1, 0] rfl) (by omega) (by omega)
  have wB_33 : ∀ (n_33 : Nat), ∀ (x1_33 : Int64) (x3_33 : Int32) (σ : AB) (wo : va_W) (H : Heap) (locs : List Loc) (ls : Array Slot) (cells slots : Nat), wp_L_sum_b33 K n_33 x1_33 x3_33 σ → OB cT a0 σ wo → va_P (dC, dI) vwCl (([] : va_W) ++ wo) H → va_D A (([] : va_W) ++ wo) → va_S A s.heap H locs → lv_has ls 8 [(0, .ref a0), (1, .long x1_33), (3, .int x3_33)] → cells + (650 + n_33 * 4) ≤ 829 → slots + (24250 + n_33 * 24) ≤ 25324 → W p l e ({ frames := 10, cells := 829, slots := 25324, locals := 201 } : Room) s m [.ref a0].toArray below meth c H locs cells slots Q (F0 m 33 ls []) := by
    intro n_33
    induction n_33 with
    | zero =>
      intro x1_33 x3_33 σ wo H locs ls cells slots h hO hP hD hS hl hc1 hc2
      exact False.elim h
    | succ n_33 ih_33 =>
      intro x1_33 x3_33 σ wo H locs ls cells slots h hO hP hD hS hl hc1 hc2
      rw [wp_L_sum_b33] at h
      refine lv_iload_n hx hb dL_sum_33 rfl (lv_at hl 2 rfl) ?_
      refine lv_bipush (v := 7) hx hb dL_sum_34 (by decide) ?_
      refine lv_aload_n hx hb dL_sum_36 rfl (lv_at hl 0 rfl) ?_
      refine lv_iconst (v := 0) hx hb dL_sum_37 (by decide) ?_
      obtain ⟨hq, h⟩ := h
      refine coI (va_runV (As := [.int 0]) (rest := [.int 7, .int x3_33]) ⟨hx, hb, hml, hown, hta⟩ (oc_X11_account l hl9 dC dI cT hO hq (P_r hP) ((D_r hD).weaken (fun _ _ _ _ => trivial))) (cV hta lm_L_229 md_X11_account ⟨(Nat.le_of_ble_eq_true rfl), (Nat.le_of_ble_eq_true rfl)⟩) ⟨fbU, recvO hK hO (P_r hP), fun U hU hW => ⟨rfl, hU, va_K.moved hW.alike hK, XS.call hX hS hU hW (freeO hD hS hA), hN.warm hW, ZS.call hZ hS hU hW (freeO hD hS hA), LT.call hT hS hU hW (freeO hD hS hA)⟩⟩ rfl rfl hl.1 rfl (lv_room (Nat.le_of_ble_eq_true rfl)) dL_sum_38 ⟨by show _ ≤ (829 : Nat); omega, by show _ ≤ (25324 : Nat); omega⟩) hS hA hP hD (fun r11 wo H locs hw hP hD hS => ?_)
      obtain ⟨hr9, hO⟩ := hw
      have h := h r11 hr9
      refine lv_imul hx hb dL_sum_41 ?_
      refine lv_icmp_ge (tgt := 81) hx hb dL_sum_42 (by decide) (fun c0 => ?_) (fun c0 => ?_)
      · have h := h.1 c0
        refine lv_iconst (v := 0) hx hb dL_sum_81 (by decide) ?_
        refine lv_istore_n (lv' := [(3, .int 0), (0, .ref a0), (1, .long x1_33)]) hx hb dL_sum_82 rfl hl (by decide) rfl (fun ls hl => ?_)
        exact wB_83 5 x1_33 (0 : Int32) σ _ _ _ _ _ _ h hO hP hD hS (lv_sub hl [1, 2, 0] rfl) (by omega) (by omega)
      · have h := h.2 c0
        refine lv_ldc2 (v := 37) hx hb hown (hta _ kc_L_330) dL_sum_45 ?_
        refine lv_lload_n hx hb dL_sum_48 rfl (lv_at hl 1 rfl) ?_
        refine lv_lmul hx hb dL_sum_49 ?_
        refine lv_aload_n hx hb dL_sum_50 rfl (lv_at hl 0 rfl) ?_
        refine lv_iload_n hx hb dL_sum_51 rfl (lv_at hl 2 rfl) ?_
        refine lv_bipush (v := 7) hx hb dL_sum_52 (by decide) ?_
        obtain ⟨hc, h⟩ := h
        refine lv_idiv hx hb dL_sum_54 hc ?_
        refine lv_iload_n hx hb dL_sum_55 rfl (lv_at hl 2 rfl) ?_
        refine lv_bipush (v := 7) hx hb dL_sum_56 (by decide) ?_
        obtain ⟨hc, h⟩ := h
        refine lv_irem hx hb dL_sum_58 hc ?_
        refine lv_topi (fun v12 e_v => ?_)
        have h := h v12 e_v
        refine coI (vx_runSW (As := [.ref a0, .int (x3_33 / (7 : Int32)), .int v12]) (rest := [.long ((37 : Int64) * x1_33)]) ⟨hx, hb, hml, hown, hta⟩ (oc_L_of l hl9 dC dI cT hO (P_r hP) ((D_r hD).weaken (fun _ _ _ _ => trivial))) (cW hta lm_L_186 mw_L_of ⟨(Nat.le_of_ble_eq_true rfl), (Nat.le_of_ble_eq_true rfl)⟩) ⟨fbU, fun U hU hW => ⟨rfl, hU, va_K.moved hW.alike hK, XS.call hX hS hU hW (freeO hD hS hA), hN.warm hW, ZS.call hZ hS hU hW (freeO hD hS hA), LT.call hT hS hU hW (freeO hD hS hA)⟩⟩ rfl rfl hl.1 rfl (lv_room (Nat.le_of_ble_eq_true rfl)) dL_sum_59 ⟨by show _ ≤ (829 : Nat); omega, by show _ ≤ (25324 : Nat); omega⟩) hS hA hP hD (fun r13 wo H locs hw hP hD hS => ?_)
        obtain ⟨hr9, hO⟩ := hw
        have h := h r13 hr9
        refine lv_i2l hx hb dL_sum_62 rfl ?_
        refine lv_ladd hx hb dL_sum_63 ?_
        refine lv_aload_n hx hb dL_sum_64 rfl (lv_at hl 0 rfl) ?_
        refine lv_iload_n hx hb dL_sum_65 rfl (lv_at hl 2 rfl) ?_
        refine lv_bipush (v := 7) hx hb dL_sum_66 (by decide) ?_
        obtain ⟨hc, h⟩ := h
        refine lv_idiv hx hb dL_sum_68 hc ?_
        obtain ⟨hq, h⟩ := h
        refine coI (va_runV (As := [.int (x3_33 / (7 : Int32))]) (rest := [.long (((37 : Int64) * x1_33) + r13.toInt64)]) ⟨hx, hb, hml, hown, hta⟩ (oc_X11_bits l hl9 dC dI cT hO hq (P_r hP) ((D_r hD).weaken (fun _ _ _ _ => trivial))) (cV hta lm_L_266 md_X11_bits ⟨(Nat.le_of_ble_eq_true rfl), (Nat.le_of_ble_eq_true rfl)⟩) ⟨fbU, recvO hK hO (P_r hP), fun U hU hW => ⟨rfl, hU, va_K.moved hW.alike hK, XS.call hX hS hU hW (freeO hD hS hA), hN.warm hW, ZS.call hZ hS hU hW (freeO hD hS hA), LT.call hT hS hU hW (freeO hD hS hA)⟩⟩ rfl rfl hl.1 rfl (lv_room (Nat.le_of_ble_eq_true rfl)) dL_sum_69 ⟨by show _ ≤ (829 : Nat); omega, by show _ ≤ (25324 : Nat); omega⟩) hS hA hP hD (fun r14 wo H locs hw hP hD hS => ?_)
        obtain ⟨hr9, hO⟩ := hw
        have h := h r14 hr9
        refine lv_i2l hx hb dL_sum_72 rfl ?_
        refine lv_ladd hx hb dL_sum_73 ?_
        refine lv_topl (fun v15 e_v => ?_)
        have h := h v15 e_v
        refine lv_lstore_n (lv' := [(1, .long v15), (0, .ref a0), (3, .int x3_33)]) hx hb dL_sum_74 rfl hl (by decide) rfl (fun ls hl => ?_)
        obtain ⟨v16, e_v⟩ : ∃ y : Int32, y = x3_33 + 1 := ⟨_, rfl⟩
        have h := h v16 e_v
        refine lv_iinc (v := v16) (lv' := [(3, .int v16), (1, .long v15), (0, .ref a0)]) hx hb dL_sum_75 hl (k := 2) rfl (by rw [e_v]; rfl) (by decide) rfl (fun ls hl => ?_)
        refine lv_goto (tgt := 33) hx hb dL_sum_78 (by decide) ?_
        exact ih_33 v15 v16 σ _ _ _ _ _ _ h hO hP hD hS (lv_sub hl [2, 1, 0] rfl) (by omega) (by omega)
  have wB_6 : ∀ (n_6 : Nat), ∀ (x1_6 : Int64) (x3_6 : Int32) (σ : AB) (wo : va_W) (H : Heap) (locs : List Loc) (ls : Array Slot) (cells slots : Nat), wp_L_sum_b6 K n_6 x1_6 x3_6 σ → OB cT a0 σ wo → va_P (dC, dI) vwCl (([] : va_W) ++ wo) H → va_D A (([] : va_W) ++ wo) → va_S A s.heap H locs → lv_has ls 8 [(0, .ref a0), (1, .long x1_6), (3, .int x3_6)] → cells + (822 + n_6 * 1) ≤ 829 → slots + (25282 + n_6 * 6) ≤ 25324 → W p l e ({ frames := 10, cells := 829, slots := 25324, locals := 201 } : Room) s m [.ref a0].toArray below meth c H locs cells slots Q (F0 m 6 ls []) := by
    intro n_6
    induction n_6 with
    | zero =>
      intro x1_6 x3_6 σ wo H locs ls cells slots h hO hP hD hS hl hc1 hc2
      exact False.elim h
    | succ n_6 ih_6 =>
      intro x1_6 x3_6 σ wo H locs ls cells slots h hO hP hD hS hl hc1 hc2
      rw [wp_L_sum_b6] at h
      refine lv_iload_n hx hb dL_sum_6 rfl (lv_at hl 2 rfl) ?_
      refine lv_bipush (v := 6) hx hb dL_sum_7 (by decide) ?_
      refine lv_icmp_ge (tgt := 31) hx hb dL_sum_9 (by decide) (fun c0 => ?_) (fun c0 => ?_)
      · have h := h.1 c0
        refine lv_iconst (v := 0) hx hb dL_sum_31 (by decide) ?_
        refine lv_istore_n (lv' := [(3, .int 0), (0, .ref a0), (1, .long x1_6)]) hx hb dL_sum_32 rfl hl (by decide) rfl (fun ls hl => ?_)
        exact wB_33 43 x1_6 (0 : Int32) σ _ _ _ _ _ _ h hO hP hD hS (lv_sub hl [1, 2, 0] rfl) (by omega) (by omega)
      · have h := h.2 c0
        refine lv_ldc2 (v := 31) hx hb hown (hta _ kc_L_328) dL_sum_12 ?_
        refine lv_lload_n hx hb dL_sum_15 rfl (lv_at hl 1 rfl) ?_
        refine lv_lmul hx hb dL_sum_16 ?_
        refine lv_aload_n hx hb dL_sum_17 rfl (lv_at hl 0 rfl) ?_
        refine lv_iload_n hx hb dL_sum_18 rfl (lv_at hl 2 rfl) ?_
        obtain ⟨hq, h⟩ := h
        refine coI (va_runV (As := [.int x3_6]) (rest := [.long ((31 : Int64) * x1_6)]) ⟨hx, hb, hml, hown, hta⟩ (oc_X11_account l hl9 dC dI cT hO hq (P_r hP) ((D_r hD).weaken (fun _ _ _ _ => trivial))) (cV hta lm_L_229 md_X11_account ⟨(Nat.le_of_ble_eq_true rfl), (Nat.le_of_ble_eq_true rfl)⟩) ⟨fbU, recvO hK hO (P_r hP), fun U hU hW => ⟨rfl, hU, va_K.moved hW.alike hK, XS.call hX hS hU hW (freeO hD hS hA), hN.warm hW, ZS.call hZ hS hU hW (freeO hD hS hA), LT.call hT hS hU hW (freeO hD hS hA)⟩⟩ rfl rfl hl.1 rfl (lv_room (Nat.le_of_ble_eq_true rfl)) dL_sum_19 ⟨by show _ ≤ (829 : Nat); omega, by show _ ≤ (25324 : Nat); omega⟩) hS hA hP hD (fun r17 wo H locs hw hP hD hS => ?_)
        obtain ⟨hr9, hO⟩ := hw
        have h := h r17 hr9
        refine lv_i2l hx hb dL_sum_22 rfl ?_
        refine lv_ladd hx hb dL_sum_23 ?_
        refine lv_topl (fun v18 e_v => ?_)
        have h := h v18 e_v
        refine lv_lstore_n (lv' := [(1, .long v18), (0, .ref a0), (3, .int x3_6)]) hx hb dL_sum_24 rfl hl (by decide) rfl (fun ls hl => ?_)
        obtain ⟨v19, e_v⟩ : ∃ y : Int32, y = x3_6 + 1 := ⟨_, rfl⟩
        have h := h v19 e_v
        refine lv_iinc (v := v19) (lv' := [(3, .int v19), (1, .long v18), (0, .ref a0)]) hx hb dL_sum_25 hl (k := 2) rfl (by rw [e_v]; rfl) (by decide) rfl (fun ls hl => ?_)
        refine lv_goto (tgt := 6) hx hb dL_sum_28 (by decide) ?_
        exact ih_6 v18 v19 σ _ _ _ _ _ _ h hO hP hD hS (lv_sub hl [2, 1, 0] rfl) (by omega) (by omega)
  unfold wp_L_sum at h
  have hc1 : (0 : Nat) + 829 ≤ 829 := Nat.le_of_eq (Nat.zero_add _)
  have hc2 : (0 : Nat) + 25324 ≤ 25324 := Nat.le_of_eq (Nat.zero_add _)
  clear hP0 hD0 hAe
  obtain ⟨wo, e_w⟩ : ∃ z, z = W0 := ⟨W0, rfl⟩
  rw [← e_w] at hO hP hD
  clear e_w
  refine lv_ldc2 (v := 7) hx hb hown (hta _ kc_L_326) dL_sum_0 ?_
  refine lv_topl (fun v20 e_v => ?_)
  have h := h v20 e_v
  refine lv_lstore_n (lv' := [(1, .long v20), (0, .ref a0)]) hx hb dL_sum_3 rfl hl (by decide) rfl (fun ls hl => ?_)
  refine lv_iconst (v := 0) hx hb dL_sum_4 (by decide) ?_
  refine lv_istore_n (lv' := [(3, .int 0), (1, .long v20), (0, .ref a0)]) hx hb dL_sum_5 rfl hl (by decide) rfl (fun ls hl => ?_)
  exact wB_6 7 v20 (0 : Int32) σ _ _ _ _ _ _ h hO hP hD hS (lv_sub hl [2, 1, 0] rfl) (by omega) (by omega)
