/-! THE LAW's methods (gen/laws41.py) -/
def wp_L_write_b2 (K : (Int32 → AB → Prop)) (tp1 : List Nat)  : Nat → Int32 → AB → Prop
  | 0, _, _ => False
  | n + 1, x2_2, σ =>
    ((nI (tp1).length) ≤ x2_2 →
    ∀ (r1 : Int32) (σ2 : AB), ((σ2.2.2.2.2.1 = [] ∧ σ2.2.2.2.1 = σ.2.2.2.1 ∧ σ2.2.2.2.2.2.2 = σ.2.2.2.2.2.2) ∧ ((¬ WOK σ ∧ r1 < 0 ∧ σ2.1 = σ.1 ∧ σ2.2.1 = σ.2.1 ∧ σ2.2.2.1 = σ.2.2.1) ∨ (WOK σ ∧ r1 = nI σ.1.2.2.1 ∧ WRITTEN σ σ2 ∧ PUSHED σ σ2))) →
    GOK σ2 →
    K r1 σ2) ∧
    (¬ (nI (tp1).length) ≤ x2_2 →
    ∃ k3 : Nat, k3 < (tp1).length ∧ x2_2 = nI k3 ∧ (tp1).length ≤ 70 ∧
    ∀ r4 : Int32, r4 = nI ((tp1).getD k3 0) →
    ∀ (r5 : Int32) (σ6 : AB), ((σ.2.2.2.2.1.length < 60 ∧ ¬ r4 < 32 ∧ r4 ≤ 126 ∧ r5 = nI (σ.2.2.2.2.1.length + 1) ∧ σ6 = (σ.1, σ.2.1, σ.2.2.1, σ.2.2.2.1, σ.2.2.2.2.1 ++ [r4.toInt.toNat], σ.2.2.2.2.2)) ∨ (¬ (σ.2.2.2.2.1.length < 60 ∧ ¬ r4 < 32 ∧ r4 ≤ 126) ∧ r5 < 0 ∧ σ6 = σ)) →
    (r5 = (x2_2 + 1) →
    ∀ v7 : Int32, v7 = x2_2 + 1 →
    wp_L_write_b2 K tp1 n v7 σ6) ∧
    (¬ r5 = (x2_2 + 1) →
    K (-9 : Int32) σ6))
def wp_L_write (K : (Int32 → AB → Prop)) (tp1 : List Nat) (σ : AB) : Prop :=
wp_L_write_b2 K tp1 17 (0 : Int32) σ
set_option maxHeartbeats 4000000 in
set_option maxRecDepth 100000 in
theorem lc_L_write (l : Launch) (hl9 : l.stackTraces = false) (dC : Nat → ClassId) (dI : Nat → Nat → Nat) (cT : Nat → ClassId) {Hh : Heap} {a0 : Nat} {σ : AB} {W0 : va_W} {tp1 : List Nat} {ap1 : Nat} {vp1 : Nat} {gp1 : Nat → Int32} {K : (Int32 → AB → Prop)} (h : wp_L_write K tp1 σ) (hp1 : TXT tp1 gp1) (hO : OB cT a0 σ W0) (hP0 : va_P (dC, dI) vwCl ([(ap1, .inr (0, [.ref vp1, .int 0, .int 0, .int 0])), (vp1, .inl (cT 6, (tp1).length, .inl gp1))] ++ W0) Hh) (hD0 : va_D (fun _ => True) ([(ap1, .inr (0, [.ref vp1, .int 0, .int 0, .int 0])), (vp1, .inl (cT 6, (tp1).length, .inl gp1))] ++ W0)) : Met l yL_write (wA yL_write cL_write 3 (some .int)) ({ frames := 8, cells := 24, slots := 291, locals := 159 } : Room) (PU dC dI cT [.ref a0, .ref ap1] Hh (va_A ([(ap1, .inr (0, [.ref vp1, .int 0, .int 0, .int 0])), (vp1, .inl (cT 6, (tp1).length, .inl gp1))] ++ W0) Hh.size)) (QEI dC dI (fun r W9 => ∃ W1, W9 = ([(ap1, .inr (0, [.ref vp1, .int 0, .int 0, .int 0])), (vp1, .inl (cT 6, (tp1).length, .inl gp1))] : va_W) ++ W1 ∧ ∃ σ9, K r σ9 ∧ OB cT a0 σ9 W1) (va_A ([(ap1, .inr (0, [.ref vp1, .int 0, .int 0, .int 0])), (vp1, .inl (cT 6, (tp1).length, .inl gp1))] ++ W0) Hh.size)) 24 291 (va_A ([(ap1, .inr (0, [.ref vp1, .int 0, .int 0, .int 0])), (vp1, .inl (cT 6, (tp1).length, .inl gp1))] ++ W0) Hh.size) := by
  refine Met.ofW (cc := cL_write) (maxL := 3) (ret := (some .int)) (by decide) rfl ?_
  intro p e s m args below meth c s₁ B hml hv
  obtain ⟨rfl, hH, hK, hX, hN, hZ, hT⟩ := hv
  subst hH
  have hx := B.exec
  have hb := B.bytes
  have hr := B.returns
  have hta : ∀ w ∈ ALLW, w.before [.ref a0, .ref ap1].toArray s = true := fun w hw => atoms_spec (ws := wA yL_write cL_write 3 (some .int)) B.pre w (List.mem_cons_of_mem _ hw)
  have hown : s.vm.findClass RL = some m.cls := findClass_of_methodNamed B.named
  have hlocks := B.notSynchronized
  have hD : va_D (va_A ([(ap1, .inr (0, [.ref vp1, .int 0, .int 0, .int 0])), (vp1, .inl (cT 6, (tp1).length, .inl gp1))] ++ W0) s.heap.size) (([(ap1, .inr (0, [.ref vp1, .int 0, .int 0, .int 0])), (vp1, .inl (cT 6, (tp1).length, .inl gp1))] : va_W) ++ W0) := hD0.self (sz := s.heap.size)
  generalize hAe : va_A ([(ap1, .inr (0, [.ref vp1, .int 0, .int 0, .int 0])), (vp1, .inl (cT 6, (tp1).length, .inl gp1))] ++ W0) s.heap.size = A at hD hX hZ hT ⊢
  have hP : va_P (dC, dI) vwCl (([(ap1, .inr (0, [.ref vp1, .int 0, .int 0, .int 0])), (vp1, .inl (cT 6, (tp1).length, .inl gp1))] : va_W) ++ W0) s.heap := hP0
  have hA : ∀ q : Nat, s.heap.size ≤ q → A q := fun q h => by rw [← hAe]; exact Or.inr h
  have hS : va_S A s.heap s.heap [] := va_S.rf
  have hl := lv_entry [.ref a0, .ref ap1] (n := 3) (Nat.le_of_ble_eq_true rfl)
  rw [lg_entry_eq]
  generalize (lg_sl [.ref a0, .ref ap1] ++ List.replicate (3 - (lg_sl [.ref a0, .ref ap1]).length) Slot.unset).toArray = ls at hl ⊢
  have hl : lv_has ls 3 [(0, .ref a0), (1, .ref ap1)] := hl
  obtain ⟨Q, hQ⟩ : ∃ Q, Q = MQ below (QEI dC dI (fun r W9 => ∃ W1, W9 = ([(ap1, .inr (0, [.ref vp1, .int 0, .int 0, .int 0])), (vp1, .inl (cT 6, (tp1).length, .inl gp1))] : va_W) ++ W1 ∧ ∃ σ9, K r σ9 ∧ OB cT a0 σ9 W1) A) [.ref a0, .ref ap1].toArray s 24 291 A := ⟨_, rfl⟩
  rw [← hQ]
  have wB_2 : ∀ (n_2 : Nat), ∀ (x2_2 : Int32) (σ : AB) (wo : va_W) (H : Heap) (locs : List Loc) (ls : Array Slot) (cells slots : Nat), wp_L_write_b2 K tp1 n_2 x2_2 σ → OB cT a0 σ wo → va_P (dC, dI) vwCl (([(ap1, .inr (0, [.ref vp1, .int 0, .int 0, .int 0])), (vp1, .inl (cT 6, (tp1).length, .inl gp1))] : va_W) ++ wo) H → va_D A (([(ap1, .inr (0, [.ref vp1, .int 0, .int 0, .int 0])), (vp1, .inl (cT 6, (tp1).length, .inl gp1))] : va_W) ++ wo) → va_S A s.heap H locs → lv_has ls 3 [(0, .ref a0), (1, .ref ap1), (2, .int x2_2)] → cells + (7 + n_2 * 1) ≤ 24 → slots + (189 + n_2 * 6) ≤ 291 → W p l e ({ frames := 8, cells := 24, slots := 291, locals := 159 } : Room) s m [.ref a0, .ref ap1].toArray below meth c H locs cells slots Q (F0 m 2 ls []) := by
    intro n_2
    induction n_2 with
    | zero =>
      intro x2_2 σ wo H locs ls cells slots h hO hP hD hS hl hc1 hc2
      exact False.elim h
    | succ n_2 ih_2 =>
      intro x2_2 σ wo H locs ls cells slots h hO hP hD hS hl hc1 hc2
      rw [wp_L_write_b2] at h
      refine lv_iload_n hx hb dL_write_2 rfl (lv_at hl 2 rfl) ?_
      refine lv_aload_n hx hb dL_write_3 rfl (lv_at hl 1 rfl) ?_
      refine crI (va_runV (As := []) (rest := [.int x2_2]) ⟨hx, hb, hml, hown, hta⟩ (cS_lengthM l dC dI cT rfl ((P_l hP).sub (ws' := [(ap1, .inr (0, [.ref vp1, .int 0, .int 0, .int 0])), (vp1, .inl (cT 6, (tp1).length, .inl gp1))]) [0, 1] rfl)) (cV hta lm_L_127 md_J0_length_8abf5 ⟨(Nat.le_of_ble_eq_true rfl), (Nat.le_of_ble_eq_true rfl)⟩) ⟨fbJM, va_recv hK hP (ci := 0) (q0 := 0) rfl rfl, fun U hU hW => ⟨rfl, hU, va_K.moved hW.alike hK, ZS.call hZ hS hU hW (frA hS hA), SP.warm hW hT.1⟩⟩ rfl rfl hl.1 rfl (lv_room (Nat.le_of_ble_eq_true rfl)) dL_write_4 ⟨by show _ ≤ (24 : Nat); omega, by show _ ≤ (291 : Nat); omega⟩) hS hA (fun locs hS => ?_)
      refine lv_icmp_ge (tgt := 34) hx hb dL_write_7 (by decide) (fun c0 => ?_) (fun c0 => ?_)
      · have h := h.1 c0
        refine lv_aload_n hx hb dL_write_34 rfl (lv_at hl 0 rfl) ?_
        refine coI (vx_runSW (As := [.ref a0]) (rest := []) ⟨hx, hb, hml, hown, hta⟩ (oc_L_writes l hl9 dC dI cT hO (P_r hP) ((D_r hD).weaken (fun _ _ _ _ => trivial))) (cW hta lm_L_140 mw_L_writes ⟨(Nat.le_of_ble_eq_true rfl), (Nat.le_of_ble_eq_true rfl)⟩) ⟨fbU, fun U hU hW => ⟨rfl, hU, va_K.moved hW.alike hK, XS.call hX hS hU hW (freeO hD hS hA), hN.warm hW, ZS.call hZ hS hU hW (freeO hD hS hA), LT.call hT hS hU hW (freeO hD hS hA)⟩⟩ rfl rfl hl.1 rfl (lv_room (Nat.le_of_ble_eq_true rfl)) dL_write_35 ⟨by show _ ≤ (24 : Nat); omega, by show _ ≤ (291 : Nat); omega⟩) hS hA hP hD (fun r1 wo H locs hw hP hD hS => ?_)
        obtain ⟨σ2, hr9, hO⟩ := hw
        have h := h r1 σ2 hr9 (OB_gok hO)
        refine W.widen (k := 24) (n := 291) (by omega) (by omega) ?_
        rw [hQ]
        exact W.iret (v := r1) hx hb hr (fun t ht hW => ⟨⟨r1, ([(ap1, .inr (0, [.ref vp1, .int 0, .int 0, .int 0])), (vp1, .inl (cT 6, (tp1).length, .inl gp1))] ++ wo), rfl, ⟨wo, rfl, _, h, hO⟩, by rw [ht]; exact P_perm (X' := [(ap1, .inr (0, [.ref vp1, .int 0, .int 0, .int 0])), (vp1, .inl (cT 6, (tp1).length, .inl gp1))]) hP [0, 1] rfl, D_perm (X' := [(ap1, .inr (0, [.ref vp1, .int 0, .int 0, .int 0])), (vp1, .inl (cT 6, (tp1).length, .inl gp1))]) hD [0, 1] (by decide) rfl⟩, hS.F ht⟩) hS.2.2 dL_write_38
      · have h := h.2 c0
        refine lv_aload_n hx hb dL_write_10 rfl (lv_at hl 0 rfl) ?_
        refine lv_aload_n hx hb dL_write_11 rfl (lv_at hl 1 rfl) ?_
        refine lv_iload_n hx hb dL_write_12 rfl (lv_at hl 2 rfl) ?_
        obtain ⟨k3, hc1, ec, hc3, h⟩ := h
        rw [ec]
        refine crI (va_runV (As := [.int (nI k3)]) (rest := [.ref a0]) ⟨hx, hb, hml, hown, hta⟩ (cS_charAt l dC dI cT (i := k3) hc1 hc3 rfl ((P_l hP).sub (ws' := [(ap1, .inr (0, [.ref vp1, .int 0, .int 0, .int 0])), (vp1, .inl (cT 6, (tp1).length, .inl gp1))]) [0, 1] rfl)) (cV hta lm_L_132 md_J0_charAt_5068e ⟨(Nat.le_of_ble_eq_true rfl), (Nat.le_of_ble_eq_true rfl)⟩) ⟨fbJM, va_recv hK hP (ci := 0) (q0 := 0) rfl rfl, fun U hU hW => ⟨rfl, hU, va_K.moved hW.alike hK, ZS.call hZ hS hU hW (frA hS hA), SP.warm hW hT.1⟩⟩ rfl rfl hl.1 rfl (lv_room (Nat.le_of_ble_eq_true rfl)) dL_write_13 ⟨by show _ ≤ (24 : Nat); omega, by show _ ≤ (291 : Nat); omega⟩) hS hA (fun locs hS => ?_)
        refine lv_topi (fun r4 e_v => ?_)
        have e9 : r4 = nI ((tp1).getD k3 0) := e_v.trans (txt_at hp1 hc1 (by omega))
        have h := h r4 e9
        refine coI (vx_runSW (As := [.ref a0, .int r4]) (rest := []) ⟨hx, hb, hml, hown, hta⟩ (oc_L_append l hl9 dC dI cT hO (P_r hP) ((D_r hD).weaken (fun _ _ _ _ => trivial))) (cW hta lm_L_135 mw_L_append ⟨(Nat.le_of_ble_eq_true rfl), (Nat.le_of_ble_eq_true rfl)⟩) ⟨fbU, fun U hU hW => ⟨rfl, hU, va_K.moved hW.alike hK, XS.call hX hS hU hW (freeO hD hS hA), hN.warm hW, ZS.call hZ hS hU hW (freeO hD hS hA), LT.call hT hS hU hW (freeO hD hS hA)⟩⟩ rfl rfl hl.1 rfl (lv_room (Nat.le_of_ble_eq_true rfl)) dL_write_16 ⟨by show _ ≤ (24 : Nat); omega, by show _ ≤ (291 : Nat); omega⟩) hS hA hP hD (fun r5 wo H locs hw hP hD hS => ?_)
        obtain ⟨σ6, hr9, hO⟩ := hw
        have h := h r5 σ6 hr9
        refine lv_iload_n hx hb dL_write_19 rfl (lv_at hl 2 rfl) ?_
        refine lv_iconst (v := 1) hx hb dL_write_20 (by decide) ?_
        refine lv_iadd hx hb dL_write_21 ?_
        refine lv_icmp_eq (tgt := 28) hx hb dL_write_22 (by decide) (fun c0 => ?_) (fun c0 => ?_)
        · have h := h.1 c0
          obtain ⟨v7, e_v⟩ : ∃ y : Int32, y = x2_2 + 1 := ⟨_, rfl⟩
          have h := h v7 e_v
          refine lv_iinc (v := v7) (lv' := [(2, .int v7), (0, .ref a0), (1, .ref ap1)]) hx hb dL_write_28 hl (k := 2) rfl (by rw [e_v]; rfl) (by decide) rfl (fun ls hl => ?_)
          refine lv_goto (tgt := 2) hx hb dL_write_31 (by decide) ?_
          exact ih_2 v7 σ6 _ _ _ _ _ _ h hO hP hD hS (lv_sub hl [1, 2, 0] rfl) (by omega) (by omega)
        · have h := h.2 c0
          refine lv_bipush (v := -9) hx hb dL_write_25 (by decide) ?_
          refine W.widen (k := 24) (n := 291) (by omega) (by omega) ?_
          rw [hQ]
          exact W.iret (v := (-9)) hx hb hr (fun t ht hW => ⟨⟨(-9), ([(ap1, .inr (0, [.ref vp1, .int 0, .int 0, .int 0])), (vp1, .inl (cT 6, (tp1).length, .inl gp1))] ++ wo), rfl, ⟨wo, rfl, _, h, hO⟩, by rw [ht]; exact P_perm (X' := [(ap1, .inr (0, [.ref vp1, .int 0, .int 0, .int 0])), (vp1, .inl (cT 6, (tp1).length, .inl gp1))]) hP [0, 1] rfl, D_perm (X' := [(ap1, .inr (0, [.ref vp1, .int 0, .int 0, .int 0])), (vp1, .inl (cT 6, (tp1).length, .inl gp1))]) hD [0, 1] (by decide) rfl⟩, hS.F ht⟩) hS.2.2 dL_write_27
  unfold wp_L_write at h
  have hc1 : (0 : Nat) + 24 ≤ 24 := Nat.le_of_eq (Nat.zero_add _)
  have hc2 : (0 : Nat) + 291 ≤ 291 := Nat.le_of_eq (Nat.zero_add _)
  clear hP0 hD0 hAe
  obtain ⟨wo, e_w⟩ : ∃ z, z = W0 := ⟨W0, rfl⟩
  rw [← e_w] at hO hP hD
  clear e_w
  refine lv_iconst (v := 0) hx hb dL_write_0 (by decide) ?_
  refine lv_istore_n (lv' := [(2, .int 0), (0, .ref a0), (1, .ref ap1)]) hx hb dL_write_1 rfl hl (by decide) rfl (fun ls hl => ?_)
  exact wB_2 17 (0 : Int32) σ _ _ _ _ _ _ h hO hP hD hS (lv_sub hl [1, 2, 0] rfl) (by omega) (by omega)
