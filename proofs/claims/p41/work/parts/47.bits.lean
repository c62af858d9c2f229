set_option maxHeartbeats 4000000 in
set_option maxRecDepth 100000 in
theorem c_Jxe99ae_isNaN_b9ae7 (l : Launch) (dC : Nat → ClassId) (dI : Nat → Nat → Nat) (cT : Nat → ClassId) {Hh : Heap} {p1 : UInt64} {o : Int32} (h : g_Jxe99ae_isNaN_b9ae7 p1 = some o) : Met l yJxe99ae_isNaN_b9ae7 (wA yJxe99ae_isNaN_b9ae7 cJxe99ae_isNaN_b9ae7 2 (some .boolean)) ({ frames := 0, cells := 0, slots := 0, locals := 0 } : Room) (PK dC dI cT [.double p1] Hh) (va_Qi (fun x (_ : Unit) => x = o) (fun _ t => t.heap = Hh) (va_A [] Hh.size)) 0 0 (va_A [] Hh.size) := by
  refine MofWF (cc := cJxe99ae_isNaN_b9ae7) (maxL := 2) (ret := (some .boolean)) (by decide +kernel) rfl ?_
  intro p e s m args below meth c s₁ B hml hv
  obtain ⟨rfl, hH, hK⟩ := hv
  subst hH
  have hx := B.exec
  have hb := B.bytes
  have hr := B.returns
  have hta : ∀ w ∈ ALLW, w.before [.double p1].toArray s = true := fun w hw => atoms_spec (ws := wA yJxe99ae_isNaN_b9ae7 cJxe99ae_isNaN_b9ae7 2 (some .boolean)) B.pre w (List.mem_cons_of_mem _ hw)
  have hown : s.vm.findClass RJxe99ae = some m.cls := findClass_of_methodNamed B.named
  have hlocks := B.notSynchronized
  generalize hAe : va_A [] s.heap.size = A
  have hA : ∀ q : Nat, s.heap.size ≤ q → A q := fun q h => by rw [← hAe]; exact Or.inr h
  have hS : va_S A s.heap s.heap [] := va_S.rf
  have hl := lv_entry [.double p1] (n := 2) (Nat.le_of_ble_eq_true rfl)
  rw [lg_entry_eq]
  generalize (lg_sl [.double p1] ++ List.replicate (2 - (lg_sl [.double p1]).length) Slot.unset).toArray = ls at hl ⊢
  have hl : lv_has ls 2 [(0, .double p1)] := hl
  unfold g_Jxe99ae_isNaN_b9ae7 at h
  refine lv_dload_n hx hb dJxe99ae_isNaN_b9ae7_0 rfl (lv_at hl 0 rfl) ?_
  refine lv_dload_n hx hb dJxe99ae_isNaN_b9ae7_1 rfl (lv_at hl 0 rfl) ?_
  refine lv_dcmp hx hb dJxe99ae_isNaN_b9ae7_2 ?_
  refine lv_if_eq (tgt := 10) hx hb dJxe99ae_isNaN_b9ae7_3 (by decide) (fun c0 => ?_) (fun c0 => ?_)
  · have h := (if_pos c0).symm.trans h
    refine lv_iconst (v := 0) hx hb dJxe99ae_isNaN_b9ae7_10 (by decide) ?_
    have ho := Option.some.inj h
    exact W.zret (ty := .boolean) (v := 0) hx hb hr rfl (fun t ht hW => ⟨⟨0, (), rfl, by rw [← ho], ht⟩, hS.F ht⟩) hS.2.2 dJxe99ae_isNaN_b9ae7_11
  · have h := (if_neg c0).symm.trans h
    refine lv_iconst (v := 1) hx hb dJxe99ae_isNaN_b9ae7_6 (by decide) ?_
    refine lv_goto (tgt := 11) hx hb dJxe99ae_isNaN_b9ae7_7 (by decide) ?_
    have ho := Option.some.inj h
    exact W.zret (ty := .boolean) (v := 1) hx hb hr rfl (fun t ht hW => ⟨⟨1, (), rfl, by rw [← ho], ht⟩, hS.F ht⟩) hS.2.2 dJxe99ae_isNaN_b9ae7_11
set_option maxHeartbeats 4000000 in
set_option maxRecDepth 100000 in
theorem c_Jxe99ae_doubleToLongBits_ccdee (l : Launch) (dC : Nat → ClassId) (dI : Nat → Nat → Nat) (cT : Nat → ClassId) {Hh : Heap} {p1 : UInt64} {o : Int64} (h : g_Jxe99ae_doubleToLongBits_ccdee p1 = some o) : Met l yJxe99ae_doubleToLongBits_ccdee (wA yJxe99ae_doubleToLongBits_ccdee cJxe99ae_doubleToLongBits_ccdee 2 (some .long)) ({ frames := 1, cells := 0, slots := 0, locals := 30 } : Room) (PK dC dI cT [.double p1] Hh) (va_Ql (fun x (_ : Unit) => x = o) (fun _ t => t.heap = Hh) (va_A [] Hh.size)) 0 0 (va_A [] Hh.size) := by
  refine MofWF (cc := cJxe99ae_doubleToLongBits_ccdee) (maxL := 2) (ret := (some .long)) (by decide +kernel) rfl ?_
  intro p e s m args below meth c s₁ B hml hv
  obtain ⟨rfl, hH, hK⟩ := hv
  subst hH
  have hx := B.exec
  have hb := B.bytes
  have hr := B.returns
  have hta : ∀ w ∈ ALLW, w.before [.double p1].toArray s = true := fun w hw => atoms_spec (ws := wA yJxe99ae_doubleToLongBits_ccdee cJxe99ae_doubleToLongBits_ccdee 2 (some .long)) B.pre w (List.mem_cons_of_mem _ hw)
  have hown : s.vm.findClass RJxe99ae = some m.cls := findClass_of_methodNamed B.named
  have hlocks := B.notSynchronized
  generalize hAe : va_A [] s.heap.size = A
  have hA : ∀ q : Nat, s.heap.size ≤ q → A q := fun q h => by rw [← hAe]; exact Or.inr h
  have hS : va_S A s.heap s.heap [] := va_S.rf
  have hl := lv_entry [.double p1] (n := 2) (Nat.le_of_ble_eq_true rfl)
  rw [lg_entry_eq]
  generalize (lg_sl [.double p1] ++ List.replicate (2 - (lg_sl [.double p1]).length) Slot.unset).toArray = ls at hl ⊢
  have hl : lv_has ls 2 [(0, .double p1)] := hl
  unfold g_Jxe99ae_doubleToLongBits_ccdee at h
  refine lv_dload_n hx hb dJxe99ae_doubleToLongBits_ccdee_0 rfl (lv_at hl 0 rfl) ?_
  obtain ⟨r1, hq, h⟩ := gb_some h
  refine crI (va_runS (As := [.double p1]) (rest := []) ⟨hx, hb, hml, hown, hta⟩ (c_Jxe99ae_isNaN_b9ae7 l dC dI cT hq) (cS hta lm_Jxe99ae_122 md_Jxe99ae_isNaN_b9ae7 ⟨(Nat.le_of_ble_eq_true rfl), (Nat.le_of_ble_eq_true rfl)⟩) ⟨fbK, fun U hU hW => ⟨rfl, hU, va_K.moved hW.alike hK⟩⟩ rfl rfl hl.1 rfl (lv_room (Nat.le_of_ble_eq_true rfl)) dJxe99ae_doubleToLongBits_ccdee_1 ⟨(Nat.le_of_ble_eq_true rfl), (Nat.le_of_ble_eq_true rfl)⟩) hS hA (fun locs hS => ?_)
  refine lv_if_ne (tgt := 12) hx hb dJxe99ae_doubleToLongBits_ccdee_4 (by decide) (fun c0 => ?_) (fun c0 => ?_)
  · have h := (if_neg c0).symm.trans h
    refine lv_ldc2 (v := 9221120237041090560) hx hb hown (hta _ kc_Jxe99ae_137) dJxe99ae_doubleToLongBits_ccdee_12 ?_
    refine lv_topl (fun v2 e_v2 => ?_)
    have h := gl_use e_v2 h
    have ho := Option.some.inj h
    exact W.lret (v := v2) hx hb hr (fun t ht hW => ⟨⟨v2, (), rfl, by rw [← ho], ht⟩, hS.F ht⟩) hS.2.2 dJxe99ae_doubleToLongBits_ccdee_15
  · have h := (if_pos c0).symm.trans h
    refine lv_dload_n hx hb dJxe99ae_doubleToLongBits_ccdee_7 rfl (lv_at hl 0 rfl) ?_
    refine vn_d2l hx hb (hml.trans hl.1.symm) hown (hta _ lm_Jxe99ae_134) (hta _ dr_n) (hta _ dr_s) (hta _ dr_i) (Nat.le_of_ble_eq_true rfl) (Nat.le_of_ble_eq_true rfl) dJxe99ae_doubleToLongBits_ccdee_8 ?_
    have ho := Option.some.inj h
    exact W.lret (v := p1.toInt64) hx hb hr (fun t ht hW => ⟨⟨p1.toInt64, (), rfl, by rw [← ho], ht⟩, hS.F ht⟩) hS.2.2 dJxe99ae_doubleToLongBits_ccdee_11
