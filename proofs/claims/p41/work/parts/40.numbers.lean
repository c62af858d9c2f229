set_option maxHeartbeats 4000000 in
set_option maxRecDepth 100000 in
theorem c_X5_isNegative (l : Launch) (dC : Nat → ClassId) (dI : Nat → Nat → Nat) (cT : Nat → ClassId) {Hh : Heap} {p1 : UInt64} {o : Int32} (h : g_X5_isNegative p1 = some o) : Met l yX5_isNegative (wA yX5_isNegative cX5_isNegative 2 (some .boolean)) ({ frames := 0, cells := 0, slots := 0, locals := 0 } : Room) (PK dC dI cT [.double p1] Hh) (va_Qi (fun x (_ : Unit) => x = o) (fun _ t => t.heap = Hh) (va_A [] Hh.size)) 0 0 (va_A [] Hh.size) := by
  refine Met.ofW (cc := cX5_isNegative) (maxL := 2) (ret := (some .boolean)) (by decide) rfl ?_
  intro p e s m args below meth c s₁ B hml hv
  obtain ⟨rfl, hH, hK⟩ := hv
  subst hH
  have hx := B.exec
  have hb := B.bytes
  have hr := B.returns
  have hta : ∀ w ∈ ALLW, w.before [.double p1].toArray s = true := fun w hw => atoms_spec (ws := wA yX5_isNegative cX5_isNegative 2 (some .boolean)) B.pre w (List.mem_cons_of_mem _ hw)
  have hown : s.vm.findClass RX5 = some m.cls := findClass_of_methodNamed B.named
  have hlocks := B.notSynchronized
  generalize hAe : va_A [] s.heap.size = A
  have hA : ∀ q : Nat, s.heap.size ≤ q → A q := fun q h => by rw [← hAe]; exact Or.inr h
  have hS : va_S A s.heap s.heap [] := va_S.rf
  have hl := lv_entry [.double p1] (n := 2) (Nat.le_of_ble_eq_true rfl)
  rw [lg_entry_eq]
  generalize (lg_sl [.double p1] ++ List.replicate (2 - (lg_sl [.double p1]).length) Slot.unset).toArray = ls at hl ⊢
  have hl : lv_has ls 2 [(0, .double p1)] := hl
  unfold g_X5_isNegative at h
  refine lv_dload_n hx hb dX5_isNegative_0 rfl (lv_at hl 0 rfl) ?_
  refine lv_dconst0 hx hb dX5_isNegative_1 ?_
  refine lv_dcmp hx hb dX5_isNegative_2 ?_
  refine lv_if_lt (tgt := 20) hx hb dX5_isNegative_3 (by decide) (fun c0 => ?_) (fun c0 => ?_)
  · have h := (if_pos c0).symm.trans h
    refine lv_iconst (v := 1) hx hb dX5_isNegative_20 (by decide) ?_
    refine lv_goto (tgt := 25) hx hb dX5_isNegative_21 (by decide) ?_
    have ho := Option.some.inj h
    exact W.zret (ty := .boolean) (v := 1) hx hb hr rfl (fun t ht hW => ⟨⟨1, (), rfl, by rw [← ho], ht⟩, hS.F ht⟩) hS.2.2 dX5_isNegative_25
  · have h := (if_neg c0).symm.trans h
    refine lv_dload_n hx hb dX5_isNegative_6 rfl (lv_at hl 0 rfl) ?_
    refine lv_dconst0 hx hb dX5_isNegative_7 ?_
    refine lv_dcmp hx hb dX5_isNegative_8 ?_
    refine lv_if_ne (tgt := 24) hx hb dX5_isNegative_9 (by decide) (fun c0 => ?_) (fun c0 => ?_)
    · have h := (if_neg c0).symm.trans h
      refine lv_iconst (v := 0) hx hb dX5_isNegative_24 (by decide) ?_
      have ho := Option.some.inj h
      exact W.zret (ty := .boolean) (v := 0) hx hb hr rfl (fun t ht hW => ⟨⟨0, (), rfl, by rw [← ho], ht⟩, hS.F ht⟩) hS.2.2 dX5_isNegative_25
    · have h := (if_pos c0).symm.trans h
      refine lv_dconst1 hx hb dX5_isNegative_12 ?_
      refine lv_dload_n hx hb dX5_isNegative_13 rfl (lv_at hl 0 rfl) ?_
      obtain ⟨hc, h⟩ := gc_some h
      refine lv_ddiv hx hb dX5_isNegative_14 (n64_n hc) ?_
      refine lv_dconst0 hx hb dX5_isNegative_15 ?_
      refine lv_dcmp hx hb dX5_isNegative_16 ?_
      refine lv_if_ge (tgt := 24) hx hb dX5_isNegative_17 (by decide) (fun c0 => ?_) (fun c0 => ?_)
      · have h := (if_pos c0).symm.trans h
        refine lv_iconst (v := 0) hx hb dX5_isNegative_24 (by decide) ?_
        have ho := Option.some.inj h
        exact W.zret (ty := .boolean) (v := 0) hx hb hr rfl (fun t ht hW => ⟨⟨0, (), rfl, by rw [← ho], ht⟩, hS.F ht⟩) hS.2.2 dX5_isNegative_25
      · have h := (if_neg c0).symm.trans h
        refine lv_iconst (v := 1) hx hb dX5_isNegative_20 (by decide) ?_
        refine lv_goto (tgt := 25) hx hb dX5_isNegative_21 (by decide) ?_
        have ho := Option.some.inj h
        exact W.zret (ty := .boolean) (v := 1) hx hb hr rfl (fun t ht hW => ⟨⟨1, (), rfl, by rw [← ho], ht⟩, hS.F ht⟩) hS.2.2 dX5_isNegative_25
set_option maxHeartbeats 4000000 in
set_option maxRecDepth 100000 in
theorem c_X5_differ (l : Launch) (dC : Nat → ClassId) (dI : Nat → Nat → Nat) (cT : Nat → ClassId) {Hh : Heap} {p1 : UInt32} {p2 : UInt32} {o : Int32} (h : g_X5_differ p1 p2 = some o) : Met l yX5_differ (wA yX5_differ cX5_differ 2 (some .boolean)) ({ frames := 1, cells := 0, slots := 0, locals := 21 } : Room) (PK dC dI cT [.float p1, .float p2] Hh) (va_Qi (fun x (_ : Unit) => x = o) (fun _ t => t.heap = Hh) (va_A [] Hh.size)) 0 0 (va_A [] Hh.size) := by
  refine Met.ofW (cc := cX5_differ) (maxL := 2) (ret := (some .boolean)) (by decide) rfl ?_
  intro p e s m args below meth c s₁ B hml hv
  obtain ⟨rfl, hH, hK⟩ := hv
  subst hH
  have hx := B.exec
  have hb := B.bytes
  have hr := B.returns
  have hta : ∀ w ∈ ALLW, w.before [.float p1, .float p2].toArray s = true := fun w hw => atoms_spec (ws := wA yX5_differ cX5_differ 2 (some .boolean)) B.pre w (List.mem_cons_of_mem _ hw)
  have hown : s.vm.findClass RX5 = some m.cls := findClass_of_methodNamed B.named
  have hlocks := B.notSynchronized
  generalize hAe : va_A [] s.heap.size = A
  have hA : ∀ q : Nat, s.heap.size ≤ q → A q := fun q h => by rw [← hAe]; exact Or.inr h
  have hS : va_S A s.heap s.heap [] := va_S.rf
  have hl := lv_entry [.float p1, .float p2] (n := 2) (Nat.le_of_ble_eq_true rfl)
  rw [lg_entry_eq]
  generalize (lg_sl [.float p1, .float p2] ++ List.replicate (2 - (lg_sl [.float p1, .float p2]).length) Slot.unset).toArray = ls at hl ⊢
  have hl : lv_has ls 2 [(0, .float p1), (1, .float p2)] := hl
  unfold g_X5_differ at h
  refine lv_fload_n hx hb dX5_differ_0 rfl (lv_at hl 0 rfl) ?_
  refine lv_fload_n hx hb dX5_differ_1 rfl (lv_at hl 1 rfl) ?_
  refine lv_fcmp hx hb dX5_differ_2 ?_
  refine lv_if_ne (tgt := 19) hx hb dX5_differ_3 (by decide) (fun c0 => ?_) (fun c0 => ?_)
  · have h := (if_neg c0).symm.trans h
    refine lv_iconst (v := 1) hx hb dX5_differ_19 (by decide) ?_
    refine lv_goto (tgt := 24) hx hb dX5_differ_20 (by decide) ?_
    have ho := Option.some.inj h
    exact W.zret (ty := .boolean) (v := 1) hx hb hr rfl (fun t ht hW => ⟨⟨1, (), rfl, by rw [← ho], ht⟩, hS.F ht⟩) hS.2.2 dX5_differ_24
  · have h := (if_pos c0).symm.trans h
    refine lv_fload_n hx hb dX5_differ_6 rfl (lv_at hl 0 rfl) ?_
    obtain ⟨hc, h⟩ := gc_some h
    refine lv_f2d hx hb dX5_differ_7 (n64_n hc) ?_
    obtain ⟨r1, hq, h⟩ := gb_some h
    refine crI (va_runS (As := [.double (FP.f2d p1)]) (rest := []) ⟨hx, hb, hml, hown, hta⟩ (c_X5_isNegative l dC dI cT hq) (cS hta lm_X5_33 md_X5_isNegative ⟨(Nat.le_of_ble_eq_true rfl), (Nat.le_of_ble_eq_true rfl)⟩) ⟨fbK, fun U hU hW => ⟨rfl, hU, va_K.moved hW.alike hK⟩⟩ rfl rfl hl.1 rfl (lv_room (Nat.le_of_ble_eq_true rfl)) dX5_differ_8 ⟨(Nat.le_of_ble_eq_true rfl), (Nat.le_of_ble_eq_true rfl)⟩) hS hA (fun locs hS => ?_)
    refine lv_fload_n hx hb dX5_differ_11 rfl (lv_at hl 1 rfl) ?_
    obtain ⟨hc, h⟩ := gc_some h
    refine lv_f2d hx hb dX5_differ_12 (n64_n hc) ?_
    obtain ⟨r2, hq, h⟩ := gb_some h
    refine crI (va_runS (As := [.double (FP.f2d p2)]) (rest := [.int r1]) ⟨hx, hb, hml, hown, hta⟩ (c_X5_isNegative l dC dI cT hq) (cS hta lm_X5_33 md_X5_isNegative ⟨(Nat.le_of_ble_eq_true rfl), (Nat.le_of_ble_eq_true rfl)⟩) ⟨fbK, fun U hU hW => ⟨rfl, hU, va_K.moved hW.alike hK⟩⟩ rfl rfl hl.1 rfl (lv_room (Nat.le_of_ble_eq_true rfl)) dX5_differ_13 ⟨(Nat.le_of_ble_eq_true rfl), (Nat.le_of_ble_eq_true rfl)⟩) hS hA (fun locs hS => ?_)
    refine lv_icmp_eq (tgt := 23) hx hb dX5_differ_16 (by decide) (fun c0 => ?_) (fun c0 => ?_)
    · have h := (if_pos c0).symm.trans h
      refine lv_iconst (v := 0) hx hb dX5_differ_23 (by decide) ?_
      have ho := Option.some.inj h
      exact W.zret (ty := .boolean) (v := 0) hx hb hr rfl (fun t ht hW => ⟨⟨0, (), rfl, by rw [← ho], ht⟩, hS.F ht⟩) hS.2.2 dX5_differ_24
    · have h := (if_neg c0).symm.trans h
      refine lv_iconst (v := 1) hx hb dX5_differ_19 (by decide) ?_
      refine lv_goto (tgt := 24) hx hb dX5_differ_20 (by decide) ?_
      have ho := Option.some.inj h
      exact W.zret (ty := .boolean) (v := 1) hx hb hr rfl (fun t ht hW => ⟨⟨1, (), rfl, by rw [← ho], ht⟩, hS.F ht⟩) hS.2.2 dX5_differ_24
set_option maxHeartbeats 4000000 in
set_option maxRecDepth 100000 in
theorem c_X5_held (l : Launch) (dC : Nat → ClassId) (dI : Nat → Nat → Nat) (cT : Nat → ClassId) {Hh : Heap} {p1 : UInt32} {o : UInt32} (h : g_X5_held p1 = some o) : Met l yX5_held (wA yX5_held cX5_held 1 (some .float)) ({ frames := 0, cells := 0, slots := 0, locals := 0 } : Room) (PK dC dI cT [.float p1] Hh) (va_Qf (fun x (_ : Unit) => x = o) (fun _ t => t.heap = Hh) (va_A [] Hh.size)) 0 0 (va_A [] Hh.size) := by
  refine Met.ofW (cc := cX5_held) (maxL := 1) (ret := (some .float)) (by decide) rfl ?_
  intro p e s m args below meth c s₁ B hml hv
  obtain ⟨rfl, hH, hK⟩ := hv
  subst hH
  have hx := B.exec
  have hb := B.bytes
  have hr := B.returns
  have hta : ∀ w ∈ ALLW, w.before [.float p1].toArray s = true := fun w hw => atoms_spec (ws := wA yX5_held cX5_held 1 (some .float)) B.pre w (List.mem_cons_of_mem _ hw)
  have hown : s.vm.findClass RX5 = some m.cls := findClass_of_methodNamed B.named
  have hlocks := B.notSynchronized
  generalize hAe : va_A [] s.heap.size = A
  have hA : ∀ q : Nat, s.heap.size ≤ q → A q := fun q h => by rw [← hAe]; exact Or.inr h
  have hS : va_S A s.heap s.heap [] := va_S.rf
  have hl := lv_entry [.float p1] (n := 1) (Nat.le_of_ble_eq_true rfl)
  rw [lg_entry_eq]
  generalize (lg_sl [.float p1] ++ List.replicate (1 - (lg_sl [.float p1]).length) Slot.unset).toArray = ls at hl ⊢
  have hl : lv_has ls 1 [(0, .float p1)] := hl
  unfold g_X5_held at h
  refine lv_fload_n hx hb dX5_held_0 rfl (lv_at hl 0 rfl) ?_
  refine lv_ldcf (v := 3323739136) hx hb hown (hta _ kc_X5_52) dX5_held_1 ?_
  refine lv_fcmp hx hb dX5_held_3 ?_
  refine lv_if_ge (tgt := 10) hx hb dX5_held_4 (by decide) (fun c0 => ?_) (fun c0 => ?_)
  · have h := (if_pos c0).symm.trans h
    refine lv_fload_n hx hb dX5_held_10 rfl (lv_at hl 0 rfl) ?_
    refine lv_ldcf (v := 1176255488) hx hb hown (hta _ kc_X5_53) dX5_held_11 ?_
    refine lv_fcmp hx hb dX5_held_13 ?_
    refine lv_if_le (tgt := 22) hx hb dX5_held_14 (by decide) (fun c0 => ?_) (fun c0 => ?_)
    · have h := (if_pos c0).symm.trans h
      refine lv_fload_n hx hb dX5_held_22 rfl (lv_at hl 0 rfl) ?_
      have ho := Option.some.inj h
      exact W.fret (v := p1) hx hb hr (fun t ht hW => ⟨⟨p1, (), rfl, by rw [← ho], ht⟩, hS.F ht⟩) hS.2.2 dX5_held_23
    · have h := (if_neg c0).symm.trans h
      refine lv_ldcf (v := 1176255488) hx hb hown (hta _ kc_X5_53) dX5_held_17 ?_
      refine lv_goto (tgt := 23) hx hb dX5_held_19 (by decide) ?_
      refine lv_topf (fun v1 e_v1 => ?_)
      have h := gl_use e_v1 h
      have ho := Option.some.inj h
      exact W.fret (v := v1) hx hb hr (fun t ht hW => ⟨⟨v1, (), rfl, by rw [← ho], ht⟩, hS.F ht⟩) hS.2.2 dX5_held_23
  · have h := (if_neg c0).symm.trans h
    refine lv_ldcf (v := 3323739136) hx hb hown (hta _ kc_X5_52) dX5_held_7 ?_
    refine lv_topf (fun v2 e_v2 => ?_)
    have h := gl_use e_v2 h
    have ho := Option.some.inj h
    exact W.fret (v := v2) hx hb hr (fun t ht hW => ⟨⟨v2, (), rfl, by rw [← ho], ht⟩, hS.F ht⟩) hS.2.2 dX5_held_9
set_option maxHeartbeats 4000000 in
set_option maxRecDepth 100000 in
theorem c_X5_toBroth (l : Launch) (dC : Nat → ClassId) (dI : Nat → Nat → Nat) (cT : Nat → ClassId) {Hh : Heap} {p1 : Int32} {o : UInt32} (h : g_X5_toBroth p1 = some o) : Met l yX5_toBroth (wA yX5_toBroth cX5_toBroth 1 (some .float)) ({ frames := 1, cells := 0, slots := 0, locals := 20 } : Room) (PK dC dI cT [.int p1] Hh) (va_Qf (fun x (_ : Unit) => x = o) (fun _ t => t.heap = Hh) (va_A [] Hh.size)) 0 0 (va_A [] Hh.size) := by
  refine Met.ofW (cc := cX5_toBroth) (maxL := 1) (ret := (some .float)) (by decide) rfl ?_
  intro p e s m args below meth c s₁ B hml hv
  obtain ⟨rfl, hH, hK⟩ := hv
  subst hH
  have hx := B.exec
  have hb := B.bytes
  have hr := B.returns
  have hta : ∀ w ∈ ALLW, w.before [.int p1].toArray s = true := fun w hw => atoms_spec (ws := wA yX5_toBroth cX5_toBroth 1 (some .float)) B.pre w (List.mem_cons_of_mem _ hw)
  have hown : s.vm.findClass RX5 = some m.cls := findClass_of_methodNamed B.named
  have hlocks := B.notSynchronized
  generalize hAe : va_A [] s.heap.size = A
  have hA : ∀ q : Nat, s.heap.size ≤ q → A q := fun q h => by rw [← hAe]; exact Or.inr h
  have hS : va_S A s.heap s.heap [] := va_S.rf
  have hl := lv_entry [.int p1] (n := 1) (Nat.le_of_ble_eq_true rfl)
  rw [lg_entry_eq]
  generalize (lg_sl [.int p1] ++ List.replicate (1 - (lg_sl [.int p1]).length) Slot.unset).toArray = ls at hl ⊢
  have hl : lv_has ls 1 [(0, .int p1)] := hl
  unfold g_X5_toBroth at h
  refine lv_iload_n hx hb dX5_toBroth_0 rfl (lv_at hl 0 rfl) ?_
  refine lv_i2f hx hb dX5_toBroth_1 ?_
  obtain ⟨r1, hq, h⟩ := gb_some h
  refine crF (va_runS (As := [.float (FP.i2f p1)]) (rest := []) ⟨hx, hb, hml, hown, hta⟩ (c_X5_held l dC dI cT hq) (cS hta lm_X5_9 md_X5_held ⟨(Nat.le_of_ble_eq_true rfl), (Nat.le_of_ble_eq_true rfl)⟩) ⟨fbK, fun U hU hW => ⟨rfl, hU, va_K.moved hW.alike hK⟩⟩ rfl rfl hl.1 rfl (lv_room (Nat.le_of_ble_eq_true rfl)) dX5_toBroth_2 ⟨(Nat.le_of_ble_eq_true rfl), (Nat.le_of_ble_eq_true rfl)⟩) hS hA (fun locs hS => ?_)
  have ho := Option.some.inj h
  exact W.fret (v := r1) hx hb hr (fun t ht hW => ⟨⟨r1, (), rfl, by rw [← ho], ht⟩, hS.F ht⟩) hS.2.2 dX5_toBroth_5
set_option maxHeartbeats 4000000 in
set_option maxRecDepth 100000 in
theorem c_X5_toDrams (l : Launch) (dC : Nat → ClassId) (dI : Nat → Nat → Nat) (cT : Nat → ClassId) {Hh : Heap} {p1 : UInt32} {o : Int32} (h : g_X5_toDrams p1 = some o) : Met l yX5_toDrams (wA yX5_toDrams cX5_toDrams 1 (some .int)) ({ frames := 1, cells := 0, slots := 0, locals := 21 } : Room) (PK dC dI cT [.float p1] Hh) (va_Qi (fun x (_ : Unit) => x = o) (fun _ t => t.heap = Hh) (va_A [] Hh.size)) 0 0 (va_A [] Hh.size) := by
  refine Met.ofW (cc := cX5_toDrams) (maxL := 1) (ret := (some .int)) (by decide) rfl ?_
  intro p e s m args below meth c s₁ B hml hv
  obtain ⟨rfl, hH, hK⟩ := hv
  subst hH
  have hx := B.exec
  have hb := B.bytes
  have hr := B.returns
  have hta : ∀ w ∈ ALLW, w.before [.float p1].toArray s = true := fun w hw => atoms_spec (ws := wA yX5_toDrams cX5_toDrams 1 (some .int)) B.pre w (List.mem_cons_of_mem _ hw)
  have hown : s.vm.findClass RX5 = some m.cls := findClass_of_methodNamed B.named
  have hlocks := B.notSynchronized
  generalize hAe : va_A [] s.heap.size = A
  have hA : ∀ q : Nat, s.heap.size ≤ q → A q := fun q h => by rw [← hAe]; exact Or.inr h
  have hS : va_S A s.heap s.heap [] := va_S.rf
  have hl := lv_entry [.float p1] (n := 1) (Nat.le_of_ble_eq_true rfl)
  rw [lg_entry_eq]
  generalize (lg_sl [.float p1] ++ List.replicate (1 - (lg_sl [.float p1]).length) Slot.unset).toArray = ls at hl ⊢
  have hl : lv_has ls 1 [(0, .float p1)] := hl
  unfold g_X5_toDrams at h
  refine lv_bipush (v := -99) hx hb dX5_toDrams_0 (by decide) ?_
  refine lv_bipush (v := 99) hx hb dX5_toDrams_2 (by decide) ?_
  refine lv_fload_n hx hb dX5_toDrams_4 rfl (lv_at hl 0 rfl) ?_
  refine lv_f2i hx hb dX5_toDrams_5 ?_
  refine va_mmin hx hb (hml.trans hl.1.symm) hown (hta _ lm_X5_15) (hta _ mth_minint_s) (hta _ mth_i) (hta _ mth_minint_c) (Nat.le_of_ble_eq_true rfl) (Nat.le_of_ble_eq_true rfl) (Nat.le_of_ble_eq_true rfl) (Nat.le_of_ble_eq_true rfl) dX5_toDrams_6 ?_
  refine va_mmax hx hb (hml.trans hl.1.symm) hown (hta _ lm_X5_21) (hta _ mth_maxint_s) (hta _ mth_i) (hta _ mth_maxint_c) (Nat.le_of_ble_eq_true rfl) (Nat.le_of_ble_eq_true rfl) (Nat.le_of_ble_eq_true rfl) (Nat.le_of_ble_eq_true rfl) dX5_toDrams_9 ?_
  refine lv_topi (fun v1 e_v1 => ?_)
  have h := gl_use e_v1 h
  have ho := Option.some.inj h
  exact W.iret (v := v1) hx hb hr (fun t ht hW => ⟨⟨v1, (), rfl, by rw [← ho], ht⟩, hS.F ht⟩) hS.2.2 dX5_toDrams_12
set_option maxHeartbeats 4000000 in
set_option maxRecDepth 100000 in
theorem c_X5_ofBroth (l : Launch) (dC : Nat → ClassId) (dI : Nat → Nat → Nat) (cT : Nat → ClassId) {Hh : Heap} {p1 : Int32} {p2 : UInt32} {p3 : UInt32} {o : UInt32} (h : g_X5_ofBroth p1 p2 p3 = some o) : Met l yX5_ofBroth (wA yX5_ofBroth cX5_ofBroth 3 (some .float)) ({ frames := 1, cells := 0, slots := 0, locals := 20 } : Room) (PK dC dI cT [.int p1, .float p2, .float p3] Hh) (va_Qf (fun x (_ : Unit) => x = o) (fun _ t => t.heap = Hh) (va_A [] Hh.size)) 0 0 (va_A [] Hh.size) := by
  refine Met.ofW (cc := cX5_ofBroth) (maxL := 3) (ret := (some .float)) (by decide) rfl ?_
  intro p e s m args below meth c s₁ B hml hv
  obtain ⟨rfl, hH, hK⟩ := hv
  subst hH
  have hx := B.exec
  have hb := B.bytes
  have hr := B.returns
  have hta : ∀ w ∈ ALLW, w.before [.int p1, .float p2, .float p3].toArray s = true := fun w hw => atoms_spec (ws := wA yX5_ofBroth cX5_ofBroth 3 (some .float)) B.pre w (List.mem_cons_of_mem _ hw)
  have hown : s.vm.findClass RX5 = some m.cls := findClass_of_methodNamed B.named
  have hlocks := B.notSynchronized
  generalize hAe : va_A [] s.heap.size = A
  have hA : ∀ q : Nat, s.heap.size ≤ q → A q := fun q h => by rw [← hAe]; exact Or.inr h
  have hS : va_S A s.heap s.heap [] := va_S.rf
  have hl := lv_entry [.int p1, .float p2, .float p3] (n := 3) (Nat.le_of_ble_eq_true rfl)
  rw [lg_entry_eq]
  generalize (lg_sl [.int p1, .float p2, .float p3] ++ List.replicate (3 - (lg_sl [.int p1, .float p2, .float p3]).length) Slot.unset).toArray = ls at hl ⊢
  have hl : lv_has ls 3 [(0, .int p1), (1, .float p2), (2, .float p3)] := hl
  obtain ⟨Q, hQ⟩ : ∃ Q, Q = MQ below (va_Qf (fun x (_ : Unit) => x = o) (fun _ t => t.heap = s.heap) A) [.int p1, .float p2, .float p3].toArray s 0 0 A := ⟨_, rfl⟩
  rw [← hQ]
  have wB_26 : ∀ (s0_26 : UInt32) (locs : List Loc) (ls : Array Slot), g_X5_ofBroth_b26 s0_26 = some o → va_S A s.heap s.heap locs → lv_has ls 3 [] → W p l e ({ frames := 1, cells := 0, slots := 0, locals := 20 } : Room) s m [.int p1, .float p2, .float p3].toArray below meth c s.heap locs 0 0 Q (F0 m 26 ls [.float s0_26]) := by
    intro s0_26 locs ls h hS hl
    unfold g_X5_ofBroth_b26 at h
    obtain ⟨r2, hq, h⟩ := gb_some h
    refine crF (va_runS (As := [.float s0_26]) (rest := []) ⟨hx, hb, hml, hown, hta⟩ (c_X5_held l dC dI cT hq) (cS hta lm_X5_9 md_X5_held ⟨(Nat.le_of_ble_eq_true rfl), (Nat.le_of_ble_eq_true rfl)⟩) ⟨fbK, fun U hU hW => ⟨rfl, hU, va_K.moved hW.alike hK⟩⟩ rfl rfl hl.1 rfl (lv_room (Nat.le_of_ble_eq_true rfl)) dX5_ofBroth_26 ⟨(Nat.le_of_ble_eq_true rfl), (Nat.le_of_ble_eq_true rfl)⟩) hS hA (fun locs hS => ?_)
    have ho := Option.some.inj h
    rw [hQ]
    exact W.fret (v := r2) hx hb hr (fun t ht hW => ⟨⟨r2, (), rfl, by rw [← ho], ht⟩, hS.F ht⟩) hS.2.2 dX5_ofBroth_29
  unfold g_X5_ofBroth at h
  refine lv_iload_n hx hb dX5_ofBroth_0 rfl (lv_at hl 0 rfl) ?_
  refine lv_iconst (v := 2) hx hb dX5_ofBroth_1 (by decide) ?_
  refine lv_icmp_ne (tgt := 12) hx hb dX5_ofBroth_2 (by decide) (fun c0 => ?_) (fun c0 => ?_)
  · have h := (if_neg c0).symm.trans h
    refine lv_iload_n hx hb dX5_ofBroth_12 rfl (lv_at hl 0 rfl) ?_
    refine lv_iconst (v := 3) hx hb dX5_ofBroth_13 (by decide) ?_
    refine lv_icmp_ne (tgt := 23) hx hb dX5_ofBroth_14 (by decide) (fun c0 => ?_) (fun c0 => ?_)
    · have h := (if_neg c0).symm.trans h
      refine lv_fload_n hx hb dX5_ofBroth_23 rfl (lv_at hl 1 rfl) ?_
      refine lv_fload_n hx hb dX5_ofBroth_24 rfl (lv_at hl 2 rfl) ?_
      obtain ⟨hc, h⟩ := gc_some h
      refine lv_fmul hx hb dX5_ofBroth_25 (n32_n hc) ?_
      exact wB_26 (FP.fmul p2 p3) _ _ h hS (lv_sub hl [] rfl)
    · have h := (if_pos c0).symm.trans h
      refine lv_fload_n hx hb dX5_ofBroth_17 rfl (lv_at hl 1 rfl) ?_
      refine lv_fload_n hx hb dX5_ofBroth_18 rfl (lv_at hl 2 rfl) ?_
      obtain ⟨hc, h⟩ := gc_some h
      refine lv_fsub hx hb dX5_ofBroth_19 (n32_n hc) ?_
      refine lv_goto (tgt := 26) hx hb dX5_ofBroth_20 (by decide) ?_
      exact wB_26 (FP.fsub p2 p3) _ _ h hS (lv_sub hl [] rfl)
  · have h := (if_pos c0).symm.trans h
    refine lv_fload_n hx hb dX5_ofBroth_5 rfl (lv_at hl 1 rfl) ?_
    refine lv_fload_n hx hb dX5_ofBroth_6 rfl (lv_at hl 2 rfl) ?_
    obtain ⟨hc, h⟩ := gc_some h
    refine lv_fadd hx hb dX5_ofBroth_7 (n32_n hc) ?_
    obtain ⟨r1, hq, h⟩ := gb_some h
    refine crF (va_runS (As := [.float (FP.fadd p2 p3)]) (rest := []) ⟨hx, hb, hml, hown, hta⟩ (c_X5_held l dC dI cT hq) (cS hta lm_X5_9 md_X5_held ⟨(Nat.le_of_ble_eq_true rfl), (Nat.le_of_ble_eq_true rfl)⟩) ⟨fbK, fun U hU hW => ⟨rfl, hU, va_K.moved hW.alike hK⟩⟩ rfl rfl hl.1 rfl (lv_room (Nat.le_of_ble_eq_true rfl)) dX5_ofBroth_8 ⟨(Nat.le_of_ble_eq_true rfl), (Nat.le_of_ble_eq_true rfl)⟩) hS hA (fun locs hS => ?_)
    have ho := Option.some.inj h
    rw [hQ]
    exact W.fret (v := r1) hx hb hr (fun t ht hW => ⟨⟨r1, (), rfl, by rw [← ho], ht⟩, hS.F ht⟩) hS.2.2 dX5_ofBroth_11
set_option maxHeartbeats 4000000 in
set_option maxRecDepth 100000 in
theorem c_X5_ofDrams (l : Launch) (dC : Nat → ClassId) (dI : Nat → Nat → Nat) (cT : Nat → ClassId) {Hh : Heap} {p1 : Int32} {p2 : Int64} {p3 : Int64} {o : Int64} (h : g_X5_ofDrams p1 p2 p3 = some o) : Met l yX5_ofDrams (wA yX5_ofDrams cX5_ofDrams 5 (some .long)) ({ frames := 0, cells := 0, slots := 0, locals := 0 } : Room) (PK dC dI cT [.int p1, .long p2, .long p3] Hh) (va_Ql (fun x (_ : Unit) => x = o) (fun _ t => t.heap = Hh) (va_A [] Hh.size)) 0 0 (va_A [] Hh.size) := by
  refine Met.ofW (cc := cX5_ofDrams) (maxL := 5) (ret := (some .long)) (by decide) rfl ?_
  intro p e s m args below meth c s₁ B hml hv
  obtain ⟨rfl, hH, hK⟩ := hv
  subst hH
  have hx := B.exec
  have hb := B.bytes
  have hr := B.returns
  have hta : ∀ w ∈ ALLW, w.before [.int p1, .long p2, .long p3].toArray s = true := fun w hw => atoms_spec (ws := wA yX5_ofDrams cX5_ofDrams 5 (some .long)) B.pre w (List.mem_cons_of_mem _ hw)
  have hown : s.vm.findClass RX5 = some m.cls := findClass_of_methodNamed B.named
  have hlocks := B.notSynchronized
  generalize hAe : va_A [] s.heap.size = A
  have hA : ∀ q : Nat, s.heap.size ≤ q → A q := fun q h => by rw [← hAe]; exact Or.inr h
  have hS : va_S A s.heap s.heap [] := va_S.rf
  have hl := lv_entry [.int p1, .long p2, .long p3] (n := 5) (Nat.le_of_ble_eq_true rfl)
  rw [lg_entry_eq]
  generalize (lg_sl [.int p1, .long p2, .long p3] ++ List.replicate (5 - (lg_sl [.int p1, .long p2, .long p3]).length) Slot.unset).toArray = ls at hl ⊢
  have hl : lv_has ls 5 [(0, .int p1), (1, .long p2), (3, .long p3)] := hl
  unfold g_X5_ofDrams at h
  refine lv_iload_n hx hb dX5_ofDrams_0 rfl (lv_at hl 0 rfl) ?_
  refine lv_iconst (v := 2) hx hb dX5_ofDrams_1 (by decide) ?_
  refine lv_icmp_ne (tgt := 9) hx hb dX5_ofDrams_2 (by decide) (fun c0 => ?_) (fun c0 => ?_)
  · have h := (if_neg c0).symm.trans h
    refine lv_iload_n hx hb dX5_ofDrams_9 rfl (lv_at hl 0 rfl) ?_
    refine lv_iconst (v := 3) hx hb dX5_ofDrams_10 (by decide) ?_
    refine lv_icmp_ne (tgt := 20) hx hb dX5_ofDrams_11 (by decide) (fun c0 => ?_) (fun c0 => ?_)
    · have h := (if_neg c0).symm.trans h
      refine lv_lload_n hx hb dX5_ofDrams_20 rfl (lv_at hl 1 rfl) ?_
      refine lv_lload_n hx hb dX5_ofDrams_21 rfl (lv_at hl 2 rfl) ?_
      refine lv_lmul hx hb dX5_ofDrams_22 ?_
      refine lv_topl (fun v1 e_v1 => ?_)
      have h := gl_use e_v1 h
      have ho := Option.some.inj h
      exact W.lret (v := v1) hx hb hr (fun t ht hW => ⟨⟨v1, (), rfl, by rw [← ho], ht⟩, hS.F ht⟩) hS.2.2 dX5_ofDrams_23
    · have h := (if_pos c0).symm.trans h
      refine lv_lload_n hx hb dX5_ofDrams_14 rfl (lv_at hl 1 rfl) ?_
      refine lv_lload_n hx hb dX5_ofDrams_15 rfl (lv_at hl 2 rfl) ?_
      refine lv_lsub hx hb dX5_ofDrams_16 ?_
      refine lv_goto (tgt := 23) hx hb dX5_ofDrams_17 (by decide) ?_
      refine lv_topl (fun v2 e_v2 => ?_)
      have h := gl_use e_v2 h
      have ho := Option.some.inj h
      exact W.lret (v := v2) hx hb hr (fun t ht hW => ⟨⟨v2, (), rfl, by rw [← ho], ht⟩, hS.F ht⟩) hS.2.2 dX5_ofDrams_23
  · have h := (if_pos c0).symm.trans h
    refine lv_lload_n hx hb dX5_ofDrams_5 rfl (lv_at hl 1 rfl) ?_
    refine lv_lload_n hx hb dX5_ofDrams_6 rfl (lv_at hl 2 rfl) ?_
    refine lv_ladd hx hb dX5_ofDrams_7 ?_
    refine lv_topl (fun v3 e_v3 => ?_)
    have h := gl_use e_v3 h
    have ho := Option.some.inj h
    exact W.lret (v := v3) hx hb hr (fun t ht hW => ⟨⟨v3, (), rfl, by rw [← ho], ht⟩, hS.F ht⟩) hS.2.2 dX5_ofDrams_8
set_option maxHeartbeats 4000000 in
set_option maxRecDepth 100000 in
theorem c_X5_excess (l : Launch) (dC : Nat → ClassId) (dI : Nat → Nat → Nat) (cT : Nat → ClassId) {Hh : Heap} {p1 : Int64} {o : Int32} (h : g_X5_excess p1 = some o) : Met l yX5_excess (wA yX5_excess cX5_excess 2 (some .int)) ({ frames := 0, cells := 0, slots := 0, locals := 0 } : Room) (PK dC dI cT [.long p1] Hh) (va_Qi (fun x (_ : Unit) => x = o) (fun _ t => t.heap = Hh) (va_A [] Hh.size)) 0 0 (va_A [] Hh.size) := by
  refine Met.ofW (cc := cX5_excess) (maxL := 2) (ret := (some .int)) (by decide) rfl ?_
  intro p e s m args below meth c s₁ B hml hv
  obtain ⟨rfl, hH, hK⟩ := hv
  subst hH
  have hx := B.exec
  have hb := B.bytes
  have hr := B.returns
  have hta : ∀ w ∈ ALLW, w.before [.long p1].toArray s = true := fun w hw => atoms_spec (ws := wA yX5_excess cX5_excess 2 (some .int)) B.pre w (List.mem_cons_of_mem _ hw)
  have hown : s.vm.findClass RX5 = some m.cls := findClass_of_methodNamed B.named
  have hlocks := B.notSynchronized
  generalize hAe : va_A [] s.heap.size = A
  have hA : ∀ q : Nat, s.heap.size ≤ q → A q := fun q h => by rw [← hAe]; exact Or.inr h
  have hS : va_S A s.heap s.heap [] := va_S.rf
  have hl := lv_entry [.long p1] (n := 2) (Nat.le_of_ble_eq_true rfl)
  rw [lg_entry_eq]
  generalize (lg_sl [.long p1] ++ List.replicate (2 - (lg_sl [.long p1]).length) Slot.unset).toArray = ls at hl ⊢
  have hl : lv_has ls 2 [(0, .long p1)] := hl
  unfold g_X5_excess at h
  refine lv_lload_n hx hb dX5_excess_0 rfl (lv_at hl 0 rfl) ?_
  refine lv_ldc2 (v := -1000000) hx hb hown (hta _ kc_X5_24) dX5_excess_1 ?_
  refine W.lcmp hx hb dX5_excess_4 ?_
  refine lv_if_ge (tgt := 10) hx hb dX5_excess_5 (by decide) (fun c0 => ?_) (fun c0 => ?_)
  · have h := (if_pos c0).symm.trans h
    refine lv_lload_n hx hb dX5_excess_10 rfl (lv_at hl 0 rfl) ?_
    refine lv_ldc2 (v := 1000000) hx hb hown (hta _ kc_X5_26) dX5_excess_11 ?_
    refine W.lcmp hx hb dX5_excess_14 ?_
    refine lv_if_le (tgt := 22) hx hb dX5_excess_15 (by decide) (fun c0 => ?_) (fun c0 => ?_)
    · have h := (if_pos c0).symm.trans h
      refine lv_iconst (v := 0) hx hb dX5_excess_22 (by decide) ?_
      have ho := Option.some.inj h
      exact W.iret (v := 0) hx hb hr (fun t ht hW => ⟨⟨0, (), rfl, by rw [← ho], ht⟩, hS.F ht⟩) hS.2.2 dX5_excess_23
    · have h := (if_neg c0).symm.trans h
      refine lv_iconst (v := 1) hx hb dX5_excess_18 (by decide) ?_
      refine lv_goto (tgt := 23) hx hb dX5_excess_19 (by decide) ?_
      have ho := Option.some.inj h
      exact W.iret (v := 1) hx hb hr (fun t ht hW => ⟨⟨1, (), rfl, by rw [← ho], ht⟩, hS.F ht⟩) hS.2.2 dX5_excess_23
  · have h := (if_neg c0).symm.trans h
    refine lv_iconst (v := -1) hx hb dX5_excess_8 (by decide) ?_
    have ho := Option.some.inj h
    exact W.iret (v := (-1)) hx hb hr (fun t ht hW => ⟨⟨(-1), (), rfl, by rw [← ho], ht⟩, hS.F ht⟩) hS.2.2 dX5_excess_9
set_option maxHeartbeats 4000000 in
set_option maxRecDepth 100000 in
theorem c_X5_lowest (l : Launch) (dC : Nat → ClassId) (dI : Nat → Nat → Nat) (cT : Nat → ClassId) {Hh : Heap} {p1 : Int32} {p2 : Int64} {p3 : Int64} {p4 : Int64} {p5 : Int64} {o : Int64} (h : g_X5_lowest p1 p2 p3 p4 p5 = some o) : Met l yX5_lowest (wA yX5_lowest cX5_lowest 9 (some .long)) ({ frames := 1, cells := 0, slots := 0, locals := 21 } : Room) (PK dC dI cT [.int p1, .long p2, .long p3, .long p4, .long p5] Hh) (va_Ql (fun x (_ : Unit) => x = o) (fun _ t => t.heap = Hh) (va_A [] Hh.size)) 0 0 (va_A [] Hh.size) := by
  refine Met.ofW (cc := cX5_lowest) (maxL := 9) (ret := (some .long)) (by decide) rfl ?_
  intro p e s m args below meth c s₁ B hml hv
  obtain ⟨rfl, hH, hK⟩ := hv
  subst hH
  have hx := B.exec
  have hb := B.bytes
  have hr := B.returns
  have hta : ∀ w ∈ ALLW, w.before [.int p1, .long p2, .long p3, .long p4, .long p5].toArray s = true := fun w hw => atoms_spec (ws := wA yX5_lowest cX5_lowest 9 (some .long)) B.pre w (List.mem_cons_of_mem _ hw)
  have hown : s.vm.findClass RX5 = some m.cls := findClass_of_methodNamed B.named
  have hlocks := B.notSynchronized
  generalize hAe : va_A [] s.heap.size = A
  have hA : ∀ q : Nat, s.heap.size ≤ q → A q := fun q h => by rw [← hAe]; exact Or.inr h
  have hS : va_S A s.heap s.heap [] := va_S.rf
  have hl := lv_entry [.int p1, .long p2, .long p3, .long p4, .long p5] (n := 9) (Nat.le_of_ble_eq_true rfl)
  rw [lg_entry_eq]
  generalize (lg_sl [.int p1, .long p2, .long p3, .long p4, .long p5] ++ List.replicate (9 - (lg_sl [.int p1, .long p2, .long p3, .long p4, .long p5]).length) Slot.unset).toArray = ls at hl ⊢
  have hl : lv_has ls 9 [(0, .int p1), (1, .long p2), (3, .long p3), (5, .long p4), (7, .long p5)] := hl
  unfold g_X5_lowest at h
  refine lv_iload_n hx hb dX5_lowest_0 rfl (lv_at hl 0 rfl) ?_
  refine lv_iconst (v := 2) hx hb dX5_lowest_1 (by decide) ?_
  refine lv_icmp_ne (tgt := 10) hx hb dX5_lowest_2 (by decide) (fun c0 => ?_) (fun c0 => ?_)
  · have h := (if_neg c0).symm.trans h
    refine lv_iload_n hx hb dX5_lowest_10 rfl (lv_at hl 0 rfl) ?_
    refine lv_iconst (v := 3) hx hb dX5_lowest_11 (by decide) ?_
    refine lv_icmp_ne (tgt := 20) hx hb dX5_lowest_12 (by decide) (fun c0 => ?_) (fun c0 => ?_)
    · have h := (if_neg c0).symm.trans h
      refine lv_lload_n hx hb dX5_lowest_20 rfl (lv_at hl 1 rfl) ?_
      refine lv_lload hx hb dX5_lowest_21 (lv_at hl 3 rfl) ?_
      refine lv_lmul hx hb dX5_lowest_23 ?_
      refine lv_lload_n hx hb dX5_lowest_24 rfl (lv_at hl 1 rfl) ?_
      refine lv_lload hx hb dX5_lowest_25 (lv_at hl 4 rfl) ?_
      refine lv_lmul hx hb dX5_lowest_27 ?_
      refine va_mmin_long hx hb (hml.trans hl.1.symm) hown (hta _ lm_X5_28) (hta _ mth_minlong_s) (hta _ mth_i) (hta _ mth_minlong_c) (Nat.le_of_ble_eq_true rfl) (Nat.le_of_ble_eq_true rfl) (Nat.le_of_ble_eq_true rfl) (Nat.le_of_ble_eq_true rfl) dX5_lowest_28 ?_
      refine lv_lload_n hx hb dX5_lowest_31 rfl (lv_at hl 2 rfl) ?_
      refine lv_lload hx hb dX5_lowest_32 (lv_at hl 3 rfl) ?_
      refine lv_lmul hx hb dX5_lowest_34 ?_
      refine lv_lload_n hx hb dX5_lowest_35 rfl (lv_at hl 2 rfl) ?_
      refine lv_lload hx hb dX5_lowest_36 (lv_at hl 4 rfl) ?_
      refine lv_lmul hx hb dX5_lowest_38 ?_
      refine va_mmin_long hx hb (hml.trans hl.1.symm) hown (hta _ lm_X5_28) (hta _ mth_minlong_s) (hta _ mth_i) (hta _ mth_minlong_c) (Nat.le_of_ble_eq_true rfl) (Nat.le_of_ble_eq_true rfl) (Nat.le_of_ble_eq_true rfl) (Nat.le_of_ble_eq_true rfl) dX5_lowest_39 ?_
      refine va_mmin_long hx hb (hml.trans hl.1.symm) hown (hta _ lm_X5_28) (hta _ mth_minlong_s) (hta _ mth_i) (hta _ mth_minlong_c) (Nat.le_of_ble_eq_true rfl) (Nat.le_of_ble_eq_true rfl) (Nat.le_of_ble_eq_true rfl) (Nat.le_of_ble_eq_true rfl) dX5_lowest_42 ?_
      refine lv_topl (fun v1 e_v1 => ?_)
      have h := gl_use e_v1 h
      have ho := Option.some.inj h
      exact W.lret (v := v1) hx hb hr (fun t ht hW => ⟨⟨v1, (), rfl, by rw [← ho], ht⟩, hS.F ht⟩) hS.2.2 dX5_lowest_45
    · have h := (if_pos c0).symm.trans h
      refine lv_lload_n hx hb dX5_lowest_15 rfl (lv_at hl 1 rfl) ?_
      refine lv_lload hx hb dX5_lowest_16 (lv_at hl 4 rfl) ?_
      refine lv_lsub hx hb dX5_lowest_18 ?_
      refine lv_topl (fun v2 e_v2 => ?_)
      have h := gl_use e_v2 h
      have ho := Option.some.inj h
      exact W.lret (v := v2) hx hb hr (fun t ht hW => ⟨⟨v2, (), rfl, by rw [← ho], ht⟩, hS.F ht⟩) hS.2.2 dX5_lowest_19
  · have h := (if_pos c0).symm.trans h
    refine lv_lload_n hx hb dX5_lowest_5 rfl (lv_at hl 1 rfl) ?_
    refine lv_lload hx hb dX5_lowest_6 (lv_at hl 3 rfl) ?_
    refine lv_ladd hx hb dX5_lowest_8 ?_
    refine lv_topl (fun v3 e_v3 => ?_)
    have h := gl_use e_v3 h
    have ho := Option.some.inj h
    exact W.lret (v := v3) hx hb hr (fun t ht hW => ⟨⟨v3, (), rfl, by rw [← ho], ht⟩, hS.F ht⟩) hS.2.2 dX5_lowest_9
set_option maxHeartbeats 4000000 in
set_option maxRecDepth 100000 in
theorem c_X5_highest (l : Launch) (dC : Nat → ClassId) (dI : Nat → Nat → Nat) (cT : Nat → ClassId) {Hh : Heap} {p1 : Int32} {p2 : Int64} {p3 : Int64} {p4 : Int64} {p5 : Int64} {o : Int64} (h : g_X5_highest p1 p2 p3 p4 p5 = some o) : Met l yX5_highest (wA yX5_highest cX5_highest 9 (some .long)) ({ frames := 1, cells := 0, slots := 0, locals := 21 } : Room) (PK dC dI cT [.int p1, .long p2, .long p3, .long p4, .long p5] Hh) (va_Ql (fun x (_ : Unit) => x = o) (fun _ t => t.heap = Hh) (va_A [] Hh.size)) 0 0 (va_A [] Hh.size) := by
  refine Met.ofW (cc := cX5_highest) (maxL := 9) (ret := (some .long)) (by decide) rfl ?_
  intro p e s m args below meth c s₁ B hml hv
  obtain ⟨rfl, hH, hK⟩ := hv
  subst hH
  have hx := B.exec
  have hb := B.bytes
  have hr := B.returns
  have hta : ∀ w ∈ ALLW, w.before [.int p1, .long p2, .long p3, .long p4, .long p5].toArray s = true := fun w hw => atoms_spec (ws := wA yX5_highest cX5_highest 9 (some .long)) B.pre w (List.mem_cons_of_mem _ hw)
  have hown : s.vm.findClass RX5 = some m.cls := findClass_of_methodNamed B.named
  have hlocks := B.notSynchronized
  generalize hAe : va_A [] s.heap.size = A
  have hA : ∀ q : Nat, s.heap.size ≤ q → A q := fun q h => by rw [← hAe]; exact Or.inr h
  have hS : va_S A s.heap s.heap [] := va_S.rf
  have hl := lv_entry [.int p1, .long p2, .long p3, .long p4, .long p5] (n := 9) (Nat.le_of_ble_eq_true rfl)
  rw [lg_entry_eq]
  generalize (lg_sl [.int p1, .long p2, .long p3, .long p4, .long p5] ++ List.replicate (9 - (lg_sl [.int p1, .long p2, .long p3, .long p4, .long p5]).length) Slot.unset).toArray = ls at hl ⊢
  have hl : lv_has ls 9 [(0, .int p1), (1, .long p2), (3, .long p3), (5, .long p4), (7, .long p5)] := hl
  unfold g_X5_highest at h
  refine lv_iload_n hx hb dX5_highest_0 rfl (lv_at hl 0 rfl) ?_
  refine lv_iconst (v := 2) hx hb dX5_highest_1 (by decide) ?_
  refine lv_icmp_ne (tgt := 10) hx hb dX5_highest_2 (by decide) (fun c0 => ?_) (fun c0 => ?_)
  · have h := (if_neg c0).symm.trans h
    refine lv_iload_n hx hb dX5_highest_10 rfl (lv_at hl 0 rfl) ?_
    refine lv_iconst (v := 3) hx hb dX5_highest_11 (by decide) ?_
    refine lv_icmp_ne (tgt := 20) hx hb dX5_highest_12 (by decide) (fun c0 => ?_) (fun c0 => ?_)
    · have h := (if_neg c0).symm.trans h
      refine lv_lload_n hx hb dX5_highest_20 rfl (lv_at hl 1 rfl) ?_
      refine lv_lload hx hb dX5_highest_21 (lv_at hl 3 rfl) ?_
      refine lv_lmul hx hb dX5_highest_23 ?_
      refine lv_lload_n hx hb dX5_highest_24 rfl (lv_at hl 1 rfl) ?_
      refine lv_lload hx hb dX5_highest_25 (lv_at hl 4 rfl) ?_
      refine lv_lmul hx hb dX5_highest_27 ?_
      refine va_mmax_long hx hb (hml.trans hl.1.symm) hown (hta _ lm_X5_31) (hta _ mth_maxlong_s) (hta _ mth_i) (hta _ mth_maxlong_c) (Nat.le_of_ble_eq_true rfl) (Nat.le_of_ble_eq_true rfl) (Nat.le_of_ble_eq_true rfl) (Nat.le_of_ble_eq_true rfl) dX5_highest_28 ?_
      refine lv_lload_n hx hb dX5_highest_31 rfl (lv_at hl 2 rfl) ?_
      refine lv_lload hx hb dX5_highest_32 (lv_at hl 3 rfl) ?_
      refine lv_lmul hx hb dX5_highest_34 ?_
      refine lv_lload_n hx hb dX5_highest_35 rfl (lv_at hl 2 rfl) ?_
      refine lv_lload hx hb dX5_highest_36 (lv_at hl 4 rfl) ?_
      refine lv_lmul hx hb dX5_highest_38 ?_
      refine va_mmax_long hx hb (hml.trans hl.1.symm) hown (hta _ lm_X5_31) (hta _ mth_maxlong_s) (hta _ mth_i) (hta _ mth_maxlong_c) (Nat.le_of_ble_eq_true rfl) (Nat.le_of_ble_eq_true rfl) (Nat.le_of_ble_eq_true rfl) (Nat.le_of_ble_eq_true rfl) dX5_highest_39 ?_
      refine va_mmax_long hx hb (hml.trans hl.1.symm) hown (hta _ lm_X5_31) (hta _ mth_maxlong_s) (hta _ mth_i) (hta _ mth_maxlong_c) (Nat.le_of_ble_eq_true rfl) (Nat.le_of_ble_eq_true rfl) (Nat.le_of_ble_eq_true rfl) (Nat.le_of_ble_eq_true rfl) dX5_highest_42 ?_
      refine lv_topl (fun v1 e_v1 => ?_)
      have h := gl_use e_v1 h
      have ho := Option.some.inj h
      exact W.lret (v := v1) hx hb hr (fun t ht hW => ⟨⟨v1, (), rfl, by rw [← ho], ht⟩, hS.F ht⟩) hS.2.2 dX5_highest_45
    · have h := (if_pos c0).symm.trans h
      refine lv_lload_n hx hb dX5_highest_15 rfl (lv_at hl 2 rfl) ?_
      refine lv_lload hx hb dX5_highest_16 (lv_at hl 3 rfl) ?_
      refine lv_lsub hx hb dX5_highest_18 ?_
      refine lv_topl (fun v2 e_v2 => ?_)
      have h := gl_use e_v2 h
      have ho := Option.some.inj h
      exact W.lret (v := v2) hx hb hr (fun t ht hW => ⟨⟨v2, (), rfl, by rw [← ho], ht⟩, hS.F ht⟩) hS.2.2 dX5_highest_19
  · have h := (if_pos c0).symm.trans h
    refine lv_lload_n hx hb dX5_highest_5 rfl (lv_at hl 2 rfl) ?_
    refine lv_lload hx hb dX5_highest_6 (lv_at hl 4 rfl) ?_
    refine lv_ladd hx hb dX5_highest_8 ?_
    refine lv_topl (fun v3 e_v3 => ?_)
    have h := gl_use e_v3 h
    have ho := Option.some.inj h
    exact W.lret (v := v3) hx hb hr (fun t ht hW => ⟨⟨v3, (), rfl, by rw [← ho], ht⟩, hS.F ht⟩) hS.2.2 dX5_highest_9
set_option maxHeartbeats 4000000 in
set_option maxRecDepth 100000 in
theorem c_X5_exponentOf (l : Launch) (dC : Nat → ClassId) (dI : Nat → Nat → Nat) (cT : Nat → ClassId) {Hh : Heap} {p1 : UInt64} {p2 : Int32} {o : Int32} (h : g_X5_exponentOf p1 p2 = some o) : Met l yX5_exponentOf (wA yX5_exponentOf cX5_exponentOf 6 (some .int)) ({ frames := 0, cells := 0, slots := 0, locals := 0 } : Room) (PK dC dI cT [.double p1, .int p2] Hh) (va_Qi (fun x (_ : Unit) => x = o) (fun _ t => t.heap = Hh) (va_A [] Hh.size)) 0 0 (va_A [] Hh.size) := by
  refine Met.ofW (cc := cX5_exponentOf) (maxL := 6) (ret := (some .int)) (by decide) rfl ?_
  intro p e s m args below meth c s₁ B hml hv
  obtain ⟨rfl, hH, hK⟩ := hv
  subst hH
  have hx := B.exec
  have hb := B.bytes
  have hr := B.returns
  have hta : ∀ w ∈ ALLW, w.before [.double p1, .int p2].toArray s = true := fun w hw => atoms_spec (ws := wA yX5_exponentOf cX5_exponentOf 6 (some .int)) B.pre w (List.mem_cons_of_mem _ hw)
  have hown : s.vm.findClass RX5 = some m.cls := findClass_of_methodNamed B.named
  have hlocks := B.notSynchronized
  generalize hAe : va_A [] s.heap.size = A
  have hA : ∀ q : Nat, s.heap.size ≤ q → A q := fun q h => by rw [← hAe]; exact Or.inr h
  have hS : va_S A s.heap s.heap [] := va_S.rf
  have hl := lv_entry [.double p1, .int p2] (n := 6) (Nat.le_of_ble_eq_true rfl)
  rw [lg_entry_eq]
  generalize (lg_sl [.double p1, .int p2] ++ List.replicate (6 - (lg_sl [.double p1, .int p2]).length) Slot.unset).toArray = ls at hl ⊢
  have hl : lv_has ls 6 [(0, .double p1), (2, .int p2)] := hl
  obtain ⟨Q, hQ⟩ : ∃ Q, Q = MQ below (va_Qi (fun x (_ : Unit) => x = o) (fun _ t => t.heap = s.heap) A) [.double p1, .int p2].toArray s 0 0 A := ⟨_, rfl⟩
  rw [← hQ]
  have wB_35 : ∀ (n_35 : Nat), ∀ (x3_35 : Int32) (x4_35 : UInt64) (locs : List Loc) (ls : Array Slot), g_X5_exponentOf_b35 p2 n_35 x3_35 x4_35 = some o → va_S A s.heap s.heap locs → lv_has ls 6 [(2, .int p2), (3, .int x3_35), (4, .double x4_35)] → W p l e ({ frames := 0, cells := 0, slots := 0, locals := 0 } : Room) s m [.double p1, .int p2].toArray below meth c s.heap locs 0 0 Q (F0 m 35 ls []) := by
    intro n_35
    induction n_35 with
    | zero =>
      intro x3_35 x4_35 locs ls h hS hl
      simp [g_X5_exponentOf_b35] at h
    | succ n_35 ih_35 =>
      intro x3_35 x4_35 locs ls h hS hl
      rw [g_X5_exponentOf_b35] at h
      refine lv_dload hx hb dX5_exponentOf_35 (lv_at hl 2 rfl) ?_
      refine lv_dconst1 hx hb dX5_exponentOf_37 ?_
      refine lv_dcmp hx hb dX5_exponentOf_38 ?_
      refine lv_if_ge (tgt := 61) hx hb dX5_exponentOf_39 (by decide) (fun c0 => ?_) (fun c0 => ?_)
      · have h := (if_pos c0).symm.trans h
        refine lv_iload_n hx hb dX5_exponentOf_61 rfl (lv_at hl 1 rfl) ?_
        have ho := Option.some.inj h
        rw [hQ]
        exact W.iret (v := x3_35) hx hb hr (fun t ht hW => ⟨⟨x3_35, (), rfl, by rw [← ho], ht⟩, hS.F ht⟩) hS.2.2 dX5_exponentOf_62
      · have h := (if_neg c0).symm.trans h
        refine lv_iload_n hx hb dX5_exponentOf_42 rfl (lv_at hl 1 rfl) ?_
        refine lv_iload_n hx hb dX5_exponentOf_43 rfl (lv_at hl 0 rfl) ?_
        refine lv_icmp_le (tgt := 61) hx hb dX5_exponentOf_44 (by decide) (fun c0 => ?_) (fun c0 => ?_)
        · have h := (if_pos c0).symm.trans h
          refine lv_iload_n hx hb dX5_exponentOf_61 rfl (lv_at hl 1 rfl) ?_
          have ho := Option.some.inj h
          rw [hQ]
          exact W.iret (v := x3_35) hx hb hr (fun t ht hW => ⟨⟨x3_35, (), rfl, by rw [← ho], ht⟩, hS.F ht⟩) hS.2.2 dX5_exponentOf_62
        · have h := (if_neg c0).symm.trans h
          refine lv_dload hx hb dX5_exponentOf_47 (lv_at hl 2 rfl) ?_
          refine lv_ldc2d (v := 4611686018427387904) hx hb hown (hta _ kc_X5_54) dX5_exponentOf_49 ?_
          obtain ⟨hc, h⟩ := gc_some h
          refine lv_dmul hx hb dX5_exponentOf_52 (n64_n hc) ?_
          refine lv_topd (fun v1 e_v1 => ?_)
          have h := gl_use e_v1 h
          refine lv_dstore (lv' := [(4, .double v1), (2, .int p2), (3, .int x3_35)]) hx hb dX5_exponentOf_53 hl (by decide) rfl (fun ls hl => ?_)
          obtain ⟨v2, e_v2⟩ : ∃ y : Int32, y = x3_35 + (-1) := ⟨_, rfl⟩
          have h := gl_use e_v2 h
          refine lv_iinc (v := v2) (lv' := [(3, .int v2), (4, .double v1), (2, .int p2)]) hx hb dX5_exponentOf_55 hl (k := 2) rfl (by rw [e_v2]; rfl) (by decide) rfl (fun ls hl => ?_)
          refine lv_goto (tgt := 35) hx hb dX5_exponentOf_58 (by decide) ?_
          exact ih_35 v2 v1 _ _ h hS (lv_sub hl [2, 0, 1] rfl)
  have wB_5 : ∀ (n_5 : Nat), ∀ (x3_5 : Int32) (x4_5 : UInt64) (locs : List Loc) (ls : Array Slot), g_X5_exponentOf_b5 p2 n_5 x3_5 x4_5 = some o → va_S A s.heap s.heap locs → lv_has ls 6 [(2, .int p2), (3, .int x3_5), (4, .double x4_5)] → W p l e ({ frames := 0, cells := 0, slots := 0, locals := 0 } : Room) s m [.double p1, .int p2].toArray below meth c s.heap locs 0 0 Q (F0 m 5 ls []) := by
    intro n_5
    induction n_5 with
    | zero =>
      intro x3_5 x4_5 locs ls h hS hl
      simp [g_X5_exponentOf_b5] at h
    | succ n_5 ih_5 =>
      intro x3_5 x4_5 locs ls h hS hl
      rw [g_X5_exponentOf_b5] at h
      refine lv_dload hx hb dX5_exponentOf_5 (lv_at hl 2 rfl) ?_
      refine lv_ldc2d (v := 4611686018427387904) hx hb hown (hta _ kc_X5_54) dX5_exponentOf_7 ?_
      refine lv_dcmp hx hb dX5_exponentOf_10 ?_
      refine lv_if_lt (tgt := 35) hx hb dX5_exponentOf_11 (by decide) (fun c0 => ?_) (fun c0 => ?_)
      · have h := (if_pos c0).symm.trans h
        exact wB_35 2200 x3_5 x4_5 _ _ h hS (lv_sub hl [0, 1, 2] rfl)
      · have h := (if_neg c0).symm.trans h
        refine lv_iload_n hx hb dX5_exponentOf_14 rfl (lv_at hl 1 rfl) ?_
        refine lv_sipush (v := 1023) hx hb dX5_exponentOf_15 (by decide) ?_
        refine lv_icmp_ge (tgt := 35) hx hb dX5_exponentOf_18 (by decide) (fun c0 => ?_) (fun c0 => ?_)
        · have h := (if_pos c0).symm.trans h
          exact wB_35 2200 x3_5 x4_5 _ _ h hS (lv_sub hl [0, 1, 2] rfl)
        · have h := (if_neg c0).symm.trans h
          refine lv_dload hx hb dX5_exponentOf_21 (lv_at hl 2 rfl) ?_
          refine lv_ldc2d (v := 4611686018427387904) hx hb hown (hta _ kc_X5_54) dX5_exponentOf_23 ?_
          obtain ⟨hc, h⟩ := gc_some h
          refine lv_ddiv hx hb dX5_exponentOf_26 (n64_n hc) ?_
          refine lv_topd (fun v3 e_v3 => ?_)
          have h := gl_use e_v3 h
          refine lv_dstore (lv' := [(4, .double v3), (2, .int p2), (3, .int x3_5)]) hx hb dX5_exponentOf_27 hl (by decide) rfl (fun ls hl => ?_)
          obtain ⟨v4, e_v4⟩ : ∃ y : Int32, y = x3_5 + 1 := ⟨_, rfl⟩
          have h := gl_use e_v4 h
          refine lv_iinc (v := v4) (lv' := [(3, .int v4), (4, .double v3), (2, .int p2)]) hx hb dX5_exponentOf_29 hl (k := 2) rfl (by rw [e_v4]; rfl) (by decide) rfl (fun ls hl => ?_)
          refine lv_goto (tgt := 5) hx hb dX5_exponentOf_32 (by decide) ?_
          exact ih_5 v4 v3 _ _ h hS (lv_sub hl [2, 0, 1] rfl)
  unfold g_X5_exponentOf at h
  refine lv_iconst (v := 0) hx hb dX5_exponentOf_0 (by decide) ?_
  refine lv_istore_n (lv' := [(3, .int 0), (0, .double p1), (2, .int p2)]) hx hb dX5_exponentOf_1 rfl hl (by decide) rfl (fun ls hl => ?_)
  refine lv_dload_n hx hb dX5_exponentOf_2 rfl (lv_at hl 1 rfl) ?_
  refine lv_dstore (lv' := [(4, .double p1), (3, .int 0), (0, .double p1), (2, .int p2)]) hx hb dX5_exponentOf_3 hl (by decide) rfl (fun ls hl => ?_)
  exact wB_5 2200 0 p1 _ _ h hS (lv_sub hl [3, 1, 0] rfl)
set_option maxHeartbeats 4000000 in
set_option maxRecDepth 100000 in
theorem c_X5_scale (l : Launch) (dC : Nat → ClassId) (dI : Nat → Nat → Nat) (cT : Nat → ClassId) {Hh : Heap} {p1 : UInt64} {p2 : Int32} {o : UInt64} (h : g_X5_scale p1 p2 = some o) : Met l yX5_scale (wA yX5_scale cX5_scale 6 (some .double)) ({ frames := 0, cells := 0, slots := 0, locals := 0 } : Room) (PK dC dI cT [.double p1, .int p2] Hh) (va_Qd (fun x (_ : Unit) => x = o) (fun _ t => t.heap = Hh) (va_A [] Hh.size)) 0 0 (va_A [] Hh.size) := by
  refine Met.ofW (cc := cX5_scale) (maxL := 6) (ret := (some .double)) (by decide) rfl ?_
  intro p e s m args below meth c s₁ B hml hv
  obtain ⟨rfl, hH, hK⟩ := hv
  subst hH
  have hx := B.exec
  have hb := B.bytes
  have hr := B.returns
  have hta : ∀ w ∈ ALLW, w.before [.double p1, .int p2].toArray s = true := fun w hw => atoms_spec (ws := wA yX5_scale cX5_scale 6 (some .double)) B.pre w (List.mem_cons_of_mem _ hw)
  have hown : s.vm.findClass RX5 = some m.cls := findClass_of_methodNamed B.named
  have hlocks := B.notSynchronized
  generalize hAe : va_A [] s.heap.size = A
  have hA : ∀ q : Nat, s.heap.size ≤ q → A q := fun q h => by rw [← hAe]; exact Or.inr h
  have hS : va_S A s.heap s.heap [] := va_S.rf
  have hl := lv_entry [.double p1, .int p2] (n := 6) (Nat.le_of_ble_eq_true rfl)
  rw [lg_entry_eq]
  generalize (lg_sl [.double p1, .int p2] ++ List.replicate (6 - (lg_sl [.double p1, .int p2]).length) Slot.unset).toArray = ls at hl ⊢
  have hl : lv_has ls 6 [(0, .double p1), (2, .int p2)] := hl
  obtain ⟨Q, hQ⟩ : ∃ Q, Q = MQ below (va_Qd (fun x (_ : Unit) => x = o) (fun _ t => t.heap = s.heap) A) [.double p1, .int p2].toArray s 0 0 A := ⟨_, rfl⟩
  rw [← hQ]
  have wB_25 : ∀ (n_25 : Nat), ∀ (x3_25 : UInt64) (x5_25 : Int32) (locs : List Loc) (ls : Array Slot), g_X5_scale_b25 n_25 x3_25 x5_25 = some o → va_S A s.heap s.heap locs → lv_has ls 6 [(3, .double x3_25), (5, .int x5_25)] → W p l e ({ frames := 0, cells := 0, slots := 0, locals := 0 } : Room) s m [.double p1, .int p2].toArray below meth c s.heap locs 0 0 Q (F0 m 25 ls []) := by
    intro n_25
    induction n_25 with
    | zero =>
      intro x3_25 x5_25 locs ls h hS hl
      simp [g_X5_scale_b25] at h
    | succ n_25 ih_25 =>
      intro x3_25 x5_25 locs ls h hS hl
      rw [g_X5_scale_b25] at h
      refine lv_iload hx hb dX5_scale_25 (lv_at hl 1 rfl) ?_
      refine lv_if_ge (tgt := 42) hx hb dX5_scale_27 (by decide) (fun c0 => ?_) (fun c0 => ?_)
      · have h := (if_pos c0).symm.trans h
        refine lv_dload_n hx hb dX5_scale_42 rfl (lv_at hl 0 rfl) ?_
        have ho := Option.some.inj h
        rw [hQ]
        exact W.dret (v := x3_25) hx hb hr (fun t ht hW => ⟨⟨x3_25, (), rfl, by rw [← ho], ht⟩, hS.F ht⟩) hS.2.2 dX5_scale_43
      · have h := (if_neg c0).symm.trans h
        refine lv_dload_n hx hb dX5_scale_30 rfl (lv_at hl 0 rfl) ?_
        refine lv_ldc2d (v := 4611686018427387904) hx hb hown (hta _ kc_X5_54) dX5_scale_31 ?_
        obtain ⟨hc, h⟩ := gc_some h
        refine lv_dmul hx hb dX5_scale_34 (n64_n hc) ?_
        refine lv_topd (fun v1 e_v1 => ?_)
        have h := gl_use e_v1 h
        refine lv_dstore_n (lv' := [(3, .double v1), (5, .int x5_25)]) hx hb dX5_scale_35 rfl hl (by decide) rfl (fun ls hl => ?_)
        obtain ⟨v2, e_v2⟩ : ∃ y : Int32, y = x5_25 + 1 := ⟨_, rfl⟩
        have h := gl_use e_v2 h
        refine lv_iinc (v := v2) (lv' := [(5, .int v2), (3, .double v1)]) hx hb dX5_scale_36 hl (k := 1) rfl (by rw [e_v2]; rfl) (by decide) rfl (fun ls hl => ?_)
        refine lv_goto (tgt := 25) hx hb dX5_scale_39 (by decide) ?_
        exact ih_25 v1 v2 _ _ h hS (lv_sub hl [1, 0] rfl)
  have wB_5 : ∀ (n_5 : Nat), ∀ (x3_5 : UInt64) (x5_5 : Int32) (locs : List Loc) (ls : Array Slot), g_X5_scale_b5 p2 n_5 x3_5 x5_5 = some o → va_S A s.heap s.heap locs → lv_has ls 6 [(2, .int p2), (3, .double x3_5), (5, .int x5_5)] → W p l e ({ frames := 0, cells := 0, slots := 0, locals := 0 } : Room) s m [.double p1, .int p2].toArray below meth c s.heap locs 0 0 Q (F0 m 5 ls []) := by
    intro n_5
    induction n_5 with
    | zero =>
      intro x3_5 x5_5 locs ls h hS hl
      simp [g_X5_scale_b5] at h
    | succ n_5 ih_5 =>
      intro x3_5 x5_5 locs ls h hS hl
      rw [g_X5_scale_b5] at h
      refine lv_iload hx hb dX5_scale_5 (lv_at hl 2 rfl) ?_
      refine lv_if_le (tgt := 22) hx hb dX5_scale_7 (by decide) (fun c0 => ?_) (fun c0 => ?_)
      · have h := (if_pos c0).symm.trans h
        refine lv_iload_n hx hb dX5_scale_22 rfl (lv_at hl 0 rfl) ?_
        refine lv_istore (lv' := [(5, .int p2), (2, .int p2), (3, .double x3_5)]) hx hb dX5_scale_23 hl (by decide) rfl (fun ls hl => ?_)
        exact wB_25 1200 x3_5 p2 _ _ h hS (lv_sub hl [2, 0] rfl)
      · have h := (if_neg c0).symm.trans h
        refine lv_dload_n hx hb dX5_scale_10 rfl (lv_at hl 1 rfl) ?_
        refine lv_ldc2d (v := 4611686018427387904) hx hb hown (hta _ kc_X5_54) dX5_scale_11 ?_
        obtain ⟨hc, h⟩ := gc_some h
        refine lv_ddiv hx hb dX5_scale_14 (n64_n hc) ?_
        refine lv_topd (fun v3 e_v3 => ?_)
        have h := gl_use e_v3 h
        refine lv_dstore_n (lv' := [(3, .double v3), (2, .int p2), (5, .int x5_5)]) hx hb dX5_scale_15 rfl hl (by decide) rfl (fun ls hl => ?_)
        obtain ⟨v4, e_v4⟩ : ∃ y : Int32, y = x5_5 + (-1) := ⟨_, rfl⟩
        have h := gl_use e_v4 h
        refine lv_iinc (v := v4) (lv' := [(5, .int v4), (3, .double v3), (2, .int p2)]) hx hb dX5_scale_16 hl (k := 2) rfl (by rw [e_v4]; rfl) (by decide) rfl (fun ls hl => ?_)
        refine lv_goto (tgt := 5) hx hb dX5_scale_19 (by decide) ?_
        exact ih_5 v3 v4 _ _ h hS (lv_sub hl [2, 1, 0] rfl)
  unfold g_X5_scale at h
  refine lv_dload_n hx hb dX5_scale_0 rfl (lv_at hl 0 rfl) ?_
  refine lv_dstore_n (lv' := [(3, .double p1), (0, .double p1), (2, .int p2)]) hx hb dX5_scale_1 rfl hl (by decide) rfl (fun ls hl => ?_)
  refine lv_iload_n hx hb dX5_scale_2 rfl (lv_at hl 2 rfl) ?_
  refine lv_istore (lv' := [(5, .int p2), (3, .double p1), (0, .double p1), (2, .int p2)]) hx hb dX5_scale_3 hl (by decide) rfl (fun ls hl => ?_)
  exact wB_5 1200 p1 p2 _ _ h hS (lv_sub hl [3, 1, 0] rfl)
set_option maxHeartbeats 4000000 in
set_option maxRecDepth 100000 in
theorem c_X5_bitsOf (l : Launch) (dC : Nat → ClassId) (dI : Nat → Nat → Nat) (cT : Nat → ClassId) {Hh : Heap} {p1 : UInt32} {o : Int32} (h : g_X5_bitsOf p1 = some o) : Met l yX5_bitsOf (wA yX5_bitsOf cX5_bitsOf 8 (some .int)) ({ frames := 1, cells := 0, slots := 0, locals := 25 } : Room) (PK dC dI cT [.float p1] Hh) (va_Qi (fun x (_ : Unit) => x = o) (fun _ t => t.heap = Hh) (va_A [] Hh.size)) 0 0 (va_A [] Hh.size) := by
  refine Met.ofW (cc := cX5_bitsOf) (maxL := 8) (ret := (some .int)) (by decide) rfl ?_
  intro p e s m args below meth c s₁ B hml hv
  obtain ⟨rfl, hH, hK⟩ := hv
  subst hH
  have hx := B.exec
  have hb := B.bytes
  have hr := B.returns
  have hta : ∀ w ∈ ALLW, w.before [.float p1].toArray s = true := fun w hw => atoms_spec (ws := wA yX5_bitsOf cX5_bitsOf 8 (some .int)) B.pre w (List.mem_cons_of_mem _ hw)
  have hown : s.vm.findClass RX5 = some m.cls := findClass_of_methodNamed B.named
  have hlocks := B.notSynchronized
  generalize hAe : va_A [] s.heap.size = A
  have hA : ∀ q : Nat, s.heap.size ≤ q → A q := fun q h => by rw [← hAe]; exact Or.inr h
  have hS : va_S A s.heap s.heap [] := va_S.rf
  have hl := lv_entry [.float p1] (n := 8) (Nat.le_of_ble_eq_true rfl)
  rw [lg_entry_eq]
  generalize (lg_sl [.float p1] ++ List.replicate (8 - (lg_sl [.float p1]).length) Slot.unset).toArray = ls at hl ⊢
  have hl : lv_has ls 8 [(0, .float p1)] := hl
  obtain ⟨Q, hQ⟩ : ∃ Q, Q = MQ below (va_Qi (fun x (_ : Unit) => x = o) (fun _ t => t.heap = s.heap) A) [.float p1].toArray s 0 0 A := ⟨_, rfl⟩
  rw [← hQ]
  have wB_29 : ∀ (x2_29 : UInt64) (s0_29 : Int32) (locs : List Loc) (ls : Array Slot), g_X5_bitsOf_b29 x2_29 s0_29 = some o → va_S A s.heap s.heap locs → lv_has ls 8 [(2, .double x2_29)] → W p l e ({ frames := 1, cells := 0, slots := 0, locals := 25 } : Room) s m [.float p1].toArray below meth c s.heap locs 0 0 Q (F0 m 29 ls [.int s0_29]) := by
    intro x2_29 s0_29 locs ls h hS hl
    unfold g_X5_bitsOf_b29 at h
    refine lv_istore (lv' := [(4, .int s0_29), (2, .double x2_29)]) hx hb dX5_bitsOf_29 hl (by decide) rfl (fun ls hl => ?_)
    refine lv_dload_n hx hb dX5_bitsOf_31 rfl (lv_at hl 1 rfl) ?_
    refine lv_dconst0 hx hb dX5_bitsOf_32 ?_
    refine lv_dcmp hx hb dX5_bitsOf_33 ?_
    refine lv_if_ne (tgt := 40) hx hb dX5_bitsOf_34 (by decide) (fun c0 => ?_) (fun c0 => ?_)
    · have h := (if_neg c0).symm.trans h
      refine lv_dload_n hx hb dX5_bitsOf_40 rfl (lv_at hl 1 rfl) ?_
      refine lv_bipush (v := -126) hx hb dX5_bitsOf_41 (by decide) ?_
      obtain ⟨r2, hq, h⟩ := gb_some h
      refine crI (va_runS (As := [.double x2_29, .int (-126)]) (rest := []) ⟨hx, hb, hml, hown, hta⟩ (c_X5_exponentOf l dC dI cT hq) (cS hta lm_X5_38 md_X5_exponentOf ⟨(Nat.le_of_ble_eq_true rfl), (Nat.le_of_ble_eq_true rfl)⟩) ⟨fbK, fun U hU hW => ⟨rfl, hU, va_K.moved hW.alike hK⟩⟩ rfl rfl hl.1 rfl (lv_room (Nat.le_of_ble_eq_true rfl)) dX5_bitsOf_43 ⟨(Nat.le_of_ble_eq_true rfl), (Nat.le_of_ble_eq_true rfl)⟩) hS hA (fun locs hS => ?_)
      refine lv_istore (lv' := [(5, .int r2), (4, .int s0_29), (2, .double x2_29)]) hx hb dX5_bitsOf_46 hl (by decide) rfl (fun ls hl => ?_)
      refine lv_dload_n hx hb dX5_bitsOf_48 rfl (lv_at hl 2 rfl) ?_
      refine lv_iload hx hb dX5_bitsOf_49 (lv_at hl 0 rfl) ?_
      obtain ⟨r3, hq, h⟩ := gb_some h
      refine crD (va_runS (As := [.double x2_29, .int r2]) (rest := []) ⟨hx, hb, hml, hown, hta⟩ (c_X5_scale l dC dI cT hq) (cS hta lm_X5_42 md_X5_scale ⟨(Nat.le_of_ble_eq_true rfl), (Nat.le_of_ble_eq_true rfl)⟩) ⟨fbK, fun U hU hW => ⟨rfl, hU, va_K.moved hW.alike hK⟩⟩ rfl rfl hl.1 rfl (lv_room (Nat.le_of_ble_eq_true rfl)) dX5_bitsOf_51 ⟨(Nat.le_of_ble_eq_true rfl), (Nat.le_of_ble_eq_true rfl)⟩) hS hA (fun locs hS => ?_)
      refine lv_dstore (lv' := [(6, .double r3), (5, .int r2), (4, .int s0_29), (2, .double x2_29)]) hx hb dX5_bitsOf_54 hl (by decide) rfl (fun ls hl => ?_)
      refine lv_dload hx hb dX5_bitsOf_56 (lv_at hl 0 rfl) ?_
      refine lv_dconst1 hx hb dX5_bitsOf_58 ?_
      refine lv_dcmp hx hb dX5_bitsOf_59 ?_
      refine lv_if_ge (tgt := 74) hx hb dX5_bitsOf_60 (by decide) (fun c0 => ?_) (fun c0 => ?_)
      · have h := (if_pos c0).symm.trans h
        refine lv_iload hx hb dX5_bitsOf_74 (lv_at hl 2 rfl) ?_
        refine lv_iload hx hb dX5_bitsOf_76 (lv_at hl 1 rfl) ?_
        refine lv_bipush (v := 127) hx hb dX5_bitsOf_78 (by decide) ?_
        refine lv_iadd hx hb dX5_bitsOf_80 ?_
        refine lv_bipush (v := 23) hx hb dX5_bitsOf_81 (by decide) ?_
        refine lv_ishl hx hb dX5_bitsOf_83 ?_
        refine lv_ior hx hb dX5_bitsOf_84 ?_
        refine lv_dload hx hb dX5_bitsOf_85 (lv_at hl 0 rfl) ?_
        refine lv_dconst1 hx hb dX5_bitsOf_87 ?_
        obtain ⟨hc, h⟩ := gc_some h
        refine lv_dsub hx hb dX5_bitsOf_88 (n64_n hc) ?_
        refine lv_ldc2d (v := 4710765210229538816) hx hb hown (hta _ kc_X5_46) dX5_bitsOf_89 ?_
        obtain ⟨hc, h⟩ := gc_some h
        refine lv_dmul hx hb dX5_bitsOf_92 (n64_n hc) ?_
        refine lv_d2i hx hb dX5_bitsOf_93 ?_
        refine lv_ior hx hb dX5_bitsOf_94 ?_
        refine lv_topi (fun v4 e_v4 => ?_)
        have h := gl_use e_v4 h
        have ho := Option.some.inj h
        rw [hQ]
        exact W.iret (v := v4) hx hb hr (fun t ht hW => ⟨⟨v4, (), rfl, by rw [← ho], ht⟩, hS.F ht⟩) hS.2.2 dX5_bitsOf_95
      · have h := (if_neg c0).symm.trans h
        refine lv_iload hx hb dX5_bitsOf_63 (lv_at hl 2 rfl) ?_
        refine lv_dload hx hb dX5_bitsOf_65 (lv_at hl 0 rfl) ?_
        refine lv_ldc2d (v := 4710765210229538816) hx hb hown (hta _ kc_X5_46) dX5_bitsOf_67 ?_
        obtain ⟨hc, h⟩ := gc_some h
        refine lv_dmul hx hb dX5_bitsOf_70 (n64_n hc) ?_
        refine lv_d2i hx hb dX5_bitsOf_71 ?_
        refine lv_ior hx hb dX5_bitsOf_72 ?_
        refine lv_topi (fun v5 e_v5 => ?_)
        have h := gl_use e_v5 h
        have ho := Option.some.inj h
        rw [hQ]
        exact W.iret (v := v5) hx hb hr (fun t ht hW => ⟨⟨v5, (), rfl, by rw [← ho], ht⟩, hS.F ht⟩) hS.2.2 dX5_bitsOf_73
    · have h := (if_pos c0).symm.trans h
      refine lv_iload hx hb dX5_bitsOf_37 (lv_at hl 0 rfl) ?_
      have ho := Option.some.inj h
      rw [hQ]
      exact W.iret (v := s0_29) hx hb hr (fun t ht hW => ⟨⟨s0_29, (), rfl, by rw [← ho], ht⟩, hS.F ht⟩) hS.2.2 dX5_bitsOf_39
  have wB_18 : ∀ (x1_18 : Int32) (s0_18 : UInt64) (locs : List Loc) (ls : Array Slot), g_X5_bitsOf_b18 x1_18 s0_18 = some o → va_S A s.heap s.heap locs → lv_has ls 8 [(1, .int x1_18)] → W p l e ({ frames := 1, cells := 0, slots := 0, locals := 25 } : Room) s m [.float p1].toArray below meth c s.heap locs 0 0 Q (F0 m 18 ls [.double s0_18]) := by
    intro x1_18 s0_18 locs ls h hS hl
    unfold g_X5_bitsOf_b18 at h
    refine lv_dstore_n (lv' := [(2, .double s0_18), (1, .int x1_18)]) hx hb dX5_bitsOf_18 rfl hl (by decide) rfl (fun ls hl => ?_)
    refine lv_iload_n hx hb dX5_bitsOf_19 rfl (lv_at hl 1 rfl) ?_
    refine lv_if_eq (tgt := 28) hx hb dX5_bitsOf_20 (by decide) (fun c0 => ?_) (fun c0 => ?_)
    · have h := (if_pos c0).symm.trans h
      refine lv_iconst (v := 0) hx hb dX5_bitsOf_28 (by decide) ?_
      exact wB_29 s0_18 0 _ _ h hS (lv_sub hl [0] rfl)
    · have h := (if_neg c0).symm.trans h
      refine lv_ldc (v := -2147483648) hx hb hown (hta _ kc_X5_37) dX5_bitsOf_23 ?_
      refine lv_goto (tgt := 29) hx hb dX5_bitsOf_25 (by decide) ?_
      exact wB_29 s0_18 (-2147483648 : Int32) _ _ h hS (lv_sub hl [0] rfl)
  unfold g_X5_bitsOf at h
  refine lv_fload_n hx hb dX5_bitsOf_0 rfl (lv_at hl 0 rfl) ?_
  obtain ⟨hc, h⟩ := gc_some h
  refine lv_f2d hx hb dX5_bitsOf_1 (n64_n hc) ?_
  obtain ⟨r1, hq, h⟩ := gb_some h
  refine crI (va_runS (As := [.double (FP.f2d p1)]) (rest := []) ⟨hx, hb, hml, hown, hta⟩ (c_X5_isNegative l dC dI cT hq) (cS hta lm_X5_33 md_X5_isNegative ⟨(Nat.le_of_ble_eq_true rfl), (Nat.le_of_ble_eq_true rfl)⟩) ⟨fbK, fun U hU hW => ⟨rfl, hU, va_K.moved hW.alike hK⟩⟩ rfl rfl hl.1 rfl (lv_room (Nat.le_of_ble_eq_true rfl)) dX5_bitsOf_2 ⟨(Nat.le_of_ble_eq_true rfl), (Nat.le_of_ble_eq_true rfl)⟩) hS hA (fun locs hS => ?_)
  refine lv_istore_n (lv' := [(1, .int r1), (0, .float p1)]) hx hb dX5_bitsOf_5 rfl hl (by decide) rfl (fun ls hl => ?_)
  refine lv_iload_n hx hb dX5_bitsOf_6 rfl (lv_at hl 0 rfl) ?_
  refine lv_if_eq (tgt := 16) hx hb dX5_bitsOf_7 (by decide) (fun c0 => ?_) (fun c0 => ?_)
  · have h := (if_pos c0).symm.trans h
    refine lv_fload_n hx hb dX5_bitsOf_16 rfl (lv_at hl 1 rfl) ?_
    obtain ⟨hc, h⟩ := gc_some h
    refine lv_f2d hx hb dX5_bitsOf_17 (n64_n hc) ?_
    exact wB_18 r1 (FP.f2d p1) _ _ h hS (lv_sub hl [0] rfl)
  · have h := (if_neg c0).symm.trans h
    refine lv_fload_n hx hb dX5_bitsOf_10 rfl (lv_at hl 1 rfl) ?_
    obtain ⟨hc, h⟩ := gc_some h
    refine lv_f2d hx hb dX5_bitsOf_11 (n64_n hc) ?_
    refine lv_dneg hx hb dX5_bitsOf_12 ?_
    refine lv_goto (tgt := 18) hx hb dX5_bitsOf_13 (by decide) ?_
    exact wB_18 r1 (FP.dneg (FP.f2d p1)) _ _ h hS (lv_sub hl [0] rfl)
set_option maxHeartbeats 4000000 in
set_option maxRecDepth 100000 in
theorem c_X5_longBitsOf (l : Launch) (dC : Nat → ClassId) (dI : Nat → Nat → Nat) (cT : Nat → ClassId) {Hh : Heap} {p1 : UInt64} {o : Int64} (h : g_X5_longBitsOf p1 = some o) : Met l yX5_longBitsOf (wA yX5_longBitsOf cX5_longBitsOf 10 (some .long)) ({ frames := 1, cells := 0, slots := 0, locals := 25 } : Room) (PK dC dI cT [.double p1] Hh) (va_Ql (fun x (_ : Unit) => x = o) (fun _ t => t.heap = Hh) (va_A [] Hh.size)) 0 0 (va_A [] Hh.size) := by
  refine Met.ofW (cc := cX5_longBitsOf) (maxL := 10) (ret := (some .long)) (by decide) rfl ?_
  intro p e s m args below meth c s₁ B hml hv
  obtain ⟨rfl, hH, hK⟩ := hv
  subst hH
  have hx := B.exec
  have hb := B.bytes
  have hr := B.returns
  have hta : ∀ w ∈ ALLW, w.before [.double p1].toArray s = true := fun w hw => atoms_spec (ws := wA yX5_longBitsOf cX5_longBitsOf 10 (some .long)) B.pre w (List.mem_cons_of_mem _ hw)
  have hown : s.vm.findClass RX5 = some m.cls := findClass_of_methodNamed B.named
  have hlocks := B.notSynchronized
  generalize hAe : va_A [] s.heap.size = A
  have hA : ∀ q : Nat, s.heap.size ≤ q → A q := fun q h => by rw [← hAe]; exact Or.inr h
  have hS : va_S A s.heap s.heap [] := va_S.rf
  have hl := lv_entry [.double p1] (n := 10) (Nat.le_of_ble_eq_true rfl)
  rw [lg_entry_eq]
  generalize (lg_sl [.double p1] ++ List.replicate (10 - (lg_sl [.double p1]).length) Slot.unset).toArray = ls at hl ⊢
  have hl : lv_has ls 10 [(0, .double p1)] := hl
  obtain ⟨Q, hQ⟩ : ∃ Q, Q = MQ below (va_Ql (fun x (_ : Unit) => x = o) (fun _ t => t.heap = s.heap) A) [.double p1].toArray s 0 0 A := ⟨_, rfl⟩
  rw [← hQ]
  have wB_27 : ∀ (x3_27 : UInt64) (s0_27 : Int64) (locs : List Loc) (ls : Array Slot), g_X5_longBitsOf_b27 x3_27 s0_27 = some o → va_S A s.heap s.heap locs → lv_has ls 10 [(3, .double x3_27)] → W p l e ({ frames := 1, cells := 0, slots := 0, locals := 25 } : Room) s m [.double p1].toArray below meth c s.heap locs 0 0 Q (F0 m 27 ls [.long s0_27]) := by
    intro x3_27 s0_27 locs ls h hS hl
    unfold g_X5_longBitsOf_b27 at h
    refine lv_lstore (lv' := [(5, .long s0_27), (3, .double x3_27)]) hx hb dX5_longBitsOf_27 hl (by decide) rfl (fun ls hl => ?_)
    refine lv_dload_n hx hb dX5_longBitsOf_29 rfl (lv_at hl 1 rfl) ?_
    refine lv_dconst0 hx hb dX5_longBitsOf_30 ?_
    refine lv_dcmp hx hb dX5_longBitsOf_31 ?_
    refine lv_if_ne (tgt := 38) hx hb dX5_longBitsOf_32 (by decide) (fun c0 => ?_) (fun c0 => ?_)
    · have h := (if_neg c0).symm.trans h
      refine lv_dload_n hx hb dX5_longBitsOf_38 rfl (lv_at hl 1 rfl) ?_
      refine lv_sipush (v := -1022) hx hb dX5_longBitsOf_39 (by decide) ?_
      obtain ⟨r2, hq, h⟩ := gb_some h
      refine crI (va_runS (As := [.double x3_27, .int (-1022)]) (rest := []) ⟨hx, hb, hml, hown, hta⟩ (c_X5_exponentOf l dC dI cT hq) (cS hta lm_X5_38 md_X5_exponentOf ⟨(Nat.le_of_ble_eq_true rfl), (Nat.le_of_ble_eq_true rfl)⟩) ⟨fbK, fun U hU hW => ⟨rfl, hU, va_K.moved hW.alike hK⟩⟩ rfl rfl hl.1 rfl (lv_room (Nat.le_of_ble_eq_true rfl)) dX5_longBitsOf_42 ⟨(Nat.le_of_ble_eq_true rfl), (Nat.le_of_ble_eq_true rfl)⟩) hS hA (fun locs hS => ?_)
      refine lv_istore (lv' := [(7, .int r2), (5, .long s0_27), (3, .double x3_27)]) hx hb dX5_longBitsOf_45 hl (by decide) rfl (fun ls hl => ?_)
      refine lv_dload_n hx hb dX5_longBitsOf_47 rfl (lv_at hl 2 rfl) ?_
      refine lv_iload hx hb dX5_longBitsOf_48 (lv_at hl 0 rfl) ?_
      obtain ⟨r3, hq, h⟩ := gb_some h
      refine crD (va_runS (As := [.double x3_27, .int r2]) (rest := []) ⟨hx, hb, hml, hown, hta⟩ (c_X5_scale l dC dI cT hq) (cS hta lm_X5_42 md_X5_scale ⟨(Nat.le_of_ble_eq_true rfl), (Nat.le_of_ble_eq_true rfl)⟩) ⟨fbK, fun U hU hW => ⟨rfl, hU, va_K.moved hW.alike hK⟩⟩ rfl rfl hl.1 rfl (lv_room (Nat.le_of_ble_eq_true rfl)) dX5_longBitsOf_50 ⟨(Nat.le_of_ble_eq_true rfl), (Nat.le_of_ble_eq_true rfl)⟩) hS hA (fun locs hS => ?_)
      refine lv_dstore (lv' := [(8, .double r3), (7, .int r2), (5, .long s0_27), (3, .double x3_27)]) hx hb dX5_longBitsOf_53 hl (by decide) rfl (fun ls hl => ?_)
      refine lv_dload hx hb dX5_longBitsOf_55 (lv_at hl 0 rfl) ?_
      refine lv_dconst1 hx hb dX5_longBitsOf_57 ?_
      refine lv_dcmp hx hb dX5_longBitsOf_58 ?_
      refine lv_if_ge (tgt := 73) hx hb dX5_longBitsOf_59 (by decide) (fun c0 => ?_) (fun c0 => ?_)
      · have h := (if_pos c0).symm.trans h
        refine lv_lload hx hb dX5_longBitsOf_73 (lv_at hl 2 rfl) ?_
        refine lv_iload hx hb dX5_longBitsOf_75 (lv_at hl 1 rfl) ?_
        refine lv_sipush (v := 1023) hx hb dX5_longBitsOf_77 (by decide) ?_
        refine lv_iadd hx hb dX5_longBitsOf_80 ?_
        refine lv_i2l hx hb dX5_longBitsOf_81 rfl ?_
        refine lv_bipush (v := 52) hx hb dX5_longBitsOf_82 (by decide) ?_
        refine lv_lshl hx hb dX5_longBitsOf_84 rfl ?_
        refine lv_lor hx hb dX5_longBitsOf_85 ?_
        refine lv_dload hx hb dX5_longBitsOf_86 (lv_at hl 0 rfl) ?_
        refine lv_dconst1 hx hb dX5_longBitsOf_88 ?_
        obtain ⟨hc, h⟩ := gc_some h
        refine lv_dsub hx hb dX5_longBitsOf_89 (n64_n hc) ?_
        refine lv_ldc2d (v := 4841369599423283200) hx hb hown (hta _ kc_X5_50) dX5_longBitsOf_90 ?_
        obtain ⟨hc, h⟩ := gc_some h
        refine lv_dmul hx hb dX5_longBitsOf_93 (n64_n hc) ?_
        refine lv_d2l hx hb dX5_longBitsOf_94 ?_
        refine lv_lor hx hb dX5_longBitsOf_95 ?_
        refine lv_topl (fun v4 e_v4 => ?_)
        have h := gl_use e_v4 h
        have ho := Option.some.inj h
        rw [hQ]
        exact W.lret (v := v4) hx hb hr (fun t ht hW => ⟨⟨v4, (), rfl, by rw [← ho], ht⟩, hS.F ht⟩) hS.2.2 dX5_longBitsOf_96
      · have h := (if_neg c0).symm.trans h
        refine lv_lload hx hb dX5_longBitsOf_62 (lv_at hl 2 rfl) ?_
        refine lv_dload hx hb dX5_longBitsOf_64 (lv_at hl 0 rfl) ?_
        refine lv_ldc2d (v := 4841369599423283200) hx hb hown (hta _ kc_X5_50) dX5_longBitsOf_66 ?_
        obtain ⟨hc, h⟩ := gc_some h
        refine lv_dmul hx hb dX5_longBitsOf_69 (n64_n hc) ?_
        refine lv_d2l hx hb dX5_longBitsOf_70 ?_
        refine lv_lor hx hb dX5_longBitsOf_71 ?_
        refine lv_topl (fun v5 e_v5 => ?_)
        have h := gl_use e_v5 h
        have ho := Option.some.inj h
        rw [hQ]
        exact W.lret (v := v5) hx hb hr (fun t ht hW => ⟨⟨v5, (), rfl, by rw [← ho], ht⟩, hS.F ht⟩) hS.2.2 dX5_longBitsOf_72
    · have h := (if_pos c0).symm.trans h
      refine lv_lload hx hb dX5_longBitsOf_35 (lv_at hl 0 rfl) ?_
      have ho := Option.some.inj h
      rw [hQ]
      exact W.lret (v := s0_27) hx hb hr (fun t ht hW => ⟨⟨s0_27, (), rfl, by rw [← ho], ht⟩, hS.F ht⟩) hS.2.2 dX5_longBitsOf_37
  have wB_15 : ∀ (x2_15 : Int32) (s0_15 : UInt64) (locs : List Loc) (ls : Array Slot), g_X5_longBitsOf_b15 x2_15 s0_15 = some o → va_S A s.heap s.heap locs → lv_has ls 10 [(2, .int x2_15)] → W p l e ({ frames := 1, cells := 0, slots := 0, locals := 25 } : Room) s m [.double p1].toArray below meth c s.heap locs 0 0 Q (F0 m 15 ls [.double s0_15]) := by
    intro x2_15 s0_15 locs ls h hS hl
    unfold g_X5_longBitsOf_b15 at h
    refine lv_dstore_n (lv' := [(3, .double s0_15), (2, .int x2_15)]) hx hb dX5_longBitsOf_15 rfl hl (by decide) rfl (fun ls hl => ?_)
    refine lv_iload_n hx hb dX5_longBitsOf_16 rfl (lv_at hl 1 rfl) ?_
    refine lv_if_eq (tgt := 26) hx hb dX5_longBitsOf_17 (by decide) (fun c0 => ?_) (fun c0 => ?_)
    · have h := (if_pos c0).symm.trans h
      refine lv_lconst (v := 0) hx hb dX5_longBitsOf_26 (by decide) ?_
      exact wB_27 s0_15 0 _ _ h hS (lv_sub hl [0] rfl)
    · have h := (if_neg c0).symm.trans h
      refine lv_ldc2 (v := -9223372036854775808) hx hb hown (hta _ kc_X5_48) dX5_longBitsOf_20 ?_
      refine lv_goto (tgt := 27) hx hb dX5_longBitsOf_23 (by decide) ?_
      exact wB_27 s0_15 (-9223372036854775808 : Int64) _ _ h hS (lv_sub hl [0] rfl)
  unfold g_X5_longBitsOf at h
  refine lv_dload_n hx hb dX5_longBitsOf_0 rfl (lv_at hl 0 rfl) ?_
  obtain ⟨r1, hq, h⟩ := gb_some h
  refine crI (va_runS (As := [.double p1]) (rest := []) ⟨hx, hb, hml, hown, hta⟩ (c_X5_isNegative l dC dI cT hq) (cS hta lm_X5_33 md_X5_isNegative ⟨(Nat.le_of_ble_eq_true rfl), (Nat.le_of_ble_eq_true rfl)⟩) ⟨fbK, fun U hU hW => ⟨rfl, hU, va_K.moved hW.alike hK⟩⟩ rfl rfl hl.1 rfl (lv_room (Nat.le_of_ble_eq_true rfl)) dX5_longBitsOf_1 ⟨(Nat.le_of_ble_eq_true rfl), (Nat.le_of_ble_eq_true rfl)⟩) hS hA (fun locs hS => ?_)
  refine lv_istore_n (lv' := [(2, .int r1), (0, .double p1)]) hx hb dX5_longBitsOf_4 rfl hl (by decide) rfl (fun ls hl => ?_)
  refine lv_iload_n hx hb dX5_longBitsOf_5 rfl (lv_at hl 0 rfl) ?_
  refine lv_if_eq (tgt := 14) hx hb dX5_longBitsOf_6 (by decide) (fun c0 => ?_) (fun c0 => ?_)
  · have h := (if_pos c0).symm.trans h
    refine lv_dload_n hx hb dX5_longBitsOf_14 rfl (lv_at hl 1 rfl) ?_
    exact wB_15 r1 p1 _ _ h hS (lv_sub hl [0] rfl)
  · have h := (if_neg c0).symm.trans h
    refine lv_dload_n hx hb dX5_longBitsOf_9 rfl (lv_at hl 1 rfl) ?_
    refine lv_dneg hx hb dX5_longBitsOf_10 ?_
    refine lv_goto (tgt := 15) hx hb dX5_longBitsOf_11 (by decide) ?_
    exact wB_15 r1 (FP.dneg p1) _ _ h hS (lv_sub hl [0] rfl)
