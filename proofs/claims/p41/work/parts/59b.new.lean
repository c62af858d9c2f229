/-! constructors (gen/news.py) -/
def nw_X1_init (cT : Nat → ClassId) (a_t : Nat) (u : Nat → Nat) : va_W := [(a_t, .inr (5, [.ref (u 0), .ref (u 1)])), ((u 0), .inl (cT 0, 6, .inl (fun _ => 0))), ((u 1), .inl (cT 4, 6, .inr (.inr (.inl (fun _ => 0)))))]
set_option maxHeartbeats 4000000 in
set_option maxRecDepth 100000 in
theorem c_X1_init (l : Launch) (dC : Nat → ClassId) (dI : Nat → Nat → Nat) (cT : Nat → ClassId) {Hh : Heap} {a_t : Nat} (hP0 : va_P (dC, dI) vwCl [(a_t, .inr (5, [.null, .null]))] Hh) (hD0 : va_D (fun _ => True) [(a_t, .inr (5, [.null, .null]))]) : Met l yX1_init (wA yX1_init cX1_init 1 none) ({ frames := 1, cells := 2, slots := 12, locals := 22 } : Room) (PN dC dI cT [.ref a_t] Hh) (QN dC dI (nw_X1_init cT a_t) (va_A [(a_t, .inr (5, [.null, .null]))] Hh.size)) 2 12 (va_A [(a_t, .inr (5, [.null, .null]))] Hh.size) := by
  refine Met.ofW (cc := cX1_init) (maxL := 1) (ret := none) (by decide) rfl ?_
  intro p e s m args below meth c s₁ B hml hv
  obtain ⟨rfl, hH, hK, hN⟩ := hv
  subst hH
  have hx := B.exec
  have hb := B.bytes
  have hr := B.returns
  have hta : ∀ w ∈ ALLW, w.before [.ref a_t].toArray s = true := fun w hw => atoms_spec (ws := wA yX1_init cX1_init 1 none) B.pre w (List.mem_cons_of_mem _ hw)
  have hown : s.vm.findClass RX1 = some m.cls := findClass_of_methodNamed B.named
  have hlocks := B.notSynchronized
  have hin : meth.name = "<init>" := (name_of_methodNamed B.named B.method).1
  have hD := hD0.self (sz := s.heap.size)
  generalize hAe : va_A [(a_t, .inr (5, [.null, .null]))] s.heap.size = A at hD ⊢
  have hP := hP0
  have hA : ∀ q : Nat, s.heap.size ≤ q → A q := fun q h => by rw [← hAe]; exact Or.inr h
  have hS : va_S A s.heap s.heap [] := va_S.rf
  have hl := lv_entry [.ref a_t] (n := 1) (Nat.le_of_ble_eq_true rfl)
  rw [lg_entry_eq]
  generalize (lg_sl [.ref a_t] ++ List.replicate (1 - (lg_sl [.ref a_t]).length) Slot.unset).toArray = ls at hl ⊢
  have hl : lv_has ls 1 [(0, .ref a_t)] := hl
  refine lv_aload_n hx hb dX1_init_0 rfl (lv_at hl 0 rfl) ?_
  refine W.objInit hx hb hown (hta _ lm_X1_3) (hta _ oi_i) (hta _ oi_c) rfl (by rw [hml]; exact hl.1) rfl dX1_init_1 (Nat.le_of_ble_eq_true rfl) (Nat.le_of_ble_eq_true rfl) ?_
  refine W.eq (g2 := F0 m 4 ls []) rfl ?_
  refine lv_aload_n hx hb dX1_init_4 rfl (lv_at hl 0 rfl) ?_
  refine lv_bipush (v := 6) hx hb dX1_init_5 (by decide) ?_
  refine va_newaT (ty := .int) (a0 := (6, .inl (fun _ => 0))) hx hb (hta _ ac_int) rfl (fun _ h9 => by cases h9) 0 rfl hK hP hD hS hA (fun _ => rfl) (by decide) rfl (Nat.le_of_ble_eq_true rfl) (Nat.le_of_ble_eq_true rfl) (Nat.le_of_ble_eq_true rfl) dX1_init_7 (fun q7 H hP hD hS => ?_)
  have hP : va_P (dC, dI) vwCl [(a_t, .inr (5, [.null, .null])), (q7, .inl (cT 0, 6, .inl (fun _ => 0)))] H := hP
  have hD : va_D A [(a_t, .inr (5, [.null, .null])), (q7, .inl (cT 0, 6, .inl (fun _ => 0)))] := hD
  refine va_putF (D := (dC, dI)) (ci := 5) (v := .ref q7) (ty := (.array .int)) (C := RX1) (T := TX1) (N := 2) hx hb hta inX1w tyX1 tyX1_ok nmX1 hown hK hP hD hS 0 rfl rfl 0 (by decide) (hta _ lk_X1_9) (fun _ h9 => h9) rfl hin rfl (by decide +kernel) rfl rfl (Nat.le_of_ble_eq_true rfl) dX1_init_9 (fun H locs hP hD hS => ?_)
  have hP : va_P (dC, dI) vwCl [(a_t, .inr (5, [.ref q7, .null])), (q7, .inl (cT 0, 6, .inl (fun _ => 0)))] H := hP
  have hD : va_D A [(a_t, .inr (5, [.ref q7, .null])), (q7, .inl (cT 0, 6, .inl (fun _ => 0)))] := hD
  refine lv_aload_n hx hb dX1_init_12 rfl (lv_at hl 0 rfl) ?_
  refine lv_bipush (v := 6) hx hb dX1_init_13 (by decide) ?_
  refine va_newaT (ty := .float) (a0 := (6, .inr (.inr (.inl (fun _ => 0))))) hx hb (hta _ ac_float) rfl (fun _ h9 => by cases h9) 4 rfl hK hP hD hS hA (fun _ => rfl) (by decide) rfl (Nat.le_of_ble_eq_true rfl) (Nat.le_of_ble_eq_true rfl) (Nat.le_of_ble_eq_true rfl) dX1_init_15 (fun q15 H hP hD hS => ?_)
  have hP : va_P (dC, dI) vwCl [(a_t, .inr (5, [.ref q7, .null])), (q7, .inl (cT 0, 6, .inl (fun _ => 0))), (q15, .inl (cT 4, 6, .inr (.inr (.inl (fun _ => 0)))))] H := hP
  have hD : va_D A [(a_t, .inr (5, [.ref q7, .null])), (q7, .inl (cT 0, 6, .inl (fun _ => 0))), (q15, .inl (cT 4, 6, .inr (.inr (.inl (fun _ => 0)))))] := hD
  refine va_putF (D := (dC, dI)) (ci := 5) (v := .ref q15) (ty := (.array .float)) (C := RX1) (T := TX1) (N := 2) hx hb hta inX1w tyX1 tyX1_ok nmX1 hown hK hP hD hS 0 rfl rfl 1 (by decide) (hta _ lk_X1_15) (fun _ h9 => h9) rfl hin rfl (by decide +kernel) rfl rfl (Nat.le_of_ble_eq_true rfl) dX1_init_17 (fun H locs hP hD hS => ?_)
  have hP : va_P (dC, dI) vwCl [(a_t, .inr (5, [.ref q7, .ref q15])), (q7, .inl (cT 0, 6, .inl (fun _ => 0))), (q15, .inl (cT 4, 6, .inr (.inr (.inl (fun _ => 0)))))] H := hP
  have hD : va_D A [(a_t, .inr (5, [.ref q7, .ref q15])), (q7, .inl (cT 0, 6, .inl (fun _ => 0))), (q15, .inl (cT 4, 6, .inr (.inr (.inl (fun _ => 0)))))] := hD
  refine W.widen (k := 2) (n := 12) (Nat.le_of_ble_eq_true rfl) (Nat.le_of_ble_eq_true rfl) ?_
  exact W.vret hx hb hr (fun t ht hW => ⟨⟨fun i => [q7, q15].getD i 0, rfl, trivial, by rw [ht]; exact hP, hD⟩, hS.F ht⟩) hS.2.2 dX1_init_20
def nw_X3_init (cT : Nat → ClassId) (a_t : Nat) (u : Nat → Nat) : va_W := [(a_t, .inr (7, [.ref (u 0), .ref (u 1), .ref (u 2)])), ((u 0), .inl (cT 1, 24, .inl (fun _ => 0))), ((u 1), .inl (cT 0, 24, .inl (fun _ => 0))), ((u 2), .inl (cT 4, 24, .inr (.inr (.inl (fun _ => 0)))))]
set_option maxHeartbeats 4000000 in
set_option maxRecDepth 100000 in
theorem c_X3_init (l : Launch) (dC : Nat → ClassId) (dI : Nat → Nat → Nat) (cT : Nat → ClassId) {Hh : Heap} {a_t : Nat} (hP0 : va_P (dC, dI) vwCl [(a_t, .inr (7, [.null, .null, .null]))] Hh) (hD0 : va_D (fun _ => True) [(a_t, .inr (7, [.null, .null, .null]))]) : Met l yX3_init (wA yX3_init cX3_init 1 none) ({ frames := 1, cells := 3, slots := 72, locals := 22 } : Room) (PN dC dI cT [.ref a_t] Hh) (QN dC dI (nw_X3_init cT a_t) (va_A [(a_t, .inr (7, [.null, .null, .null]))] Hh.size)) 3 72 (va_A [(a_t, .inr (7, [.null, .null, .null]))] Hh.size) := by
  refine Met.ofW (cc := cX3_init) (maxL := 1) (ret := none) (by decide) rfl ?_
  intro p e s m args below meth c s₁ B hml hv
  obtain ⟨rfl, hH, hK, hN⟩ := hv
  subst hH
  have hx := B.exec
  have hb := B.bytes
  have hr := B.returns
  have hta : ∀ w ∈ ALLW, w.before [.ref a_t].toArray s = true := fun w hw => atoms_spec (ws := wA yX3_init cX3_init 1 none) B.pre w (List.mem_cons_of_mem _ hw)
  have hown : s.vm.findClass RX3 = some m.cls := findClass_of_methodNamed B.named
  have hlocks := B.notSynchronized
  have hin : meth.name = "<init>" := (name_of_methodNamed B.named B.method).1
  have hD := hD0.self (sz := s.heap.size)
  generalize hAe : va_A [(a_t, .inr (7, [.null, .null, .null]))] s.heap.size = A at hD ⊢
  have hP := hP0
  have hA : ∀ q : Nat, s.heap.size ≤ q → A q := fun q h => by rw [← hAe]; exact Or.inr h
  have hS : va_S A s.heap s.heap [] := va_S.rf
  have hl := lv_entry [.ref a_t] (n := 1) (Nat.le_of_ble_eq_true rfl)
  rw [lg_entry_eq]
  generalize (lg_sl [.ref a_t] ++ List.replicate (1 - (lg_sl [.ref a_t]).length) Slot.unset).toArray = ls at hl ⊢
  have hl : lv_has ls 1 [(0, .ref a_t)] := hl
  refine lv_aload_n hx hb dX3_init_0 rfl (lv_at hl 0 rfl) ?_
  refine W.objInit hx hb hown (hta _ lm_X3_3) (hta _ oi_i) (hta _ oi_c) rfl (by rw [hml]; exact hl.1) rfl dX3_init_1 (Nat.le_of_ble_eq_true rfl) (Nat.le_of_ble_eq_true rfl) ?_
  refine W.eq (g2 := F0 m 4 ls []) rfl ?_
  refine lv_aload_n hx hb dX3_init_4 rfl (lv_at hl 0 rfl) ?_
  refine lv_bipush (v := 24) hx hb dX3_init_5 (by decide) ?_
  refine va_newaT (ty := .boolean) (a0 := (24, .inl (fun _ => 0))) hx hb (hta _ ac_boolean) rfl (fun _ h9 => by cases h9) 1 rfl hK hP hD hS hA (fun _ => rfl) (by decide) rfl (Nat.le_of_ble_eq_true rfl) (Nat.le_of_ble_eq_true rfl) (Nat.le_of_ble_eq_true rfl) dX3_init_7 (fun q7 H hP hD hS => ?_)
  have hP : va_P (dC, dI) vwCl [(a_t, .inr (7, [.null, .null, .null])), (q7, .inl (cT 1, 24, .inl (fun _ => 0)))] H := hP
  have hD : va_D A [(a_t, .inr (7, [.null, .null, .null])), (q7, .inl (cT 1, 24, .inl (fun _ => 0)))] := hD
  refine va_putF (D := (dC, dI)) (ci := 7) (v := .ref q7) (ty := (.array .boolean)) (C := RX3) (T := TX3) (N := 3) hx hb hta inX3w tyX3 tyX3_ok nmX3 hown hK hP hD hS 0 rfl rfl 0 (by decide) (hta _ lk_X3_9) (fun _ h9 => h9) rfl hin rfl (by decide +kernel) rfl rfl (Nat.le_of_ble_eq_true rfl) dX3_init_9 (fun H locs hP hD hS => ?_)
  have hP : va_P (dC, dI) vwCl [(a_t, .inr (7, [.ref q7, .null, .null])), (q7, .inl (cT 1, 24, .inl (fun _ => 0)))] H := hP
  have hD : va_D A [(a_t, .inr (7, [.ref q7, .null, .null])), (q7, .inl (cT 1, 24, .inl (fun _ => 0)))] := hD
  refine lv_aload_n hx hb dX3_init_12 rfl (lv_at hl 0 rfl) ?_
  refine lv_bipush (v := 24) hx hb dX3_init_13 (by decide) ?_
  refine va_newaT (ty := .int) (a0 := (24, .inl (fun _ => 0))) hx hb (hta _ ac_int) rfl (fun _ h9 => by cases h9) 0 rfl hK hP hD hS hA (fun _ => rfl) (by decide) rfl (Nat.le_of_ble_eq_true rfl) (Nat.le_of_ble_eq_true rfl) (Nat.le_of_ble_eq_true rfl) dX3_init_15 (fun q15 H hP hD hS => ?_)
  have hP : va_P (dC, dI) vwCl [(a_t, .inr (7, [.ref q7, .null, .null])), (q7, .inl (cT 1, 24, .inl (fun _ => 0))), (q15, .inl (cT 0, 24, .inl (fun _ => 0)))] H := hP
  have hD : va_D A [(a_t, .inr (7, [.ref q7, .null, .null])), (q7, .inl (cT 1, 24, .inl (fun _ => 0))), (q15, .inl (cT 0, 24, .inl (fun _ => 0)))] := hD
  refine va_putF (D := (dC, dI)) (ci := 7) (v := .ref q15) (ty := (.array .int)) (C := RX3) (T := TX3) (N := 3) hx hb hta inX3w tyX3 tyX3_ok nmX3 hown hK hP hD hS 0 rfl rfl 1 (by decide) (hta _ lk_X3_15) (fun _ h9 => h9) rfl hin rfl (by decide +kernel) rfl rfl (Nat.le_of_ble_eq_true rfl) dX3_init_17 (fun H locs hP hD hS => ?_)
  have hP : va_P (dC, dI) vwCl [(a_t, .inr (7, [.ref q7, .ref q15, .null])), (q7, .inl (cT 1, 24, .inl (fun _ => 0))), (q15, .inl (cT 0, 24, .inl (fun _ => 0)))] H := hP
  have hD : va_D A [(a_t, .inr (7, [.ref q7, .ref q15, .null])), (q7, .inl (cT 1, 24, .inl (fun _ => 0))), (q15, .inl (cT 0, 24, .inl (fun _ => 0)))] := hD
  refine lv_aload_n hx hb dX3_init_20 rfl (lv_at hl 0 rfl) ?_
  refine lv_bipush (v := 24) hx hb dX3_init_21 (by decide) ?_
  refine va_newaT (ty := .float) (a0 := (24, .inr (.inr (.inl (fun _ => 0))))) hx hb (hta _ ac_float) rfl (fun _ h9 => by cases h9) 4 rfl hK hP hD hS hA (fun _ => rfl) (by decide) rfl (Nat.le_of_ble_eq_true rfl) (Nat.le_of_ble_eq_true rfl) (Nat.le_of_ble_eq_true rfl) dX3_init_23 (fun q23 H hP hD hS => ?_)
  have hP : va_P (dC, dI) vwCl [(a_t, .inr (7, [.ref q7, .ref q15, .null])), (q7, .inl (cT 1, 24, .inl (fun _ => 0))), (q15, .inl (cT 0, 24, .inl (fun _ => 0))), (q23, .inl (cT 4, 24, .inr (.inr (.inl (fun _ => 0)))))] H := hP
  have hD : va_D A [(a_t, .inr (7, [.ref q7, .ref q15, .null])), (q7, .inl (cT 1, 24, .inl (fun _ => 0))), (q15, .inl (cT 0, 24, .inl (fun _ => 0))), (q23, .inl (cT 4, 24, .inr (.inr (.inl (fun _ => 0)))))] := hD
  refine va_putF (D := (dC, dI)) (ci := 7) (v := .ref q23) (ty := (.array .float)) (C := RX3) (T := TX3) (N := 3) hx hb hta inX3w tyX3 tyX3_ok nmX3 hown hK hP hD hS 0 rfl rfl 2 (by decide) (hta _ lk_X3_19) (fun _ h9 => h9) rfl hin rfl (by decide +kernel) rfl rfl (Nat.le_of_ble_eq_true rfl) dX3_init_25 (fun H locs hP hD hS => ?_)
  have hP : va_P (dC, dI) vwCl [(a_t, .inr (7, [.ref q7, .ref q15, .ref q23])), (q7, .inl (cT 1, 24, .inl (fun _ => 0))), (q15, .inl (cT 0, 24, .inl (fun _ => 0))), (q23, .inl (cT 4, 24, .inr (.inr (.inl (fun _ => 0)))))] H := hP
  have hD : va_D A [(a_t, .inr (7, [.ref q7, .ref q15, .ref q23])), (q7, .inl (cT 1, 24, .inl (fun _ => 0))), (q15, .inl (cT 0, 24, .inl (fun _ => 0))), (q23, .inl (cT 4, 24, .inr (.inr (.inl (fun _ => 0)))))] := hD
  refine W.widen (k := 3) (n := 72) (Nat.le_of_ble_eq_true rfl) (Nat.le_of_ble_eq_true rfl) ?_
  exact W.vret hx hb hr (fun t ht hW => ⟨⟨fun i => [q7, q15, q23].getD i 0, rfl, trivial, by rw [ht]; exact hP, hD⟩, hS.F ht⟩) hS.2.2 dX3_init_28
def nw_X6_init (cT : Nat → ClassId) (a_t : Nat) (u : Nat → Nat) : va_W := [(a_t, .inr (9, [.int 0, .int 0, .int 0, .ref (u 0), .ref (u 1), .ref (u 2), .ref (u 3), .ref (u 4), .ref (u 5), .int 0, .int 0, .int 0])), ((u 0), .inl (cT 2, 24, .inl (fun _ => 0))), ((u 1), .inl (cT 0, 24, .inl (fun _ => 0))), ((u 2), .inl (cT 0, 24, .inl (fun _ => 0))), ((u 3), .inl (cT 0, 24, .inl (fun _ => 0))), ((u 4), .inl (cT 0, 24, .inl (fun _ => 0))), ((u 5), .inl (cT 0, 5, .inl (fun _ => 0)))]
set_option maxHeartbeats 4000000 in
set_option maxRecDepth 100000 in
theorem c_X6_init (l : Launch) (dC : Nat → ClassId) (dI : Nat → Nat → Nat) (cT : Nat → ClassId) {Hh : Heap} {a_t : Nat} (hP0 : va_P (dC, dI) vwCl [(a_t, .inr (9, [.int 0, .int 0, .int 0, .null, .null, .null, .null, .null, .null, .int 0, .int 0, .int 0]))] Hh) (hD0 : va_D (fun _ => True) [(a_t, .inr (9, [.int 0, .int 0, .int 0, .null, .null, .null, .null, .null, .null, .int 0, .int 0, .int 0]))]) : Met l yX6_init (wA yX6_init cX6_init 1 none) ({ frames := 1, cells := 6, slots := 125, locals := 22 } : Room) (PN dC dI cT [.ref a_t] Hh) (QN dC dI (nw_X6_init cT a_t) (va_A [(a_t, .inr (9, [.int 0, .int 0, .int 0, .null, .null, .null, .null, .null, .null, .int 0, .int 0, .int 0]))] Hh.size)) 6 125 (va_A [(a_t, .inr (9, [.int 0, .int 0, .int 0, .null, .null, .null, .null, .null, .null, .int 0, .int 0, .int 0]))] Hh.size) := by
  refine Met.ofW (cc := cX6_init) (maxL := 1) (ret := none) (by decide) rfl ?_
  intro p e s m args below meth c s₁ B hml hv
  obtain ⟨rfl, hH, hK, hN⟩ := hv
  subst hH
  have hx := B.exec
  have hb := B.bytes
  have hr := B.returns
  have hta : ∀ w ∈ ALLW, w.before [.ref a_t].toArray s = true := fun w hw => atoms_spec (ws := wA yX6_init cX6_init 1 none) B.pre w (List.mem_cons_of_mem _ hw)
  have hown : s.vm.findClass RX6 = some m.cls := findClass_of_methodNamed B.named
  have hlocks := B.notSynchronized
  have hin : meth.name = "<init>" := (name_of_methodNamed B.named B.method).1
  have hD := hD0.self (sz := s.heap.size)
  generalize hAe : va_A [(a_t, .inr (9, [.int 0, .int 0, .int 0, .null, .null, .null, .null, .null, .null, .int 0, .int 0, .int 0]))] s.heap.size = A at hD ⊢
  have hP := hP0
  have hA : ∀ q : Nat, s.heap.size ≤ q → A q := fun q h => by rw [← hAe]; exact Or.inr h
  have hS : va_S A s.heap s.heap [] := va_S.rf
  have hl := lv_entry [.ref a_t] (n := 1) (Nat.le_of_ble_eq_true rfl)
  rw [lg_entry_eq]
  generalize (lg_sl [.ref a_t] ++ List.replicate (1 - (lg_sl [.ref a_t]).length) Slot.unset).toArray = ls at hl ⊢
  have hl : lv_has ls 1 [(0, .ref a_t)] := hl
  refine lv_aload_n hx hb dX6_init_0 rfl (lv_at hl 0 rfl) ?_
  refine W.objInit hx hb hown (hta _ lm_X6_3) (hta _ oi_i) (hta _ oi_c) rfl (by rw [hml]; exact hl.1) rfl dX6_init_1 (Nat.le_of_ble_eq_true rfl) (Nat.le_of_ble_eq_true rfl) ?_
  refine W.eq (g2 := F0 m 4 ls []) rfl ?_
  refine lv_aload_n hx hb dX6_init_4 rfl (lv_at hl 0 rfl) ?_
  refine lv_bipush (v := 24) hx hb dX6_init_5 (by decide) ?_
  refine va_newaT (ty := .char) (a0 := (24, .inl (fun _ => 0))) hx hb (hta _ ac_char) rfl (fun _ h9 => by cases h9) 2 rfl hK hP hD hS hA (fun _ => rfl) (by decide) rfl (Nat.le_of_ble_eq_true rfl) (Nat.le_of_ble_eq_true rfl) (Nat.le_of_ble_eq_true rfl) dX6_init_7 (fun q7 H hP hD hS => ?_)
  have hP : va_P (dC, dI) vwCl [(a_t, .inr (9, [.int 0, .int 0, .int 0, .null, .null, .null, .null, .null, .null, .int 0, .int 0, .int 0])), (q7, .inl (cT 2, 24, .inl (fun _ => 0)))] H := hP
  have hD : va_D A [(a_t, .inr (9, [.int 0, .int 0, .int 0, .null, .null, .null, .null, .null, .null, .int 0, .int 0, .int 0])), (q7, .inl (cT 2, 24, .inl (fun _ => 0)))] := hD
  refine va_putF (D := (dC, dI)) (ci := 9) (v := .ref q7) (ty := (.array .char)) (C := RX6) (T := TX6) (N := 12) hx hb hta inX6w tyX6 tyX6_ok nmX6 hown hK hP hD hS 0 rfl rfl 3 (by decide) (hta _ lk_X6_9) (fun _ h9 => h9) rfl hin rfl (by decide +kernel) rfl rfl (Nat.le_of_ble_eq_true rfl) dX6_init_9 (fun H locs hP hD hS => ?_)
  have hP : va_P (dC, dI) vwCl [(a_t, .inr (9, [.int 0, .int 0, .int 0, .ref q7, .null, .null, .null, .null, .null, .int 0, .int 0, .int 0])), (q7, .inl (cT 2, 24, .inl (fun _ => 0)))] H := hP
  have hD : va_D A [(a_t, .inr (9, [.int 0, .int 0, .int 0, .ref q7, .null, .null, .null, .null, .null, .int 0, .int 0, .int 0])), (q7, .inl (cT 2, 24, .inl (fun _ => 0)))] := hD
  refine lv_aload_n hx hb dX6_init_12 rfl (lv_at hl 0 rfl) ?_
  refine lv_bipush (v := 24) hx hb dX6_init_13 (by decide) ?_
  refine va_newaT (ty := .int) (a0 := (24, .inl (fun _ => 0))) hx hb (hta _ ac_int) rfl (fun _ h9 => by cases h9) 0 rfl hK hP hD hS hA (fun _ => rfl) (by decide) rfl (Nat.le_of_ble_eq_true rfl) (Nat.le_of_ble_eq_true rfl) (Nat.le_of_ble_eq_true rfl) dX6_init_15 (fun q15 H hP hD hS => ?_)
  have hP : va_P (dC, dI) vwCl [(a_t, .inr (9, [.int 0, .int 0, .int 0, .ref q7, .null, .null, .null, .null, .null, .int 0, .int 0, .int 0])), (q7, .inl (cT 2, 24, .inl (fun _ => 0))), (q15, .inl (cT 0, 24, .inl (fun _ => 0)))] H := hP
  have hD : va_D A [(a_t, .inr (9, [.int 0, .int 0, .int 0, .ref q7, .null, .null, .null, .null, .null, .int 0, .int 0, .int 0])), (q7, .inl (cT 2, 24, .inl (fun _ => 0))), (q15, .inl (cT 0, 24, .inl (fun _ => 0)))] := hD
  refine va_putF (D := (dC, dI)) (ci := 9) (v := .ref q15) (ty := (.array .int)) (C := RX6) (T := TX6) (N := 12) hx hb hta inX6w tyX6 tyX6_ok nmX6 hown hK hP hD hS 0 rfl rfl 4 (by decide) (hta _ lk_X6_15) (fun _ h9 => h9) rfl hin rfl (by decide +kernel) rfl rfl (Nat.le_of_ble_eq_true rfl) dX6_init_17 (fun H locs hP hD hS => ?_)
  have hP : va_P (dC, dI) vwCl [(a_t, .inr (9, [.int 0, .int 0, .int 0, .ref q7, .ref q15, .null, .null, .null, .null, .int 0, .int 0, .int 0])), (q7, .inl (cT 2, 24, .inl (fun _ => 0))), (q15, .inl (cT 0, 24, .inl (fun _ => 0)))] H := hP
  have hD : va_D A [(a_t, .inr (9, [.int 0, .int 0, .int 0, .ref q7, .ref q15, .null, .null, .null, .null, .int 0, .int 0, .int 0])), (q7, .inl (cT 2, 24, .inl (fun _ => 0))), (q15, .inl (cT 0, 24, .inl (fun _ => 0)))] := hD
  refine lv_aload_n hx hb dX6_init_20 rfl (lv_at hl 0 rfl) ?_
  refine lv_bipush (v := 24) hx hb dX6_init_21 (by decide) ?_
  refine va_newaT (ty := .int) (a0 := (24, .inl (fun _ => 0))) hx hb (hta _ ac_int) rfl (fun _ h9 => by cases h9) 0 rfl hK hP hD hS hA (fun _ => rfl) (by decide) rfl (Nat.le_of_ble_eq_true rfl) (Nat.le_of_ble_eq_true rfl) (Nat.le_of_ble_eq_true rfl) dX6_init_23 (fun q23 H hP hD hS => ?_)
  have hP : va_P (dC, dI) vwCl [(a_t, .inr (9, [.int 0, .int 0, .int 0, .ref q7, .ref q15, .null, .null, .null, .null, .int 0, .int 0, .int 0])), (q7, .inl (cT 2, 24, .inl (fun _ => 0))), (q15, .inl (cT 0, 24, .inl (fun _ => 0))), (q23, .inl (cT 0, 24, .inl (fun _ => 0)))] H := hP
  have hD : va_D A [(a_t, .inr (9, [.int 0, .int 0, .int 0, .ref q7, .ref q15, .null, .null, .null, .null, .int 0, .int 0, .int 0])), (q7, .inl (cT 2, 24, .inl (fun _ => 0))), (q15, .inl (cT 0, 24, .inl (fun _ => 0))), (q23, .inl (cT 0, 24, .inl (fun _ => 0)))] := hD
  refine va_putF (D := (dC, dI)) (ci := 9) (v := .ref q23) (ty := (.array .int)) (C := RX6) (T := TX6) (N := 12) hx hb hta inX6w tyX6 tyX6_ok nmX6 hown hK hP hD hS 0 rfl rfl 5 (by decide) (hta _ lk_X6_19) (fun _ h9 => h9) rfl hin rfl (by decide +kernel) rfl rfl (Nat.le_of_ble_eq_true rfl) dX6_init_25 (fun H locs hP hD hS => ?_)
  have hP : va_P (dC, dI) vwCl [(a_t, .inr (9, [.int 0, .int 0, .int 0, .ref q7, .ref q15, .ref q23, .null, .null, .null, .int 0, .int 0, .int 0])), (q7, .inl (cT 2, 24, .inl (fun _ => 0))), (q15, .inl (cT 0, 24, .inl (fun _ => 0))), (q23, .inl (cT 0, 24, .inl (fun _ => 0)))] H := hP
  have hD : va_D A [(a_t, .inr (9, [.int 0, .int 0, .int 0, .ref q7, .ref q15, .ref q23, .null, .null, .null, .int 0, .int 0, .int 0])), (q7, .inl (cT 2, 24, .inl (fun _ => 0))), (q15, .inl (cT 0, 24, .inl (fun _ => 0))), (q23, .inl (cT 0, 24, .inl (fun _ => 0)))] := hD
  refine lv_aload_n hx hb dX6_init_28 rfl (lv_at hl 0 rfl) ?_
  refine lv_bipush (v := 24) hx hb dX6_init_29 (by decide) ?_
  refine va_newaT (ty := .int) (a0 := (24, .inl (fun _ => 0))) hx hb (hta _ ac_int) rfl (fun _ h9 => by cases h9) 0 rfl hK hP hD hS hA (fun _ => rfl) (by decide) rfl (Nat.le_of_ble_eq_true rfl) (Nat.le_of_ble_eq_true rfl) (Nat.le_of_ble_eq_true rfl) dX6_init_31 (fun q31 H hP hD hS => ?_)
  have hP : va_P (dC, dI) vwCl [(a_t, .inr (9, [.int 0, .int 0, .int 0, .ref q7, .ref q15, .ref q23, .null, .null, .null, .int 0, .int 0, .int 0])), (q7, .inl (cT 2, 24, .inl (fun _ => 0))), (q15, .inl (cT 0, 24, .inl (fun _ => 0))), (q23, .inl (cT 0, 24, .inl (fun _ => 0))), (q31, .inl (cT 0, 24, .inl (fun _ => 0)))] H := hP
  have hD : va_D A [(a_t, .inr (9, [.int 0, .int 0, .int 0, .ref q7, .ref q15, .ref q23, .null, .null, .null, .int 0, .int 0, .int 0])), (q7, .inl (cT 2, 24, .inl (fun _ => 0))), (q15, .inl (cT 0, 24, .inl (fun _ => 0))), (q23, .inl (cT 0, 24, .inl (fun _ => 0))), (q31, .inl (cT 0, 24, .inl (fun _ => 0)))] := hD
  refine va_putF (D := (dC, dI)) (ci := 9) (v := .ref q31) (ty := (.array .int)) (C := RX6) (T := TX6) (N := 12) hx hb hta inX6w tyX6 tyX6_ok nmX6 hown hK hP hD hS 0 rfl rfl 6 (by decide) (hta _ lk_X6_22) (fun _ h9 => h9) rfl hin rfl (by decide +kernel) rfl rfl (Nat.le_of_ble_eq_true rfl) dX6_init_33 (fun H locs hP hD hS => ?_)
  have hP : va_P (dC, dI) vwCl [(a_t, .inr (9, [.int 0, .int 0, .int 0, .ref q7, .ref q15, .ref q23, .ref q31, .null, .null, .int 0, .int 0, .int 0])), (q7, .inl (cT 2, 24, .inl (fun _ => 0))), (q15, .inl (cT 0, 24, .inl (fun _ => 0))), (q23, .inl (cT 0, 24, .inl (fun _ => 0))), (q31, .inl (cT 0, 24, .inl (fun _ => 0)))] H := hP
  have hD : va_D A [(a_t, .inr (9, [.int 0, .int 0, .int 0, .ref q7, .ref q15, .ref q23, .ref q31, .null, .null, .int 0, .int 0, .int 0])), (q7, .inl (cT 2, 24, .inl (fun _ => 0))), (q15, .inl (cT 0, 24, .inl (fun _ => 0))), (q23, .inl (cT 0, 24, .inl (fun _ => 0))), (q31, .inl (cT 0, 24, .inl (fun _ => 0)))] := hD
  refine lv_aload_n hx hb dX6_init_36 rfl (lv_at hl 0 rfl) ?_
  refine lv_bipush (v := 24) hx hb dX6_init_37 (by decide) ?_
  refine va_newaT (ty := .int) (a0 := (24, .inl (fun _ => 0))) hx hb (hta _ ac_int) rfl (fun _ h9 => by cases h9) 0 rfl hK hP hD hS hA (fun _ => rfl) (by decide) rfl (Nat.le_of_ble_eq_true rfl) (Nat.le_of_ble_eq_true rfl) (Nat.le_of_ble_eq_true rfl) dX6_init_39 (fun q39 H hP hD hS => ?_)
  have hP : va_P (dC, dI) vwCl [(a_t, .inr (9, [.int 0, .int 0, .int 0, .ref q7, .ref q15, .ref q23, .ref q31, .null, .null, .int 0, .int 0, .int 0])), (q7, .inl (cT 2, 24, .inl (fun _ => 0))), (q15, .inl (cT 0, 24, .inl (fun _ => 0))), (q23, .inl (cT 0, 24, .inl (fun _ => 0))), (q31, .inl (cT 0, 24, .inl (fun _ => 0))), (q39, .inl (cT 0, 24, .inl (fun _ => 0)))] H := hP
  have hD : va_D A [(a_t, .inr (9, [.int 0, .int 0, .int 0, .ref q7, .ref q15, .ref q23, .ref q31, .null, .null, .int 0, .int 0, .int 0])), (q7, .inl (cT 2, 24, .inl (fun _ => 0))), (q15, .inl (cT 0, 24, .inl (fun _ => 0))), (q23, .inl (cT 0, 24, .inl (fun _ => 0))), (q31, .inl (cT 0, 24, .inl (fun _ => 0))), (q39, .inl (cT 0, 24, .inl (fun _ => 0)))] := hD
  refine va_putF (D := (dC, dI)) (ci := 9) (v := .ref q39) (ty := (.array .int)) (C := RX6) (T := TX6) (N := 12) hx hb hta inX6w tyX6 tyX6_ok nmX6 hown hK hP hD hS 0 rfl rfl 7 (by decide) (hta _ lk_X6_25) (fun _ h9 => h9) rfl hin rfl (by decide +kernel) rfl rfl (Nat.le_of_ble_eq_true rfl) dX6_init_41 (fun H locs hP hD hS => ?_)
  have hP : va_P (dC, dI) vwCl [(a_t, .inr (9, [.int 0, .int 0, .int 0, .ref q7, .ref q15, .ref q23, .ref q31, .ref q39, .null, .int 0, .int 0, .int 0])), (q7, .inl (cT 2, 24, .inl (fun _ => 0))), (q15, .inl (cT 0, 24, .inl (fun _ => 0))), (q23, .inl (cT 0, 24, .inl (fun _ => 0))), (q31, .inl (cT 0, 24, .inl (fun _ => 0))), (q39, .inl (cT 0, 24, .inl (fun _ => 0)))] H := hP
  have hD : va_D A [(a_t, .inr (9, [.int 0, .int 0, .int 0, .ref q7, .ref q15, .ref q23, .ref q31, .ref q39, .null, .int 0, .int 0, .int 0])), (q7, .inl (cT 2, 24, .inl (fun _ => 0))), (q15, .inl (cT 0, 24, .inl (fun _ => 0))), (q23, .inl (cT 0, 24, .inl (fun _ => 0))), (q31, .inl (cT 0, 24, .inl (fun _ => 0))), (q39, .inl (cT 0, 24, .inl (fun _ => 0)))] := hD
  refine lv_aload_n hx hb dX6_init_44 rfl (lv_at hl 0 rfl) ?_
  refine lv_iconst (v := 5) hx hb dX6_init_45 (by decide) ?_
  refine va_newaT (ty := .int) (a0 := (5, .inl (fun _ => 0))) hx hb (hta _ ac_int) rfl (fun _ h9 => by cases h9) 0 rfl hK hP hD hS hA (fun _ => rfl) (by decide) rfl (Nat.le_of_ble_eq_true rfl) (Nat.le_of_ble_eq_true rfl) (Nat.le_of_ble_eq_true rfl) dX6_init_46 (fun q46 H hP hD hS => ?_)
  have hP : va_P (dC, dI) vwCl [(a_t, .inr (9, [.int 0, .int 0, .int 0, .ref q7, .ref q15, .ref q23, .ref q31, .ref q39, .null, .int 0, .int 0, .int 0])), (q7, .inl (cT 2, 24, .inl (fun _ => 0))), (q15, .inl (cT 0, 24, .inl (fun _ => 0))), (q23, .inl (cT 0, 24, .inl (fun _ => 0))), (q31, .inl (cT 0, 24, .inl (fun _ => 0))), (q39, .inl (cT 0, 24, .inl (fun _ => 0))), (q46, .inl (cT 0, 5, .inl (fun _ => 0)))] H := hP
  have hD : va_D A [(a_t, .inr (9, [.int 0, .int 0, .int 0, .ref q7, .ref q15, .ref q23, .ref q31, .ref q39, .null, .int 0, .int 0, .int 0])), (q7, .inl (cT 2, 24, .inl (fun _ => 0))), (q15, .inl (cT 0, 24, .inl (fun _ => 0))), (q23, .inl (cT 0, 24, .inl (fun _ => 0))), (q31, .inl (cT 0, 24, .inl (fun _ => 0))), (q39, .inl (cT 0, 24, .inl (fun _ => 0))), (q46, .inl (cT 0, 5, .inl (fun _ => 0)))] := hD
  refine va_putF (D := (dC, dI)) (ci := 9) (v := .ref q46) (ty := (.array .int)) (C := RX6) (T := TX6) (N := 12) hx hb hta inX6w tyX6 tyX6_ok nmX6 hown hK hP hD hS 0 rfl rfl 8 (by decide) (hta _ lk_X6_28) (fun _ h9 => h9) rfl hin rfl (by decide +kernel) rfl rfl (Nat.le_of_ble_eq_true rfl) dX6_init_48 (fun H locs hP hD hS => ?_)
  have hP : va_P (dC, dI) vwCl [(a_t, .inr (9, [.int 0, .int 0, .int 0, .ref q7, .ref q15, .ref q23, .ref q31, .ref q39, .ref q46, .int 0, .int 0, .int 0])), (q7, .inl (cT 2, 24, .inl (fun _ => 0))), (q15, .inl (cT 0, 24, .inl (fun _ => 0))), (q23, .inl (cT 0, 24, .inl (fun _ => 0))), (q31, .inl (cT 0, 24, .inl (fun _ => 0))), (q39, .inl (cT 0, 24, .inl (fun _ => 0))), (q46, .inl (cT 0, 5, .inl (fun _ => 0)))] H := hP
  have hD : va_D A [(a_t, .inr (9, [.int 0, .int 0, .int 0, .ref q7, .ref q15, .ref q23, .ref q31, .ref q39, .ref q46, .int 0, .int 0, .int 0])), (q7, .inl (cT 2, 24, .inl (fun _ => 0))), (q15, .inl (cT 0, 24, .inl (fun _ => 0))), (q23, .inl (cT 0, 24, .inl (fun _ => 0))), (q31, .inl (cT 0, 24, .inl (fun _ => 0))), (q39, .inl (cT 0, 24, .inl (fun _ => 0))), (q46, .inl (cT 0, 5, .inl (fun _ => 0)))] := hD
  refine W.widen (k := 6) (n := 125) (Nat.le_of_ble_eq_true rfl) (Nat.le_of_ble_eq_true rfl) ?_
  exact W.vret hx hb hr (fun t ht hW => ⟨⟨fun i => [q7, q15, q23, q31, q39, q46].getD i 0, rfl, trivial, by rw [ht]; exact hP, hD⟩, hS.F ht⟩) hS.2.2 dX6_init_51
def nw_X7_init (cT : Nat → ClassId) (a_t : Nat) (u : Nat → Nat) : va_W := [(a_t, .inr (10, [.int 0, .int 0, .int 0, .int 0, .int 0, .int 0]))]
set_option maxHeartbeats 4000000 in
set_option maxRecDepth 100000 in
theorem c_X7_init (l : Launch) (dC : Nat → ClassId) (dI : Nat → Nat → Nat) (cT : Nat → ClassId) {Hh : Heap} {a_t : Nat} (hP0 : va_P (dC, dI) vwCl [(a_t, .inr (10, [.int 0, .int 0, .int 0, .int 0, .int 0, .int 0]))] Hh) (hD0 : va_D (fun _ => True) [(a_t, .inr (10, [.int 0, .int 0, .int 0, .int 0, .int 0, .int 0]))]) : Met l yX7_init (wA yX7_init cX7_init 1 none) ({ frames := 1, cells := 0, slots := 0, locals := 22 } : Room) (PN dC dI cT [.ref a_t] Hh) (QN dC dI (nw_X7_init cT a_t) (va_A [(a_t, .inr (10, [.int 0, .int 0, .int 0, .int 0, .int 0, .int 0]))] Hh.size)) 0 0 (va_A [(a_t, .inr (10, [.int 0, .int 0, .int 0, .int 0, .int 0, .int 0]))] Hh.size) := by
  refine Met.ofW (cc := cX7_init) (maxL := 1) (ret := none) (by decide) rfl ?_
  intro p e s m args below meth c s₁ B hml hv
  obtain ⟨rfl, hH, hK, hN⟩ := hv
  subst hH
  have hx := B.exec
  have hb := B.bytes
  have hr := B.returns
  have hta : ∀ w ∈ ALLW, w.before [.ref a_t].toArray s = true := fun w hw => atoms_spec (ws := wA yX7_init cX7_init 1 none) B.pre w (List.mem_cons_of_mem _ hw)
  have hown : s.vm.findClass RX7 = some m.cls := findClass_of_methodNamed B.named
  have hlocks := B.notSynchronized
  have hin : meth.name = "<init>" := (name_of_methodNamed B.named B.method).1
  have hD := hD0.self (sz := s.heap.size)
  generalize hAe : va_A [(a_t, .inr (10, [.int 0, .int 0, .int 0, .int 0, .int 0, .int 0]))] s.heap.size = A at hD ⊢
  have hP := hP0
  have hA : ∀ q : Nat, s.heap.size ≤ q → A q := fun q h => by rw [← hAe]; exact Or.inr h
  have hS : va_S A s.heap s.heap [] := va_S.rf
  have hl := lv_entry [.ref a_t] (n := 1) (Nat.le_of_ble_eq_true rfl)
  rw [lg_entry_eq]
  generalize (lg_sl [.ref a_t] ++ List.replicate (1 - (lg_sl [.ref a_t]).length) Slot.unset).toArray = ls at hl ⊢
  have hl : lv_has ls 1 [(0, .ref a_t)] := hl
  refine lv_aload_n hx hb dX7_init_0 rfl (lv_at hl 0 rfl) ?_
  refine W.objInit hx hb hown (hta _ lm_X7_1) (hta _ oi_i) (hta _ oi_c) rfl (by rw [hml]; exact hl.1) rfl dX7_init_1 (Nat.le_of_ble_eq_true rfl) (Nat.le_of_ble_eq_true rfl) ?_
  refine W.eq (g2 := F0 m 4 ls []) rfl ?_
  refine W.widen (k := 0) (n := 0) (Nat.le_of_ble_eq_true rfl) (Nat.le_of_ble_eq_true rfl) ?_
  exact W.vret hx hb hr (fun t ht hW => ⟨⟨fun i => [].getD i 0, rfl, trivial, by rw [ht]; exact hP, hD⟩, hS.F ht⟩) hS.2.2 dX7_init_4
def nw_X9_init (cT : Nat → ClassId) (a_t : Nat) (u : Nat → Nat) : va_W := [(a_t, .inr (12, [.int 0, .int 0, .ref (u 0), .ref (u 1), .ref (u 2), .ref (u 3), .ref (u 4), .ref (u 5), .int 0])), ((u 0), .inl (cT 1, 24, .inl (fun _ => 0))), ((u 1), .inl (cT 3, 24, .inr (.inl (fun _ => 0)))), ((u 2), .inl (cT 3, 24, .inr (.inl (fun _ => 0)))), ((u 3), .inl (cT 1, 5, .inl (fun _ => 0))), ((u 4), .inl (cT 3, 5, .inr (.inl (fun _ => 0)))), ((u 5), .inl (cT 3, 5, .inr (.inl (fun _ => 0))))]
set_option maxHeartbeats 4000000 in
set_option maxRecDepth 100000 in
theorem c_X9_init (l : Launch) (dC : Nat → ClassId) (dI : Nat → Nat → Nat) (cT : Nat → ClassId) {Hh : Heap} {a_t : Nat} (hP0 : va_P (dC, dI) vwCl [(a_t, .inr (12, [.int 0, .int 0, .null, .null, .null, .null, .null, .null, .int 0]))] Hh) (hD0 : va_D (fun _ => True) [(a_t, .inr (12, [.int 0, .int 0, .null, .null, .null, .null, .null, .null, .int 0]))]) : Met l yX9_init (wA yX9_init cX9_init 1 none) ({ frames := 1, cells := 6, slots := 87, locals := 22 } : Room) (PN dC dI cT [.ref a_t] Hh) (QN dC dI (nw_X9_init cT a_t) (va_A [(a_t, .inr (12, [.int 0, .int 0, .null, .null, .null, .null, .null, .null, .int 0]))] Hh.size)) 6 87 (va_A [(a_t, .inr (12, [.int 0, .int 0, .null, .null, .null, .null, .null, .null, .int 0]))] Hh.size) := by
  refine Met.ofW (cc := cX9_init) (maxL := 1) (ret := none) (by decide) rfl ?_
  intro p e s m args below meth c s₁ B hml hv
  obtain ⟨rfl, hH, hK, hN⟩ := hv
  subst hH
  have hx := B.exec
  have hb := B.bytes
  have hr := B.returns
  have hta : ∀ w ∈ ALLW, w.before [.ref a_t].toArray s = true := fun w hw => atoms_spec (ws := wA yX9_init cX9_init 1 none) B.pre w (List.mem_cons_of_mem _ hw)
  have hown : s.vm.findClass RX9 = some m.cls := findClass_of_methodNamed B.named
  have hlocks := B.notSynchronized
  have hin : meth.name = "<init>" := (name_of_methodNamed B.named B.method).1
  have hD := hD0.self (sz := s.heap.size)
  generalize hAe : va_A [(a_t, .inr (12, [.int 0, .int 0, .null, .null, .null, .null, .null, .null, .int 0]))] s.heap.size = A at hD ⊢
  have hP := hP0
  have hA : ∀ q : Nat, s.heap.size ≤ q → A q := fun q h => by rw [← hAe]; exact Or.inr h
  have hS : va_S A s.heap s.heap [] := va_S.rf
  have hl := lv_entry [.ref a_t] (n := 1) (Nat.le_of_ble_eq_true rfl)
  rw [lg_entry_eq]
  generalize (lg_sl [.ref a_t] ++ List.replicate (1 - (lg_sl [.ref a_t]).length) Slot.unset).toArray = ls at hl ⊢
  have hl : lv_has ls 1 [(0, .ref a_t)] := hl
  refine lv_aload_n hx hb dX9_init_0 rfl (lv_at hl 0 rfl) ?_
  refine W.objInit hx hb hown (hta _ lm_X9_3) (hta _ oi_i) (hta _ oi_c) rfl (by rw [hml]; exact hl.1) rfl dX9_init_1 (Nat.le_of_ble_eq_true rfl) (Nat.le_of_ble_eq_true rfl) ?_
  refine W.eq (g2 := F0 m 4 ls []) rfl ?_
  refine lv_aload_n hx hb dX9_init_4 rfl (lv_at hl 0 rfl) ?_
  refine lv_bipush (v := 24) hx hb dX9_init_5 (by decide) ?_
  refine va_newaT (ty := .boolean) (a0 := (24, .inl (fun _ => 0))) hx hb (hta _ ac_boolean) rfl (fun _ h9 => by cases h9) 1 rfl hK hP hD hS hA (fun _ => rfl) (by decide) rfl (Nat.le_of_ble_eq_true rfl) (Nat.le_of_ble_eq_true rfl) (Nat.le_of_ble_eq_true rfl) dX9_init_7 (fun q7 H hP hD hS => ?_)
  have hP : va_P (dC, dI) vwCl [(a_t, .inr (12, [.int 0, .int 0, .null, .null, .null, .null, .null, .null, .int 0])), (q7, .inl (cT 1, 24, .inl (fun _ => 0)))] H := hP
  have hD : va_D A [(a_t, .inr (12, [.int 0, .int 0, .null, .null, .null, .null, .null, .null, .int 0])), (q7, .inl (cT 1, 24, .inl (fun _ => 0)))] := hD
  refine va_putF (D := (dC, dI)) (ci := 12) (v := .ref q7) (ty := (.array .boolean)) (C := RX9) (T := TX9) (N := 9) hx hb hta inX9w tyX9 tyX9_ok nmX9 hown hK hP hD hS 0 rfl rfl 2 (by decide) (hta _ lk_X9_9) (fun _ h9 => h9) rfl hin rfl (by decide +kernel) rfl rfl (Nat.le_of_ble_eq_true rfl) dX9_init_9 (fun H locs hP hD hS => ?_)
  have hP : va_P (dC, dI) vwCl [(a_t, .inr (12, [.int 0, .int 0, .ref q7, .null, .null, .null, .null, .null, .int 0])), (q7, .inl (cT 1, 24, .inl (fun _ => 0)))] H := hP
  have hD : va_D A [(a_t, .inr (12, [.int 0, .int 0, .ref q7, .null, .null, .null, .null, .null, .int 0])), (q7, .inl (cT 1, 24, .inl (fun _ => 0)))] := hD
  refine lv_aload_n hx hb dX9_init_12 rfl (lv_at hl 0 rfl) ?_
  refine lv_bipush (v := 24) hx hb dX9_init_13 (by decide) ?_
  refine va_newaT (ty := .long) (a0 := (24, .inr (.inl (fun _ => 0)))) hx hb (hta _ ac_long) rfl (fun _ h9 => by cases h9) 3 rfl hK hP hD hS hA (fun _ => rfl) (by decide) rfl (Nat.le_of_ble_eq_true rfl) (Nat.le_of_ble_eq_true rfl) (Nat.le_of_ble_eq_true rfl) dX9_init_15 (fun q15 H hP hD hS => ?_)
  have hP : va_P (dC, dI) vwCl [(a_t, .inr (12, [.int 0, .int 0, .ref q7, .null, .null, .null, .null, .null, .int 0])), (q7, .inl (cT 1, 24, .inl (fun _ => 0))), (q15, .inl (cT 3, 24, .inr (.inl (fun _ => 0))))] H := hP
  have hD : va_D A [(a_t, .inr (12, [.int 0, .int 0, .ref q7, .null, .null, .null, .null, .null, .int 0])), (q7, .inl (cT 1, 24, .inl (fun _ => 0))), (q15, .inl (cT 3, 24, .inr (.inl (fun _ => 0))))] := hD
  refine va_putF (D := (dC, dI)) (ci := 12) (v := .ref q15) (ty := (.array .long)) (C := RX9) (T := TX9) (N := 9) hx hb hta inX9w tyX9 tyX9_ok nmX9 hown hK hP hD hS 0 rfl rfl 3 (by decide) (hta _ lk_X9_15) (fun _ h9 => h9) rfl hin rfl (by decide +kernel) rfl rfl (Nat.le_of_ble_eq_true rfl) dX9_init_17 (fun H locs hP hD hS => ?_)
  have hP : va_P (dC, dI) vwCl [(a_t, .inr (12, [.int 0, .int 0, .ref q7, .ref q15, .null, .null, .null, .null, .int 0])), (q7, .inl (cT 1, 24, .inl (fun _ => 0))), (q15, .inl (cT 3, 24, .inr (.inl (fun _ => 0))))] H := hP
  have hD : va_D A [(a_t, .inr (12, [.int 0, .int 0, .ref q7, .ref q15, .null, .null, .null, .null, .int 0])), (q7, .inl (cT 1, 24, .inl (fun _ => 0))), (q15, .inl (cT 3, 24, .inr (.inl (fun _ => 0))))] := hD
  refine lv_aload_n hx hb dX9_init_20 rfl (lv_at hl 0 rfl) ?_
  refine lv_bipush (v := 24) hx hb dX9_init_21 (by decide) ?_
  refine va_newaT (ty := .long) (a0 := (24, .inr (.inl (fun _ => 0)))) hx hb (hta _ ac_long) rfl (fun _ h9 => by cases h9) 3 rfl hK hP hD hS hA (fun _ => rfl) (by decide) rfl (Nat.le_of_ble_eq_true rfl) (Nat.le_of_ble_eq_true rfl) (Nat.le_of_ble_eq_true rfl) dX9_init_23 (fun q23 H hP hD hS => ?_)
  have hP : va_P (dC, dI) vwCl [(a_t, .inr (12, [.int 0, .int 0, .ref q7, .ref q15, .null, .null, .null, .null, .int 0])), (q7, .inl (cT 1, 24, .inl (fun _ => 0))), (q15, .inl (cT 3, 24, .inr (.inl (fun _ => 0)))), (q23, .inl (cT 3, 24, .inr (.inl (fun _ => 0))))] H := hP
  have hD : va_D A [(a_t, .inr (12, [.int 0, .int 0, .ref q7, .ref q15, .null, .null, .null, .null, .int 0])), (q7, .inl (cT 1, 24, .inl (fun _ => 0))), (q15, .inl (cT 3, 24, .inr (.inl (fun _ => 0)))), (q23, .inl (cT 3, 24, .inr (.inl (fun _ => 0))))] := hD
  refine va_putF (D := (dC, dI)) (ci := 12) (v := .ref q23) (ty := (.array .long)) (C := RX9) (T := TX9) (N := 9) hx hb hta inX9w tyX9 tyX9_ok nmX9 hown hK hP hD hS 0 rfl rfl 4 (by decide) (hta _ lk_X9_19) (fun _ h9 => h9) rfl hin rfl (by decide +kernel) rfl rfl (Nat.le_of_ble_eq_true rfl) dX9_init_25 (fun H locs hP hD hS => ?_)
  have hP : va_P (dC, dI) vwCl [(a_t, .inr (12, [.int 0, .int 0, .ref q7, .ref q15, .ref q23, .null, .null, .null, .int 0])), (q7, .inl (cT 1, 24, .inl (fun _ => 0))), (q15, .inl (cT 3, 24, .inr (.inl (fun _ => 0)))), (q23, .inl (cT 3, 24, .inr (.inl (fun _ => 0))))] H := hP
  have hD : va_D A [(a_t, .inr (12, [.int 0, .int 0, .ref q7, .ref q15, .ref q23, .null, .null, .null, .int 0])), (q7, .inl (cT 1, 24, .inl (fun _ => 0))), (q15, .inl (cT 3, 24, .inr (.inl (fun _ => 0)))), (q23, .inl (cT 3, 24, .inr (.inl (fun _ => 0))))] := hD
  refine lv_aload_n hx hb dX9_init_28 rfl (lv_at hl 0 rfl) ?_
  refine lv_iconst (v := 5) hx hb dX9_init_29 (by decide) ?_
  refine va_newaT (ty := .boolean) (a0 := (5, .inl (fun _ => 0))) hx hb (hta _ ac_boolean) rfl (fun _ h9 => by cases h9) 1 rfl hK hP hD hS hA (fun _ => rfl) (by decide) rfl (Nat.le_of_ble_eq_true rfl) (Nat.le_of_ble_eq_true rfl) (Nat.le_of_ble_eq_true rfl) dX9_init_30 (fun q30 H hP hD hS => ?_)
  have hP : va_P (dC, dI) vwCl [(a_t, .inr (12, [.int 0, .int 0, .ref q7, .ref q15, .ref q23, .null, .null, .null, .int 0])), (q7, .inl (cT 1, 24, .inl (fun _ => 0))), (q15, .inl (cT 3, 24, .inr (.inl (fun _ => 0)))), (q23, .inl (cT 3, 24, .inr (.inl (fun _ => 0)))), (q30, .inl (cT 1, 5, .inl (fun _ => 0)))] H := hP
  have hD : va_D A [(a_t, .inr (12, [.int 0, .int 0, .ref q7, .ref q15, .ref q23, .null, .null, .null, .int 0])), (q7, .inl (cT 1, 24, .inl (fun _ => 0))), (q15, .inl (cT 3, 24, .inr (.inl (fun _ => 0)))), (q23, .inl (cT 3, 24, .inr (.inl (fun _ => 0)))), (q30, .inl (cT 1, 5, .inl (fun _ => 0)))] := hD
  refine va_putF (D := (dC, dI)) (ci := 12) (v := .ref q30) (ty := (.array .boolean)) (C := RX9) (T := TX9) (N := 9) hx hb hta inX9w tyX9 tyX9_ok nmX9 hown hK hP hD hS 0 rfl rfl 5 (by decide) (hta _ lk_X9_22) (fun _ h9 => h9) rfl hin rfl (by decide +kernel) rfl rfl (Nat.le_of_ble_eq_true rfl) dX9_init_32 (fun H locs hP hD hS => ?_)
  have hP : va_P (dC, dI) vwCl [(a_t, .inr (12, [.int 0, .int 0, .ref q7, .ref q15, .ref q23, .ref q30, .null, .null, .int 0])), (q7, .inl (cT 1, 24, .inl (fun _ => 0))), (q15, .inl (cT 3, 24, .inr (.inl (fun _ => 0)))), (q23, .inl (cT 3, 24, .inr (.inl (fun _ => 0)))), (q30, .inl (cT 1, 5, .inl (fun _ => 0)))] H := hP
  have hD : va_D A [(a_t, .inr (12, [.int 0, .int 0, .ref q7, .ref q15, .ref q23, .ref q30, .null, .null, .int 0])), (q7, .inl (cT 1, 24, .inl (fun _ => 0))), (q15, .inl (cT 3, 24, .inr (.inl (fun _ => 0)))), (q23, .inl (cT 3, 24, .inr (.inl (fun _ => 0)))), (q30, .inl (cT 1, 5, .inl (fun _ => 0)))] := hD
  refine lv_aload_n hx hb dX9_init_35 rfl (lv_at hl 0 rfl) ?_
  refine lv_iconst (v := 5) hx hb dX9_init_36 (by decide) ?_
  refine va_newaT (ty := .long) (a0 := (5, .inr (.inl (fun _ => 0)))) hx hb (hta _ ac_long) rfl (fun _ h9 => by cases h9) 3 rfl hK hP hD hS hA (fun _ => rfl) (by decide) rfl (Nat.le_of_ble_eq_true rfl) (Nat.le_of_ble_eq_true rfl) (Nat.le_of_ble_eq_true rfl) dX9_init_37 (fun q37 H hP hD hS => ?_)
  have hP : va_P (dC, dI) vwCl [(a_t, .inr (12, [.int 0, .int 0, .ref q7, .ref q15, .ref q23, .ref q30, .null, .null, .int 0])), (q7, .inl (cT 1, 24, .inl (fun _ => 0))), (q15, .inl (cT 3, 24, .inr (.inl (fun _ => 0)))), (q23, .inl (cT 3, 24, .inr (.inl (fun _ => 0)))), (q30, .inl (cT 1, 5, .inl (fun _ => 0))), (q37, .inl (cT 3, 5, .inr (.inl (fun _ => 0))))] H := hP
  have hD : va_D A [(a_t, .inr (12, [.int 0, .int 0, .ref q7, .ref q15, .ref q23, .ref q30, .null, .null, .int 0])), (q7, .inl (cT 1, 24, .inl (fun _ => 0))), (q15, .inl (cT 3, 24, .inr (.inl (fun _ => 0)))), (q23, .inl (cT 3, 24, .inr (.inl (fun _ => 0)))), (q30, .inl (cT 1, 5, .inl (fun _ => 0))), (q37, .inl (cT 3, 5, .inr (.inl (fun _ => 0))))] := hD
  refine va_putF (D := (dC, dI)) (ci := 12) (v := .ref q37) (ty := (.array .long)) (C := RX9) (T := TX9) (N := 9) hx hb hta inX9w tyX9 tyX9_ok nmX9 hown hK hP hD hS 0 rfl rfl 6 (by decide) (hta _ lk_X9_25) (fun _ h9 => h9) rfl hin rfl (by decide +kernel) rfl rfl (Nat.le_of_ble_eq_true rfl) dX9_init_39 (fun H locs hP hD hS => ?_)
  have hP : va_P (dC, dI) vwCl [(a_t, .inr (12, [.int 0, .int 0, .ref q7, .ref q15, .ref q23, .ref q30, .ref q37, .null, .int 0])), (q7, .inl (cT 1, 24, .inl (fun _ => 0))), (q15, .inl (cT 3, 24, .inr (.inl (fun _ => 0)))), (q23, .inl (cT 3, 24, .inr (.inl (fun _ => 0)))), (q30, .inl (cT 1, 5, .inl (fun _ => 0))), (q37, .inl (cT 3, 5, .inr (.inl (fun _ => 0))))] H := hP
  have hD : va_D A [(a_t, .inr (12, [.int 0, .int 0, .ref q7, .ref q15, .ref q23, .ref q30, .ref q37, .null, .int 0])), (q7, .inl (cT 1, 24, .inl (fun _ => 0))), (q15, .inl (cT 3, 24, .inr (.inl (fun _ => 0)))), (q23, .inl (cT 3, 24, .inr (.inl (fun _ => 0)))), (q30, .inl (cT 1, 5, .inl (fun _ => 0))), (q37, .inl (cT 3, 5, .inr (.inl (fun _ => 0))))] := hD
  refine lv_aload_n hx hb dX9_init_42 rfl (lv_at hl 0 rfl) ?_
  refine lv_iconst (v := 5) hx hb dX9_init_43 (by decide) ?_
  refine va_newaT (ty := .long) (a0 := (5, .inr (.inl (fun _ => 0)))) hx hb (hta _ ac_long) rfl (fun _ h9 => by cases h9) 3 rfl hK hP hD hS hA (fun _ => rfl) (by decide) rfl (Nat.le_of_ble_eq_true rfl) (Nat.le_of_ble_eq_true rfl) (Nat.le_of_ble_eq_true rfl) dX9_init_44 (fun q44 H hP hD hS => ?_)
  have hP : va_P (dC, dI) vwCl [(a_t, .inr (12, [.int 0, .int 0, .ref q7, .ref q15, .ref q23, .ref q30, .ref q37, .null, .int 0])), (q7, .inl (cT 1, 24, .inl (fun _ => 0))), (q15, .inl (cT 3, 24, .inr (.inl (fun _ => 0)))), (q23, .inl (cT 3, 24, .inr (.inl (fun _ => 0)))), (q30, .inl (cT 1, 5, .inl (fun _ => 0))), (q37, .inl (cT 3, 5, .inr (.inl (fun _ => 0)))), (q44, .inl (cT 3, 5, .inr (.inl (fun _ => 0))))] H := hP
  have hD : va_D A [(a_t, .inr (12, [.int 0, .int 0, .ref q7, .ref q15, .ref q23, .ref q30, .ref q37, .null, .int 0])), (q7, .inl (cT 1, 24, .inl (fun _ => 0))), (q15, .inl (cT 3, 24, .inr (.inl (fun _ => 0)))), (q23, .inl (cT 3, 24, .inr (.inl (fun _ => 0)))), (q30, .inl (cT 1, 5, .inl (fun _ => 0))), (q37, .inl (cT 3, 5, .inr (.inl (fun _ => 0)))), (q44, .inl (cT 3, 5, .inr (.inl (fun _ => 0))))] := hD
  refine va_putF (D := (dC, dI)) (ci := 12) (v := .ref q44) (ty := (.array .long)) (C := RX9) (T := TX9) (N := 9) hx hb hta inX9w tyX9 tyX9_ok nmX9 hown hK hP hD hS 0 rfl rfl 7 (by decide) (hta _ lk_X9_28) (fun _ h9 => h9) rfl hin rfl (by decide +kernel) rfl rfl (Nat.le_of_ble_eq_true rfl) dX9_init_46 (fun H locs hP hD hS => ?_)
  have hP : va_P (dC, dI) vwCl [(a_t, .inr (12, [.int 0, .int 0, .ref q7, .ref q15, .ref q23, .ref q30, .ref q37, .ref q44, .int 0])), (q7, .inl (cT 1, 24, .inl (fun _ => 0))), (q15, .inl (cT 3, 24, .inr (.inl (fun _ => 0)))), (q23, .inl (cT 3, 24, .inr (.inl (fun _ => 0)))), (q30, .inl (cT 1, 5, .inl (fun _ => 0))), (q37, .inl (cT 3, 5, .inr (.inl (fun _ => 0)))), (q44, .inl (cT 3, 5, .inr (.inl (fun _ => 0))))] H := hP
  have hD : va_D A [(a_t, .inr (12, [.int 0, .int 0, .ref q7, .ref q15, .ref q23, .ref q30, .ref q37, .ref q44, .int 0])), (q7, .inl (cT 1, 24, .inl (fun _ => 0))), (q15, .inl (cT 3, 24, .inr (.inl (fun _ => 0)))), (q23, .inl (cT 3, 24, .inr (.inl (fun _ => 0)))), (q30, .inl (cT 1, 5, .inl (fun _ => 0))), (q37, .inl (cT 3, 5, .inr (.inl (fun _ => 0)))), (q44, .inl (cT 3, 5, .inr (.inl (fun _ => 0))))] := hD
  refine W.widen (k := 6) (n := 87) (Nat.le_of_ble_eq_true rfl) (Nat.le_of_ble_eq_true rfl) ?_
  exact W.vret hx hb hr (fun t ht hW => ⟨⟨fun i => [q7, q15, q23, q30, q37, q44].getD i 0, rfl, trivial, by rw [ht]; exact hP, hD⟩, hS.F ht⟩) hS.2.2 dX9_init_49
def nw_X10_init (cT : Nat → ClassId) (a_t : Nat) (u : Nat → Nat) : va_W := [(a_t, .inr (13, [.ref (u 0), .ref (u 1), .ref (u 2)])), ((u 0), .inl (cT 1, 24, .inl (fun _ => 0))), ((u 1), .inl (cT 3, 24, .inr (.inl (fun _ => 0)))), ((u 2), .inl (cT 3, 24, .inr (.inl (fun _ => 0))))]
set_option maxHeartbeats 4000000 in
set_option maxRecDepth 100000 in
theorem c_X10_init (l : Launch) (dC : Nat → ClassId) (dI : Nat → Nat → Nat) (cT : Nat → ClassId) {Hh : Heap} {a_t : Nat} (hP0 : va_P (dC, dI) vwCl [(a_t, .inr (13, [.null, .null, .null]))] Hh) (hD0 : va_D (fun _ => True) [(a_t, .inr (13, [.null, .null, .null]))]) : Met l yX10_init (wA yX10_init cX10_init 1 none) ({ frames := 1, cells := 3, slots := 72, locals := 22 } : Room) (PN dC dI cT [.ref a_t] Hh) (QN dC dI (nw_X10_init cT a_t) (va_A [(a_t, .inr (13, [.null, .null, .null]))] Hh.size)) 3 72 (va_A [(a_t, .inr (13, [.null, .null, .null]))] Hh.size) := by
  refine Met.ofW (cc := cX10_init) (maxL := 1) (ret := none) (by decide) rfl ?_
  intro p e s m args below meth c s₁ B hml hv
  obtain ⟨rfl, hH, hK, hN⟩ := hv
  subst hH
  have hx := B.exec
  have hb := B.bytes
  have hr := B.returns
  have hta : ∀ w ∈ ALLW, w.before [.ref a_t].toArray s = true := fun w hw => atoms_spec (ws := wA yX10_init cX10_init 1 none) B.pre w (List.mem_cons_of_mem _ hw)
  have hown : s.vm.findClass RX10 = some m.cls := findClass_of_methodNamed B.named
  have hlocks := B.notSynchronized
  have hin : meth.name = "<init>" := (name_of_methodNamed B.named B.method).1
  have hD := hD0.self (sz := s.heap.size)
  generalize hAe : va_A [(a_t, .inr (13, [.null, .null, .null]))] s.heap.size = A at hD ⊢
  have hP := hP0
  have hA : ∀ q : Nat, s.heap.size ≤ q → A q := fun q h => by rw [← hAe]; exact Or.inr h
  have hS : va_S A s.heap s.heap [] := va_S.rf
  have hl := lv_entry [.ref a_t] (n := 1) (Nat.le_of_ble_eq_true rfl)
  rw [lg_entry_eq]
  generalize (lg_sl [.ref a_t] ++ List.replicate (1 - (lg_sl [.ref a_t]).length) Slot.unset).toArray = ls at hl ⊢
  have hl : lv_has ls 1 [(0, .ref a_t)] := hl
  refine lv_aload_n hx hb dX10_init_0 rfl (lv_at hl 0 rfl) ?_
  refine W.objInit hx hb hown (hta _ lm_X10_3) (hta _ oi_i) (hta _ oi_c) rfl (by rw [hml]; exact hl.1) rfl dX10_init_1 (Nat.le_of_ble_eq_true rfl) (Nat.le_of_ble_eq_true rfl) ?_
  refine W.eq (g2 := F0 m 4 ls []) rfl ?_
  refine lv_aload_n hx hb dX10_init_4 rfl (lv_at hl 0 rfl) ?_
  refine lv_bipush (v := 24) hx hb dX10_init_5 (by decide) ?_
  refine va_newaT (ty := .boolean) (a0 := (24, .inl (fun _ => 0))) hx hb (hta _ ac_boolean) rfl (fun _ h9 => by cases h9) 1 rfl hK hP hD hS hA (fun _ => rfl) (by decide) rfl (Nat.le_of_ble_eq_true rfl) (Nat.le_of_ble_eq_true rfl) (Nat.le_of_ble_eq_true rfl) dX10_init_7 (fun q7 H hP hD hS => ?_)
  have hP : va_P (dC, dI) vwCl [(a_t, .inr (13, [.null, .null, .null])), (q7, .inl (cT 1, 24, .inl (fun _ => 0)))] H := hP
  have hD : va_D A [(a_t, .inr (13, [.null, .null, .null])), (q7, .inl (cT 1, 24, .inl (fun _ => 0)))] := hD
  refine va_putF (D := (dC, dI)) (ci := 13) (v := .ref q7) (ty := (.array .boolean)) (C := RX10) (T := TX10) (N := 3) hx hb hta inX10w tyX10 tyX10_ok nmX10 hown hK hP hD hS 0 rfl rfl 0 (by decide) (hta _ lk_X10_9) (fun _ h9 => h9) rfl hin rfl (by decide +kernel) rfl rfl (Nat.le_of_ble_eq_true rfl) dX10_init_9 (fun H locs hP hD hS => ?_)
  have hP : va_P (dC, dI) vwCl [(a_t, .inr (13, [.ref q7, .null, .null])), (q7, .inl (cT 1, 24, .inl (fun _ => 0)))] H := hP
  have hD : va_D A [(a_t, .inr (13, [.ref q7, .null, .null])), (q7, .inl (cT 1, 24, .inl (fun _ => 0)))] := hD
  refine lv_aload_n hx hb dX10_init_12 rfl (lv_at hl 0 rfl) ?_
  refine lv_bipush (v := 24) hx hb dX10_init_13 (by decide) ?_
  refine va_newaT (ty := .long) (a0 := (24, .inr (.inl (fun _ => 0)))) hx hb (hta _ ac_long) rfl (fun _ h9 => by cases h9) 3 rfl hK hP hD hS hA (fun _ => rfl) (by decide) rfl (Nat.le_of_ble_eq_true rfl) (Nat.le_of_ble_eq_true rfl) (Nat.le_of_ble_eq_true rfl) dX10_init_15 (fun q15 H hP hD hS => ?_)
  have hP : va_P (dC, dI) vwCl [(a_t, .inr (13, [.ref q7, .null, .null])), (q7, .inl (cT 1, 24, .inl (fun _ => 0))), (q15, .inl (cT 3, 24, .inr (.inl (fun _ => 0))))] H := hP
  have hD : va_D A [(a_t, .inr (13, [.ref q7, .null, .null])), (q7, .inl (cT 1, 24, .inl (fun _ => 0))), (q15, .inl (cT 3, 24, .inr (.inl (fun _ => 0))))] := hD
  refine va_putF (D := (dC, dI)) (ci := 13) (v := .ref q15) (ty := (.array .long)) (C := RX10) (T := TX10) (N := 3) hx hb hta inX10w tyX10 tyX10_ok nmX10 hown hK hP hD hS 0 rfl rfl 1 (by decide) (hta _ lk_X10_15) (fun _ h9 => h9) rfl hin rfl (by decide +kernel) rfl rfl (Nat.le_of_ble_eq_true rfl) dX10_init_17 (fun H locs hP hD hS => ?_)
  have hP : va_P (dC, dI) vwCl [(a_t, .inr (13, [.ref q7, .ref q15, .null])), (q7, .inl (cT 1, 24, .inl (fun _ => 0))), (q15, .inl (cT 3, 24, .inr (.inl (fun _ => 0))))] H := hP
  have hD : va_D A [(a_t, .inr (13, [.ref q7, .ref q15, .null])), (q7, .inl (cT 1, 24, .inl (fun _ => 0))), (q15, .inl (cT 3, 24, .inr (.inl (fun _ => 0))))] := hD
  refine lv_aload_n hx hb dX10_init_20 rfl (lv_at hl 0 rfl) ?_
  refine lv_bipush (v := 24) hx hb dX10_init_21 (by decide) ?_
  refine va_newaT (ty := .long) (a0 := (24, .inr (.inl (fun _ => 0)))) hx hb (hta _ ac_long) rfl (fun _ h9 => by cases h9) 3 rfl hK hP hD hS hA (fun _ => rfl) (by decide) rfl (Nat.le_of_ble_eq_true rfl) (Nat.le_of_ble_eq_true rfl) (Nat.le_of_ble_eq_true rfl) dX10_init_23 (fun q23 H hP hD hS => ?_)
  have hP : va_P (dC, dI) vwCl [(a_t, .inr (13, [.ref q7, .ref q15, .null])), (q7, .inl (cT 1, 24, .inl (fun _ => 0))), (q15, .inl (cT 3, 24, .inr (.inl (fun _ => 0)))), (q23, .inl (cT 3, 24, .inr (.inl (fun _ => 0))))] H := hP
  have hD : va_D A [(a_t, .inr (13, [.ref q7, .ref q15, .null])), (q7, .inl (cT 1, 24, .inl (fun _ => 0))), (q15, .inl (cT 3, 24, .inr (.inl (fun _ => 0)))), (q23, .inl (cT 3, 24, .inr (.inl (fun _ => 0))))] := hD
  refine va_putF (D := (dC, dI)) (ci := 13) (v := .ref q23) (ty := (.array .long)) (C := RX10) (T := TX10) (N := 3) hx hb hta inX10w tyX10 tyX10_ok nmX10 hown hK hP hD hS 0 rfl rfl 2 (by decide) (hta _ lk_X10_19) (fun _ h9 => h9) rfl hin rfl (by decide +kernel) rfl rfl (Nat.le_of_ble_eq_true rfl) dX10_init_25 (fun H locs hP hD hS => ?_)
  have hP : va_P (dC, dI) vwCl [(a_t, .inr (13, [.ref q7, .ref q15, .ref q23])), (q7, .inl (cT 1, 24, .inl (fun _ => 0))), (q15, .inl (cT 3, 24, .inr (.inl (fun _ => 0)))), (q23, .inl (cT 3, 24, .inr (.inl (fun _ => 0))))] H := hP
  have hD : va_D A [(a_t, .inr (13, [.ref q7, .ref q15, .ref q23])), (q7, .inl (cT 1, 24, .inl (fun _ => 0))), (q15, .inl (cT 3, 24, .inr (.inl (fun _ => 0)))), (q23, .inl (cT 3, 24, .inr (.inl (fun _ => 0))))] := hD
  refine W.widen (k := 3) (n := 72) (Nat.le_of_ble_eq_true rfl) (Nat.le_of_ble_eq_true rfl) ?_
  exact W.vret hx hb hr (fun t ht hW => ⟨⟨fun i => [q7, q15, q23].getD i 0, rfl, trivial, by rw [ht]; exact hP, hD⟩, hS.F ht⟩) hS.2.2 dX10_init_28
