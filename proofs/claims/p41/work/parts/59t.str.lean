/-! TEXT: charAt, toString (gen/strs.py) -/
set_option maxHeartbeats 4000000 in
set_option maxRecDepth 100000 in
theorem cS_lat (l : Launch) (dC : Nat → ClassId) (dI : Nat → Nat → Nat) (cT : Nat → ClassId) {Hh : Heap} {a_s a_sv : Nat} {XW : va_W} (eX : XW = [(a_s, .inr (0, [.ref a_sv, .int 0, .int 0, .int 0]))]) (hP0 : va_P (dC, dI) vwCl XW Hh) : Met l yJ0_isLatin1_aae02 (wA yJ0_isLatin1_aae02 cJ0_isLatin1_aae02 1 (some .boolean)) ({ frames := 0, cells := 0, slots := 0, locals := 0 } : Room) (PJM dC dI cT [.ref a_s] Hh (va_A [] Hh.size)) (va_Qi (fun x (_ : Unit) => x = 1) (fun _ t => t.heap = Hh) (va_A [] Hh.size)) 0 0 (va_A [] Hh.size) := by
  subst eX
  refine MofWF (cc := cJ0_isLatin1_aae02) (maxL := 1) (ret := (some .boolean)) (by decide +kernel) rfl ?_
  intro p e s m args below meth c s₁ B hml hv
  obtain ⟨rfl, hH, hK, hZ, hSP⟩ := hv
  subst hH
  have hx := B.exec
  have hb := B.bytes
  have hr := B.returns
  have hta : ∀ w9 ∈ ALLW, w9.before [.ref a_s].toArray s = true := fun w9 hw9 => atoms_spec (ws := wA yJ0_isLatin1_aae02 cJ0_isLatin1_aae02 1 (some .boolean)) B.pre w9 (List.mem_cons_of_mem _ hw9)
  have hown : s.vm.findClass RJ0 = some m.cls := findClass_of_methodNamed B.named
  have hlocks := B.notSynchronized
  have hin : meth.name = "isLatin1" := (name_of_methodNamed B.named B.method).1
  have hP := hP0
  generalize hAe : va_A [] s.heap.size = A at hZ ⊢
  have hA : ∀ q : Nat, s.heap.size ≤ q → A q := fun q h => by rw [← hAe]; exact Or.inr h
  have hS : va_S A s.heap s.heap [] := va_S.rf
  have hl := lv_entry [.ref a_s] (n := 1) (Nat.le_of_ble_eq_true rfl)
  rw [lg_entry_eq]
  generalize (lg_sl [.ref a_s] ++ List.replicate (1 - (lg_sl [.ref a_s]).length) Slot.unset).toArray = ls at hl ⊢
  have hl : lv_has ls 1 [(0, .ref a_s)] := hl
  refine va_gets hx hb hZ.1 hS hown (hta _ lk_J0_38) (fun _ h9 => h9) dJ0_isLatin1_aae02_0 ?_
  refine lv_if_eq (tgt := 17) hx hb dJ0_isLatin1_aae02_3 (by decide) (fun c0 => ?_) (fun c0 => ?_)
  · exact absurd c0 (by decide)
  · clear c0
    refine lv_aload_n hx hb dJ0_isLatin1_aae02_6 rfl (lv_at hl 0 rfl) ?_
    refine va_get (D := (dC, dI)) (ci := 0) (v := .int 0) (C := RJ0) (T := TJ0) (N := 4) hx hb hta inJ0w hown hK hP 0 rfl rfl 1 (by decide) (hta _ lk_J0_15) (fun _ h9 => h9) rfl dJ0_isLatin1_aae02_7 ?_
    refine lv_if_ne (tgt := 17) hx hb dJ0_isLatin1_aae02_10 (by decide) (fun c0 => ?_) (fun c0 => ?_)
    · exact absurd (rfl) c0
    · clear c0
      refine lv_iconst (v := 1) hx hb dJ0_isLatin1_aae02_13 (by decide) ?_
      refine lv_goto (tgt := 18) hx hb dJ0_isLatin1_aae02_14 (by decide) ?_
      exact W.zret (ty := .boolean) (v := 1) hx hb hr rfl (fun t ht hW => ⟨⟨1, (), rfl, rfl, ht⟩, hS.F ht⟩) hS.2.2 dJ0_isLatin1_aae02_18
set_option maxHeartbeats 4000000 in
set_option maxRecDepth 100000 in
theorem cS_char1 (l : Launch) (dC : Nat → ClassId) (dI : Nat → Nat → Nat) (cT : Nat → ClassId) {Hh : Heap} {a_sv sn : Nat} {sg : Nat → Int32} {i : Nat} (hi : i < sn) (h7 : sn ≤ 70) {XW : va_W} (eX : XW = [(a_sv, .inl (cT 6, sn, .inl sg))]) (hP0 : va_P (dC, dI) vwCl XW Hh) : Met l yJ1_charAt_3b067 (wA yJ1_charAt_3b067 cJ1_charAt_3b067 2 (some .char)) ({ frames := 2, cells := 0, slots := 0, locals := 43 } : Room) (PJM dC dI cT [.ref a_sv, .int (nI i)] Hh (va_A [] Hh.size)) (va_Qi (fun x (_ : Unit) => x = ((sg (nI i).toNatClampNeg &&& 255).toUInt32 % 65536).toInt32) (fun _ t => t.heap = Hh) (va_A [] Hh.size)) 0 0 (va_A [] Hh.size) := by
  subst eX
  refine MofWF (cc := cJ1_charAt_3b067) (maxL := 2) (ret := (some .char)) (by decide +kernel) rfl ?_
  intro p e s m args below meth c s₁ B hml hv
  obtain ⟨rfl, hH, hK, hZ, hSP⟩ := hv
  subst hH
  have hx := B.exec
  have hb := B.bytes
  have hr := B.returns
  have hta : ∀ w9 ∈ ALLW, w9.before [.ref a_sv, .int (nI i)].toArray s = true := fun w9 hw9 => atoms_spec (ws := wA yJ1_charAt_3b067 cJ1_charAt_3b067 2 (some .char)) B.pre w9 (List.mem_cons_of_mem _ hw9)
  have hown : s.vm.findClass RJ1 = some m.cls := findClass_of_methodNamed B.named
  have hlocks := B.notSynchronized
  have hin : meth.name = "charAt" := (name_of_methodNamed B.named B.method).1
  have hP := hP0
  generalize hAe : va_A [] s.heap.size = A at hZ ⊢
  have hA : ∀ q : Nat, s.heap.size ≤ q → A q := fun q h => by rw [← hAe]; exact Or.inr h
  have hS : va_S A s.heap s.heap [] := va_S.rf
  have hl := lv_entry [.ref a_sv, .int (nI i)] (n := 2) (Nat.le_of_ble_eq_true rfl)
  rw [lg_entry_eq]
  generalize (lg_sl [.ref a_sv, .int (nI i)] ++ List.replicate (2 - (lg_sl [.ref a_sv, .int (nI i)]).length) Slot.unset).toArray = ls at hl ⊢
  have hl : lv_has ls 2 [(0, .ref a_sv), (1, .int (nI i))] := hl
  refine lv_iload_n hx hb dJ1_charAt_3b067_0 rfl (lv_at hl 1 rfl) ?_
  refine lv_aload_n hx hb dJ1_charAt_3b067_1 rfl (lv_at hl 0 rfl) ?_
  refine va_alen (v := (nI sn)) hx hb hK hP 0 6 rfl rfl rfl dJ1_charAt_3b067_2 ?_
  refine crV (va_runS (As := [.int (nI i), .int (nI sn)]) (rest := []) ⟨hx, hb, hml, hown, hta⟩ (cJ_chk l dC dI cT hi h7) (cS hta lm_J1_9 md_J0_checkIndex_df160 ⟨Nat.le_of_ble_eq_true rfl, Nat.le_of_ble_eq_true rfl⟩) ⟨fbJ, fun U hU hW => ⟨rfl, hU, va_K.moved hW.alike hK, ZS.call hZ hS hU hW (frA hS hA)⟩⟩ rfl rfl hl.1 rfl (lv_room (Nat.le_of_ble_eq_true rfl)) dJ1_charAt_3b067_3 ⟨Nat.le_of_ble_eq_true rfl, Nat.le_of_ble_eq_true rfl⟩) hS hA (fun locs hS => ?_)
  refine lv_aload_n hx hb dJ1_charAt_3b067_6 rfl (lv_at hl 0 rfl) ?_
  refine lv_iload_n hx hb dJ1_charAt_3b067_7 rfl (lv_at hl 1 rfl) ?_
  refine va_bald hx hb hK hP 0 6 rfl rfl (vp_in_nI (by omega) (by omega)) dJ1_charAt_3b067_8 ?_
  refine lv_sipush (v := 255) hx hb dJ1_charAt_3b067_9 (by decide) ?_
  refine lv_iand hx hb dJ1_charAt_3b067_12 ?_
  refine lv_i2c hx hb dJ1_charAt_3b067_13 rfl ?_
  exact W.zret (ty := .char) (v := ((sg (nI i).toNatClampNeg &&& 255).toUInt32 % 65536).toInt32) hx hb hr (pk_nc _) (fun t ht hW => ⟨⟨((sg (nI i).toNatClampNeg &&& 255).toUInt32 % 65536).toInt32, (), rfl, rfl, ht⟩, hS.F ht⟩) hS.2.2 dJ1_charAt_3b067_14
set_option maxHeartbeats 4000000 in
set_option maxRecDepth 100000 in
theorem cS_charAt (l : Launch) (dC : Nat → ClassId) (dI : Nat → Nat → Nat) (cT : Nat → ClassId) {Hh : Heap} {a_s a_sv sn : Nat} {sg : Nat → Int32} {i : Nat} (hi : i < sn) (h7 : sn ≤ 70) {XW : va_W} (eX : XW = [(a_s, .inr (0, [.ref a_sv, .int 0, .int 0, .int 0])), (a_sv, .inl (cT 6, sn, .inl sg))]) (hP0 : va_P (dC, dI) vwCl XW Hh) : Met l yJ0_charAt_5068e (wA yJ0_charAt_5068e cJ0_charAt_5068e 2 (some .char)) ({ frames := 3, cells := 0, slots := 0, locals := 64 } : Room) (PJM dC dI cT [.ref a_s, .int (nI i)] Hh (va_A [] Hh.size)) (va_Qi (fun x (_ : Unit) => x = ((sg (nI i).toNatClampNeg &&& 255).toUInt32 % 65536).toInt32) (fun _ t => t.heap = Hh) (va_A [] Hh.size)) 0 0 (va_A [] Hh.size) := by
  subst eX
  refine MofWF (cc := cJ0_charAt_5068e) (maxL := 2) (ret := (some .char)) (by decide +kernel) rfl ?_
  intro p e s m args below meth c s₁ B hml hv
  obtain ⟨rfl, hH, hK, hZ, hSP⟩ := hv
  subst hH
  have hx := B.exec
  have hb := B.bytes
  have hr := B.returns
  have hta : ∀ w9 ∈ ALLW, w9.before [.ref a_s, .int (nI i)].toArray s = true := fun w9 hw9 => atoms_spec (ws := wA yJ0_charAt_5068e cJ0_charAt_5068e 2 (some .char)) B.pre w9 (List.mem_cons_of_mem _ hw9)
  have hown : s.vm.findClass RJ0 = some m.cls := findClass_of_methodNamed B.named
  have hlocks := B.notSynchronized
  have hin : meth.name = "charAt" := (name_of_methodNamed B.named B.method).1
  have hP := hP0
  generalize hAe : va_A [] s.heap.size = A at hZ ⊢
  have hA : ∀ q : Nat, s.heap.size ≤ q → A q := fun q h => by rw [← hAe]; exact Or.inr h
  have hS : va_S A s.heap s.heap [] := va_S.rf
  have hl := lv_entry [.ref a_s, .int (nI i)] (n := 2) (Nat.le_of_ble_eq_true rfl)
  rw [lg_entry_eq]
  generalize (lg_sl [.ref a_s, .int (nI i)] ++ List.replicate (2 - (lg_sl [.ref a_s, .int (nI i)]).length) Slot.unset).toArray = ls at hl ⊢
  have hl : lv_has ls 2 [(0, .ref a_s), (1, .int (nI i))] := hl
  refine lv_aload_n hx hb dJ0_charAt_5068e_0 rfl (lv_at hl 0 rfl) ?_
  refine crI (va_runV (As := []) (rest := []) ⟨hx, hb, hml, hown, hta⟩ (cS_lat l dC dI cT rfl (hP.sub (ws' := [(a_s, .inr (0, [.ref a_sv, .int 0, .int 0, .int 0]))]) [0] rfl)) (cV hta lm_J0_492 md_J0_isLatin1_aae02 ⟨Nat.le_of_ble_eq_true rfl, Nat.le_of_ble_eq_true rfl⟩) ⟨fbJM, va_recv hK hP (ci := 0) (q0 := 0) rfl rfl, fun U hU hW => ⟨rfl, hU, va_K.moved hW.alike hK, ZS.call hZ hS hU hW (frA hS hA), SP.warm hW hSP⟩⟩ rfl rfl hl.1 rfl (lv_room (Nat.le_of_ble_eq_true rfl)) dJ0_charAt_5068e_1 ⟨Nat.le_of_ble_eq_true rfl, Nat.le_of_ble_eq_true rfl⟩) hS hA (fun locs hS => ?_)
  refine lv_if_eq (tgt := 16) hx hb dJ0_charAt_5068e_4 (by decide) (fun c0 => ?_) (fun c0 => ?_)
  · exact absurd c0 (by decide)
  · clear c0
    refine lv_aload_n hx hb dJ0_charAt_5068e_7 rfl (lv_at hl 0 rfl) ?_
    refine va_get (D := (dC, dI)) (ci := 0) (v := .ref a_sv) (C := RJ0) (T := TJ0) (N := 4) hx hb hta inJ0w hown hK hP 0 rfl rfl 0 (by decide) (hta _ lk_J0_9) (fun _ h9 => h9) rfl dJ0_charAt_5068e_8 ?_
    refine lv_iload_n hx hb dJ0_charAt_5068e_11 rfl (lv_at hl 1 rfl) ?_
    refine crI (va_runS (As := [.ref a_sv, .int (nI i)]) (rest := []) ⟨hx, hb, hml, hown, hta⟩ (cS_char1 l dC dI cT hi h7 rfl (hP.sub (ws' := [(a_sv, .inl (cT 6, sn, .inl sg))]) [1] rfl)) (cS hta lm_J0_495 md_J1_charAt_3b067 ⟨Nat.le_of_ble_eq_true rfl, Nat.le_of_ble_eq_true rfl⟩) ⟨fbJM, fun U hU hW => ⟨rfl, hU, va_K.moved hW.alike hK, ZS.call hZ hS hU hW (frA hS hA), SP.warm hW hSP⟩⟩ rfl rfl hl.1 rfl (lv_room (Nat.le_of_ble_eq_true rfl)) dJ0_charAt_5068e_12 ⟨Nat.le_of_ble_eq_true rfl, Nat.le_of_ble_eq_true rfl⟩) hS hA (fun locs hS => ?_)
    exact W.zret (ty := .char) (v := ((sg (nI i).toNatClampNeg &&& 255).toUInt32 % 65536).toInt32) hx hb hr (pk_nc _) (fun t ht hW => ⟨⟨((sg (nI i).toNatClampNeg &&& 255).toUInt32 % 65536).toInt32, (), rfl, rfl, ht⟩, hS.F ht⟩) hS.2.2 dJ0_charAt_5068e_15
set_option maxHeartbeats 4000000 in
set_option maxRecDepth 100000 in
theorem cS_chkL (l : Launch) (dC : Nat → ClassId) (dI : Nat → Nat → Nat) (cT : Nat → ClassId) {Hh : Heap} {n : Nat} (h7 : n ≤ 70) : Met l yJ7_checkLength_df160 (wA yJ7_checkLength_df160 cJ7_checkLength_df160 2 none) ({ frames := 0, cells := 0, slots := 0, locals := 0 } : Room) (PJM dC dI cT [.int 0, .int (nI n)] Hh (va_A [] Hh.size)) (va_Qv (fun (_ : Unit) => True) (fun _ t => t.heap = Hh) (va_A [] Hh.size)) 0 0 (va_A [] Hh.size) := by
  refine MofWF (cc := cJ7_checkLength_df160) (maxL := 2) (ret := none) (by decide +kernel) rfl ?_
  intro p e s m args below meth c s₁ B hml hv
  obtain ⟨rfl, hH, hK, hZ, hSP⟩ := hv
  subst hH
  have hx := B.exec
  have hb := B.bytes
  have hr := B.returns
  have hta : ∀ w9 ∈ ALLW, w9.before [.int 0, .int (nI n)].toArray s = true := fun w9 hw9 => atoms_spec (ws := wA yJ7_checkLength_df160 cJ7_checkLength_df160 2 none) B.pre w9 (List.mem_cons_of_mem _ hw9)
  have hown : s.vm.findClass RJ7 = some m.cls := findClass_of_methodNamed B.named
  have hlocks := B.notSynchronized
  have hin : meth.name = "checkLength" := (name_of_methodNamed B.named B.method).1
  generalize hAe : va_A [] s.heap.size = A at hZ ⊢
  have hA : ∀ q : Nat, s.heap.size ≤ q → A q := fun q h => by rw [← hAe]; exact Or.inr h
  have hS : va_S A s.heap s.heap [] := va_S.rf
  have hl := lv_entry [.int 0, .int (nI n)] (n := 2) (Nat.le_of_ble_eq_true rfl)
  rw [lg_entry_eq]
  generalize (lg_sl [.int 0, .int (nI n)] ++ List.replicate (2 - (lg_sl [.int 0, .int (nI n)]).length) Slot.unset).toArray = ls at hl ⊢
  have hl : lv_has ls 2 [(0, .int 0), (1, .int (nI n))] := hl
  refine lv_iload_n hx hb dJ7_checkLength_df160_0 rfl (lv_at hl 1 rfl) ?_
  refine lv_iload_n hx hb dJ7_checkLength_df160_1 rfl (lv_at hl 0 rfl) ?_
  refine lv_icmp_ge (tgt := 37) hx hb dJ7_checkLength_df160_2 (by decide) (fun c0 => ?_) (fun c0 => ?_)
  · clear c0
    exact W.vret hx hb hr (fun t ht hW => ⟨⟨(), rfl, trivial, ht⟩, hS.F ht⟩) hS.2.2 dJ7_checkLength_df160_37
  · exact absurd ((show (0 : Int32) ≤ nI n from by rw [Int32.le_iff_toInt_le, nI_toInt (by omega), Int32.toInt_zero]; omega)) c0
theorem tos_of {n : Nat} {f : Nat → Int32} (h7 : n ≤ 70) (hff : BF f) : (∀ j, j < n → va_cpy f (fun _ => 0) (0 : Int32).toNatClampNeg (0 : Int32).toNatClampNeg (nI n).toNatClampNeg j = f j) ∧ BF (va_cpy f (fun _ => 0) (0 : Int32).toNatClampNeg (0 : Int32).toNatClampNeg (nI n).toNatClampNeg) := by
  rw [nI_clamp (by omega)]
  exact ⟨fun j hj => sb_cpy0 hj, sb_fitC hff sb_fit0⟩
set_option maxHeartbeats 4000000 in
set_option maxRecDepth 100000 in
theorem cS_rangeB (l : Launch) (dC : Nat → ClassId) (dI : Nat → Nat → Nat) (cT : Nat → ClassId) {Hh : Heap} {a_v n cap : Nat} {f : Nat → Int32} (hn : n < cap) (h7 : cap ≤ 70) (hff : BF f) {XW : va_W} (eX : XW = [(a_v, .inl (cT 6, cap, .inl f))]) (hP0 : va_P (dC, dI) vwCl XW Hh) (hD0 : va_D (fun _ => True) XW) : Met l yJ7_copyOfRangeByte_39247 (wA yJ7_copyOfRangeByte_39247 cJ7_copyOfRangeByte_39247 5 (some (.array .byte))) ({ frames := 1, cells := 1, slots := 70, locals := 40 } : Room) (PJM dC dI cT [.ref a_v, .int 0, .int (nI n)] Hh (va_A XW Hh.size)) (va_Qr (fun (_ : Unit) => True) (fun _ a t => va_P (dC, dI) vwCl [(a_v, .inl (cT 6, cap, .inl f)), (a, .inl (cT 6, n, .inl (va_cpy f (fun _ => 0) (0 : Int32).toNatClampNeg (0 : Int32).toNatClampNeg (nI n).toNatClampNeg)))] t.heap ∧ va_D (va_A XW Hh.size) [(a_v, .inl (cT 6, cap, .inl f)), (a, .inl (cT 6, n, .inl (va_cpy f (fun _ => 0) (0 : Int32).toNatClampNeg (0 : Int32).toNatClampNeg (nI n).toNatClampNeg)))]) (va_A XW Hh.size)) 1 70 (va_A XW Hh.size) := by
  subst eX
  refine MofWF (cc := cJ7_copyOfRangeByte_39247) (maxL := 5) (ret := (some (.array .byte))) (by decide +kernel) rfl ?_
  intro p e s m args below meth c s₁ B hml hv
  obtain ⟨rfl, hH, hK, hZ, hSP⟩ := hv
  subst hH
  have hx := B.exec
  have hb := B.bytes
  have hr := B.returns
  have hta : ∀ w9 ∈ ALLW, w9.before [.ref a_v, .int 0, .int (nI n)].toArray s = true := fun w9 hw9 => atoms_spec (ws := wA yJ7_copyOfRangeByte_39247 cJ7_copyOfRangeByte_39247 5 (some (.array .byte))) B.pre w9 (List.mem_cons_of_mem _ hw9)
  have hown : s.vm.findClass RJ7 = some m.cls := findClass_of_methodNamed B.named
  have hlocks := B.notSynchronized
  have hin : meth.name = "copyOfRangeByte" := (name_of_methodNamed B.named B.method).1
  have hD := hD0.self (sz := s.heap.size)
  have hP := hP0
  generalize hAe : va_A [(a_v, .inl (cT 6, cap, .inl f))] s.heap.size = A at hD hZ ⊢
  have hA : ∀ q : Nat, s.heap.size ≤ q → A q := fun q h => by rw [← hAe]; exact Or.inr h
  have hS : va_S A s.heap s.heap [] := va_S.rf
  have hl := lv_entry [.ref a_v, .int 0, .int (nI n)] (n := 5) (Nat.le_of_ble_eq_true rfl)
  rw [lg_entry_eq]
  generalize (lg_sl [.ref a_v, .int 0, .int (nI n)] ++ List.replicate (5 - (lg_sl [.ref a_v, .int 0, .int (nI n)]).length) Slot.unset).toArray = ls at hl ⊢
  have hl : lv_has ls 5 [(0, .ref a_v), (1, .int 0), (2, .int (nI n))] := hl
  refine lv_iload_n hx hb dJ7_copyOfRangeByte_39247_0 rfl (lv_at hl 1 rfl) ?_
  refine lv_iload_n hx hb dJ7_copyOfRangeByte_39247_1 rfl (lv_at hl 2 rfl) ?_
  refine crV (va_runS (As := [.int 0, .int (nI n)]) (rest := []) ⟨hx, hb, hml, hown, hta⟩ (cS_chkL l dC dI cT (by omega)) (cS hta lm_J7_343 md_J7_checkLength_df160 ⟨Nat.le_of_ble_eq_true rfl, Nat.le_of_ble_eq_true rfl⟩) ⟨fbJM, fun U hU hW => ⟨rfl, hU, va_K.moved hW.alike hK, ZS.call hZ hS hU hW (frA hS hA), SP.warm hW hSP⟩⟩ rfl rfl hl.1 rfl (lv_room (Nat.le_of_ble_eq_true rfl)) dJ7_copyOfRangeByte_39247_2 ⟨by show _ ≤ (1 : Nat); omega, by show _ ≤ (70 : Nat); omega⟩) hS hA (fun locs hS => ?_)
  refine lv_iload_n hx hb dJ7_copyOfRangeByte_39247_5 rfl (lv_at hl 2 rfl) ?_
  refine lv_iload_n hx hb dJ7_copyOfRangeByte_39247_6 rfl (lv_at hl 1 rfl) ?_
  refine lv_isub hx hb dJ7_copyOfRangeByte_39247_7 ?_
  refine lv_topi (fun v1 e_v1 => ?_)
  have e9 : v1 = (nI n) := e_v1.trans (by rw [show (0 : Int32) = nI 0 from rfl, pk_sub (by omega)]; rfl)
  subst e9
  refine lv_istore_n (lv' := [(3, .int (nI n)), (0, .ref a_v), (1, .int 0), (2, .int (nI n))]) hx hb dJ7_copyOfRangeByte_39247_8 rfl hl (by decide) rfl (fun ls hl => ?_)
  refine lv_iload_n hx hb dJ7_copyOfRangeByte_39247_9 rfl (lv_at hl 0 rfl) ?_
  refine va_newaT (ty := .byte) (a0 := (n, .inl (fun _ => 0))) hx hb (hta _ ac_byte) rfl (fun _ h9 => by cases h9) 6 rfl hK hP hD hS hA (fun _ => rfl) (nI_pos (by omega)) (nI_clamp (by omega)) (by show n * 1 ≤ _; omega) (Nat.le_of_ble_eq_true rfl) (by show _ ≤ (70 : Nat); omega) dJ7_copyOfRangeByte_39247_10 (fun q10 H hP hD hS => ?_)
  have hP : va_P (dC, dI) vwCl [(a_v, .inl (cT 6, cap, .inl f)), (q10, .inl (cT 6, n, .inl (fun _ => 0)))] H := hP
  have hD : va_D A [(a_v, .inl (cT 6, cap, .inl f)), (q10, .inl (cT 6, n, .inl (fun _ => 0)))] := hD
  refine lv_astore (lv' := [(4, .ref q10), (3, .int (nI n)), (0, .ref a_v), (1, .int 0), (2, .int (nI n))]) hx hb dJ7_copyOfRangeByte_39247_12 hl (by decide) rfl (fun ls hl => ?_)
  refine lv_aload_n hx hb dJ7_copyOfRangeByte_39247_14 rfl (lv_at hl 2 rfl) ?_
  refine lv_iload_n hx hb dJ7_copyOfRangeByte_39247_15 rfl (lv_at hl 3 rfl) ?_
  refine lv_aload hx hb dJ7_copyOfRangeByte_39247_16 (lv_at hl 0 rfl) ?_
  refine lv_iconst (v := 0) hx hb dJ7_copyOfRangeByte_39247_18 (by decide) ?_
  refine lv_aload_n hx hb dJ7_copyOfRangeByte_39247_19 rfl (lv_at hl 2 rfl) ?_
  refine va_alen (v := (nI cap)) hx hb hK hP 0 6 rfl rfl rfl dJ7_copyOfRangeByte_39247_20 ?_
  refine lv_iload_n hx hb dJ7_copyOfRangeByte_39247_21 rfl (lv_at hl 3 rfl) ?_
  refine lv_isub hx hb dJ7_copyOfRangeByte_39247_22 ?_
  refine lv_topi (fun v2 e_v2 => ?_)
  have e9 : v2 = (nI cap) := e_v2.trans (by rw [show (0 : Int32) = nI 0 from rfl, pk_sub (by omega)]; rfl)
  subst e9
  refine lv_iload_n hx hb dJ7_copyOfRangeByte_39247_23 rfl (lv_at hl 1 rfl) ?_
  refine va_mmin hx hb (hml.trans hl.1.symm) hown (hta _ lm_J7_304) (hta _ mth_minint_s) (hta _ mth_i) (hta _ mth_minint_c) (Nat.le_of_ble_eq_true rfl) (Nat.le_of_ble_eq_true rfl) (Nat.le_of_ble_eq_true rfl) (by show _ ≤ (70 : Nat); (try dsimp only); omega) dJ7_copyOfRangeByte_39247_24 ?_
  refine lv_topi (fun v3 e_v3 => ?_)
  have e9 : v3 = (nI n) := e_v3.trans (if_pos (nI_lt hn (by omega)))
  subst e9
  refine va_copyi hx hb (hml.trans hl.1.symm) hown (hta _ lm_J7_150) (hta _ cp_n) (hta _ cp_s) (hta _ cp_i) hK hP hD hS 0 1 6 6 rfl rfl rfl rfl rfl (by decide) (by decide) (nI_pos (by omega)) (by have e0 : (nI n).toNatClampNeg = n := nI_clamp (by omega); have e9 : (0 : Int32).toNatClampNeg = 0 := rfl; omega) (by have e0 : (nI n).toNatClampNeg = n := nI_clamp (by omega); have e9 : (0 : Int32).toNatClampNeg = 0 := rfl; omega) (fun i _ => hff _) (Nat.le_of_ble_eq_true rfl) (Nat.le_of_ble_eq_true rfl) dJ7_copyOfRangeByte_39247_27 (fun H locs hP hD hS => ?_)
  have hP : va_P (dC, dI) vwCl [(a_v, .inl (cT 6, cap, .inl f)), (q10, .inl (cT 6, n, .inl (va_cpy f (fun _ => 0) (0 : Int32).toNatClampNeg (0 : Int32).toNatClampNeg (nI n).toNatClampNeg)))] H := hP
  have hD : va_D A [(a_v, .inl (cT 6, cap, .inl f)), (q10, .inl (cT 6, n, .inl (va_cpy f (fun _ => 0) (0 : Int32).toNatClampNeg (0 : Int32).toNatClampNeg (nI n).toNatClampNeg)))] := hD
  refine lv_aload hx hb dJ7_copyOfRangeByte_39247_30 (lv_at hl 0 rfl) ?_
  refine W.widen (k := 1) (n := 70) (by show _ ≤ (1 : Nat); omega) (by show _ ≤ (70 : Nat); omega) ?_
  exact W.aret (v := .ref q10) hx hb hr (Or.inr ⟨_, rfl⟩) (Or.inr ⟨_, rfl⟩) (fun t ht hW => ⟨⟨(), q10, rfl, trivial, by rw [ht]; exact hP, hD⟩, hS.F ht⟩) hS.2.2 dJ7_copyOfRangeByte_39247_32
set_option maxHeartbeats 4000000 in
set_option maxRecDepth 100000 in
theorem cS_range (l : Launch) (dC : Nat → ClassId) (dI : Nat → Nat → Nat) (cT : Nat → ClassId) {Hh : Heap} {a_v n cap : Nat} {f : Nat → Int32} (hn : n < cap) (h7 : cap ≤ 70) (hff : BF f) {XW : va_W} (eX : XW = [(a_v, .inl (cT 6, cap, .inl f))]) (hP0 : va_P (dC, dI) vwCl XW Hh) (hD0 : va_D (fun _ => True) XW) : Met l yJ7_copyOfRange_39247 (wA yJ7_copyOfRange_39247 cJ7_copyOfRange_39247 3 (some (.array .byte))) ({ frames := 2, cells := 1, slots := 70, locals := 64 } : Room) (PJM dC dI cT [.ref a_v, .int 0, .int (nI n)] Hh (va_A XW Hh.size)) (va_Qr (fun (_ : Unit) => True) (fun _ a t => va_P (dC, dI) vwCl [(a_v, .inl (cT 6, cap, .inl f)), (a, .inl (cT 6, n, .inl (va_cpy f (fun _ => 0) (0 : Int32).toNatClampNeg (0 : Int32).toNatClampNeg (nI n).toNatClampNeg)))] t.heap ∧ va_D (va_A XW Hh.size) [(a_v, .inl (cT 6, cap, .inl f)), (a, .inl (cT 6, n, .inl (va_cpy f (fun _ => 0) (0 : Int32).toNatClampNeg (0 : Int32).toNatClampNeg (nI n).toNatClampNeg)))]) (va_A XW Hh.size)) 1 70 (va_A XW Hh.size) := by
  subst eX
  refine MofWF (cc := cJ7_copyOfRange_39247) (maxL := 3) (ret := (some (.array .byte))) (by decide +kernel) rfl ?_
  intro p e s m args below meth c s₁ B hml hv
  obtain ⟨rfl, hH, hK, hZ, hSP⟩ := hv
  subst hH
  have hx := B.exec
  have hb := B.bytes
  have hr := B.returns
  have hta : ∀ w9 ∈ ALLW, w9.before [.ref a_v, .int 0, .int (nI n)].toArray s = true := fun w9 hw9 => atoms_spec (ws := wA yJ7_copyOfRange_39247 cJ7_copyOfRange_39247 3 (some (.array .byte))) B.pre w9 (List.mem_cons_of_mem _ hw9)
  have hown : s.vm.findClass RJ7 = some m.cls := findClass_of_methodNamed B.named
  have hlocks := B.notSynchronized
  have hin : meth.name = "copyOfRange" := (name_of_methodNamed B.named B.method).1
  have hD := hD0.self (sz := s.heap.size)
  have hP := hP0
  generalize hAe : va_A [(a_v, .inl (cT 6, cap, .inl f))] s.heap.size = A at hD hZ ⊢
  have hA : ∀ q : Nat, s.heap.size ≤ q → A q := fun q h => by rw [← hAe]; exact Or.inr h
  have hS : va_S A s.heap s.heap [] := va_S.rf
  have hl := lv_entry [.ref a_v, .int 0, .int (nI n)] (n := 3) (Nat.le_of_ble_eq_true rfl)
  rw [lg_entry_eq]
  generalize (lg_sl [.ref a_v, .int 0, .int (nI n)] ++ List.replicate (3 - (lg_sl [.ref a_v, .int 0, .int (nI n)]).length) Slot.unset).toArray = ls at hl ⊢
  have hl : lv_has ls 3 [(0, .ref a_v), (1, .int 0), (2, .int (nI n))] := hl
  refine lv_iload_n hx hb dJ7_copyOfRange_39247_0 rfl (lv_at hl 1 rfl) ?_
  refine lv_if_ne (tgt := 10) hx hb dJ7_copyOfRange_39247_1 (by decide) (fun c0 => ?_) (fun c0 => ?_)
  · exact absurd (rfl) c0
  · clear c0
    refine lv_iload_n hx hb dJ7_copyOfRange_39247_4 rfl (lv_at hl 2 rfl) ?_
    refine lv_aload_n hx hb dJ7_copyOfRange_39247_5 rfl (lv_at hl 0 rfl) ?_
    refine va_alen (v := (nI cap)) hx hb hK hP 0 6 rfl rfl rfl dJ7_copyOfRange_39247_6 ?_
    refine lv_icmp_eq (tgt := 17) hx hb dJ7_copyOfRange_39247_7 (by decide) (fun c0 => ?_) (fun c0 => ?_)
    · exact absurd c0 (fun z => by have := (nI_eq (by omega) (by omega)).mp z; omega)
    · clear c0
      refine lv_aload_n hx hb dJ7_copyOfRange_39247_10 rfl (lv_at hl 0 rfl) ?_
      refine lv_iload_n hx hb dJ7_copyOfRange_39247_11 rfl (lv_at hl 1 rfl) ?_
      refine lv_iload_n hx hb dJ7_copyOfRange_39247_12 rfl (lv_at hl 2 rfl) ?_
      refine cjR (wr := []) (va_runS (As := [.ref a_v, .int 0, .int (nI n)]) (rest := []) ⟨hx, hb, hml, hown, hta⟩ (cS_rangeB l dC dI cT hn h7 hff rfl (hP.sub (ws' := [(a_v, .inl (cT 6, cap, .inl f))]) [0] rfl) (ds hD [0] (by decide) rfl)) (cS hta lm_J7_339 md_J7_copyOfRangeByte_39247 ⟨Nat.le_of_ble_eq_true rfl, Nat.le_of_ble_eq_true rfl⟩) ⟨fbJM, fun U hU hW => ⟨rfl, hU, va_K.moved hW.alike hK, ZS.call hZ hS hU hW (va_free hD hS hA [0] rfl), SP.warm hW hSP⟩⟩ rfl rfl hl.1 rfl (lv_room (Nat.le_of_ble_eq_true rfl)) dJ7_copyOfRange_39247_13 ⟨by show _ ≤ (1 : Nat); omega, by show _ ≤ (70 : Nat); omega⟩) hS hA hP hD [0] [] rfl rfl (by decide) (by decide) (fun _ q13 H locs _ hP hD hS => ?_)
      have hP : va_P (dC, dI) vwCl [(a_v, .inl (cT 6, cap, .inl f)), (q13, .inl (cT 6, n, .inl (va_cpy f (fun _ => 0) (0 : Int32).toNatClampNeg (0 : Int32).toNatClampNeg (nI n).toNatClampNeg)))] H := hP
      have hD : va_D A [(a_v, .inl (cT 6, cap, .inl f)), (q13, .inl (cT 6, n, .inl (va_cpy f (fun _ => 0) (0 : Int32).toNatClampNeg (0 : Int32).toNatClampNeg (nI n).toNatClampNeg)))] := hD
      refine W.widen (k := 1) (n := 70) (by show _ ≤ (1 : Nat); omega) (by show _ ≤ (70 : Nat); omega) ?_
      exact W.aret (v := .ref q13) hx hb hr (Or.inr ⟨_, rfl⟩) (Or.inr ⟨_, rfl⟩) (fun t ht hW => ⟨⟨(), q13, rfl, trivial, by rw [ht]; exact hP, hD⟩, hS.F ht⟩) hS.2.2 dJ7_copyOfRange_39247_16
set_option maxHeartbeats 4000000 in
set_option maxRecDepth 100000 in
theorem cS_getv (l : Launch) (dC : Nat → ClassId) (dI : Nat → Nat → Nat) (cT : Nat → ClassId) {Hh : Heap} {a_t a_v n : Nat} {mL : Int32} {XW : va_W} (eX : XW = [(a_t, .inr (1, [.ref a_v, .int 0, .int mL, .int (nI n)]))]) (hP0 : va_P (dC, dI) vwCl XW Hh) (hD0 : va_D (fun _ => True) XW) : Met l yJ5_getValue_6d5f1 (wA yJ5_getValue_6d5f1 cJ5_getValue_6d5f1 1 (some (.array .byte))) ({ frames := 0, cells := 0, slots := 0, locals := 0 } : Room) (PJM dC dI cT [.ref a_t] Hh (va_A XW Hh.size)) (va_Qq (S := Unit) (fun r _ => r = some a_v) (fun _ t => va_P (dC, dI) vwCl [(a_t, .inr (1, [.ref a_v, .int 0, .int mL, .int (nI n)]))] t.heap ∧ va_D (va_A XW Hh.size) [(a_t, .inr (1, [.ref a_v, .int 0, .int mL, .int (nI n)]))]) (va_A XW Hh.size)) 0 0 (va_A XW Hh.size) := by
  subst eX
  refine MofWF (cc := cJ5_getValue_6d5f1) (maxL := 1) (ret := (some (.array .byte))) (by decide +kernel) rfl ?_
  intro p e s m args below meth c s₁ B hml hv
  obtain ⟨rfl, hH, hK, hZ, hSP⟩ := hv
  subst hH
  have hx := B.exec
  have hb := B.bytes
  have hr := B.returns
  have hta : ∀ w9 ∈ ALLW, w9.before [.ref a_t].toArray s = true := fun w9 hw9 => atoms_spec (ws := wA yJ5_getValue_6d5f1 cJ5_getValue_6d5f1 1 (some (.array .byte))) B.pre w9 (List.mem_cons_of_mem _ hw9)
  have hown : s.vm.findClass RJ5 = some m.cls := findClass_of_methodNamed B.named
  have hlocks := B.notSynchronized
  have hin : meth.name = "getValue" := (name_of_methodNamed B.named B.method).1
  have hD := hD0.self (sz := s.heap.size)
  have hP := hP0
  generalize hAe : va_A [(a_t, .inr (1, [.ref a_v, .int 0, .int mL, .int (nI n)]))] s.heap.size = A at hD hZ ⊢
  have hA : ∀ q : Nat, s.heap.size ≤ q → A q := fun q h => by rw [← hAe]; exact Or.inr h
  have hS : va_S A s.heap s.heap [] := va_S.rf
  have hl := lv_entry [.ref a_t] (n := 1) (Nat.le_of_ble_eq_true rfl)
  rw [lg_entry_eq]
  generalize (lg_sl [.ref a_t] ++ List.replicate (1 - (lg_sl [.ref a_t]).length) Slot.unset).toArray = ls at hl ⊢
  have hl : lv_has ls 1 [(0, .ref a_t)] := hl
  refine lv_aload_n hx hb dJ5_getValue_6d5f1_0 rfl (lv_at hl 0 rfl) ?_
  refine va_get (D := (dC, dI)) (ci := 1) (v := .ref a_v) (C := RJ4) (T := TJ4) (N := 4) hx hb hta inJ4w hown hK hP 0 rfl rfl 0 (by decide) (hta _ lk_J5_15) (fun _ h9 => h9) rfl dJ5_getValue_6d5f1_1 ?_
  exact W.aret (v := .ref a_v) hx hb hr (Or.inr ⟨_, rfl⟩) (Or.inr ⟨_, rfl⟩) (fun t ht hW => ⟨⟨some a_v, (), rfl, rfl, by rw [ht]; exact hP, hD⟩, hS.F ht⟩) hS.2.2 dJ5_getValue_6d5f1_4
set_option maxHeartbeats 4000000 in
set_option maxRecDepth 100000 in
theorem cS_initA (l : Launch) (dC : Nat → ClassId) (dI : Nat → Nat → Nat) (cT : Nat → ClassId) {Hh : Heap} {a_s : Nat} {a_t a_v n cap : Nat} {mL : Int32} {f : Nat → Int32} (hn : n < cap) (h7 : cap ≤ 70) (hff : BF f) {XW : va_W} (eX : XW = [(a_t, .inr (1, [.ref a_v, .int 0, .int mL, .int (nI n)])), (a_v, .inl (cT 6, cap, .inl f)), (a_s, .inr (0, [.null, .int 0, .int 0, .int 0]))]) (hP0 : va_P (dC, dI) vwCl XW Hh) (hD0 : va_D (fun _ => True) XW) : Met l yJ0_init_db425 (wA yJ0_init_db425 cJ0_init_db425 5 none) ({ frames := 3, cells := 1, slots := 70, locals := 86 } : Room) (PJM dC dI cT [.ref a_s, .ref a_t, .null] Hh (va_A XW Hh.size)) (va_Qv (S := Nat) (fun _ => True) (fun q t => va_P (dC, dI) vwCl [(a_t, .inr (1, [.ref a_v, .int 0, .int mL, .int (nI n)])), (a_v, .inl (cT 6, cap, .inl f)), (a_s, .inr (0, [.ref q, .int 0, .int 0, .int 0])), (q, .inl (cT 6, n, .inl (va_cpy f (fun _ => 0) (0 : Int32).toNatClampNeg (0 : Int32).toNatClampNeg (nI n).toNatClampNeg)))] t.heap ∧ va_D (va_A XW Hh.size) [(a_t, .inr (1, [.ref a_v, .int 0, .int mL, .int (nI n)])), (a_v, .inl (cT 6, cap, .inl f)), (a_s, .inr (0, [.ref q, .int 0, .int 0, .int 0])), (q, .inl (cT 6, n, .inl (va_cpy f (fun _ => 0) (0 : Int32).toNatClampNeg (0 : Int32).toNatClampNeg (nI n).toNatClampNeg)))]) (va_A XW Hh.size)) 1 70 (va_A XW Hh.size) := by
  subst eX
  refine MofWF (cc := cJ0_init_db425) (maxL := 5) (ret := none) (by decide +kernel) rfl ?_
  intro p e s m args below meth c s₁ B hml hv
  obtain ⟨rfl, hH, hK, hZ, hSP⟩ := hv
  subst hH
  have hx := B.exec
  have hb := B.bytes
  have hr := B.returns
  have hta : ∀ w9 ∈ ALLW, w9.before [.ref a_s, .ref a_t, .null].toArray s = true := fun w9 hw9 => atoms_spec (ws := wA yJ0_init_db425 cJ0_init_db425 5 none) B.pre w9 (List.mem_cons_of_mem _ hw9)
  have hown : s.vm.findClass RJ0 = some m.cls := findClass_of_methodNamed B.named
  have hlocks := B.notSynchronized
  have hin : meth.name = "<init>" := (name_of_methodNamed B.named B.method).1
  have hD := hD0.self (sz := s.heap.size)
  have hP := hP0
  generalize hAe : va_A [(a_t, .inr (1, [.ref a_v, .int 0, .int mL, .int (nI n)])), (a_v, .inl (cT 6, cap, .inl f)), (a_s, .inr (0, [.null, .int 0, .int 0, .int 0]))] s.heap.size = A at hD hZ ⊢
  have hA : ∀ q : Nat, s.heap.size ≤ q → A q := fun q h => by rw [← hAe]; exact Or.inr h
  have hS : va_S A s.heap s.heap [] := va_S.rf
  have hl := lv_entry [.ref a_s, .ref a_t, .null] (n := 5) (Nat.le_of_ble_eq_true rfl)
  rw [lg_entry_eq]
  generalize (lg_sl [.ref a_s, .ref a_t, .null] ++ List.replicate (5 - (lg_sl [.ref a_s, .ref a_t, .null]).length) Slot.unset).toArray = ls at hl ⊢
  have hl : lv_has ls 5 [(0, .ref a_s), (1, .ref a_t), (2, .null)] := hl
  refine lv_aload_n hx hb dJ0_init_db425_0 rfl (lv_at hl 0 rfl) ?_
  refine W.objInit hx hb hown (hta _ lm_J0_1) (hta _ oi_i) (hta _ oi_c) rfl (by rw [hml]; exact hl.1) rfl dJ0_init_db425_1 (Nat.le_of_ble_eq_true rfl) (Nat.le_of_ble_eq_true rfl) ?_
  refine W.eq (g2 := F0 m 4 ls []) rfl ?_
  refine lv_aload_n hx hb dJ0_init_db425_4 rfl (lv_at hl 1 rfl) ?_
  refine cjO (wr := [(a_v, .inl (cT 6, cap, .inl f)), (a_s, .inr (0, [.null, .int 0, .int 0, .int 0]))]) (va_runV (As := []) (rest := []) ⟨hx, hb, hml, hown, hta⟩ (cS_getv l dC dI cT rfl (hP.sub (ws' := [(a_t, .inr (1, [.ref a_v, .int 0, .int mL, .int (nI n)]))]) [0] rfl) (ds hD [0] (by decide) rfl)) (cV hta lm_J0_552 mv_J5_getValue_6d5f1 ⟨Nat.le_of_ble_eq_true rfl, Nat.le_of_ble_eq_true rfl⟩) ⟨fbJM, va_recv hK hP (ci := 1) (q0 := 0) rfl rfl, fun U hU hW => ⟨rfl, hU, va_K.moved hW.alike hK, ZS.call hZ hS hU hW (va_free hD hS hA [0] rfl), SP.warm hW hSP⟩⟩ rfl rfl hl.1 rfl (lv_room (Nat.le_of_ble_eq_true rfl)) dJ0_init_db425_5 ⟨Nat.le_of_ble_eq_true rfl, Nat.le_of_ble_eq_true rfl⟩) hS hA hP hD [0] [1, 2] rfl rfl (by decide) (by decide) (fun r9 _ H locs hu hP hD hS => ?_)
  obtain rfl := hu
  refine W.eq (g2 := F0 m 8 ls [.ref a_v]) rfl ?_
  have hP : va_P (dC, dI) vwCl [(a_v, .inl (cT 6, cap, .inl f)), (a_s, .inr (0, [.null, .int 0, .int 0, .int 0])), (a_t, .inr (1, [.ref a_v, .int 0, .int mL, .int (nI n)]))] H := hP
  have hD : va_D A [(a_v, .inl (cT 6, cap, .inl f)), (a_s, .inr (0, [.null, .int 0, .int 0, .int 0])), (a_t, .inr (1, [.ref a_v, .int 0, .int mL, .int (nI n)]))] := hD
  refine lv_astore_n (lv' := [(3, .ref a_v), (0, .ref a_s), (1, .ref a_t), (2, .null)]) hx hb dJ0_init_db425_8 rfl hl (by decide) rfl (fun ls hl => ?_)
  refine lv_aload_n hx hb dJ0_init_db425_9 rfl (lv_at hl 2 rfl) ?_
  refine crI (va_runU (As := []) (rest := []) ⟨hx, hb, hml, hown, hta⟩ (cJ_length l dC dI cT rfl (hP.sub (ws' := [(a_t, .inr (1, [.ref a_v, .int 0, .int mL, .int (nI n)]))]) [2] rfl)) (va_cwO 0 hta gd_len rfl rfl rfl (show Cond.code yJ5_length_8abf5 cJ5_length_8abf5 1 (some .int) ∈ ALLW from am4 140) ⟨by decide +kernel, by decide +kernel, by decide +kernel⟩ ⟨Nat.le_of_ble_eq_true rfl, Nat.le_of_ble_eq_true rfl⟩) ⟨fbJ, va_recv hK hP (ci := 1) (q0 := 2) rfl rfl, fun U hU hW => ⟨rfl, hU, va_K.moved hW.alike hK, ZS.call hZ hS hU hW (frA hS hA)⟩⟩ rfl rfl hl.1 rfl (lv_room (Nat.le_of_ble_eq_true rfl)) dJ0_init_db425_10 ⟨Nat.le_of_ble_eq_true rfl, Nat.le_of_ble_eq_true rfl⟩) hS hA (fun locs hS => ?_)
  refine lv_istore (lv' := [(4, .int (nI n)), (3, .ref a_v), (0, .ref a_s), (1, .ref a_t), (2, .null)]) hx hb dJ0_init_db425_13 hl (by decide) rfl (fun ls hl => ?_)
  refine lv_aload_n hx hb dJ0_init_db425_15 rfl (lv_at hl 3 rfl) ?_
  refine crI (va_runV (As := []) (rest := []) ⟨hx, hb, hml, hown, hta⟩ (cJ_lat l dC dI cT rfl (hP.sub (ws' := [(a_t, .inr (1, [.ref a_v, .int 0, .int mL, .int (nI n)]))]) [2] rfl)) (cV hta lm_J0_1047 mv_J5_isLatin1_aae02 ⟨Nat.le_of_ble_eq_true rfl, Nat.le_of_ble_eq_true rfl⟩) ⟨fbJ, va_recv hK hP (ci := 1) (q0 := 2) rfl rfl, fun U hU hW => ⟨rfl, hU, va_K.moved hW.alike hK, ZS.call hZ hS hU hW (frA hS hA)⟩⟩ rfl rfl hl.1 rfl (lv_room (Nat.le_of_ble_eq_true rfl)) dJ0_init_db425_16 ⟨Nat.le_of_ble_eq_true rfl, Nat.le_of_ble_eq_true rfl⟩) hS hA (fun locs hS => ?_)
  refine lv_if_eq (tgt := 41) hx hb dJ0_init_db425_19 (by decide) (fun c0 => ?_) (fun c0 => ?_)
  · exact absurd c0 (by decide)
  · clear c0
    refine lv_aload_n hx hb dJ0_init_db425_22 rfl (lv_at hl 2 rfl) ?_
    refine lv_iconst (v := 0) hx hb dJ0_init_db425_23 (by decide) ?_
    refine va_putF (D := (dC, dI)) (ci := 0) (v := .int 0) (ty := .byte) (C := RJ0) (T := TJ0) (N := 4) hx hb hta inJ0w tyJ0 tyJ0_ok nmJ0 hown hK hP hD hS 1 rfl rfl 1 (by decide) (hta _ lk_J0_15) (fun _ h9 => h9) rfl hin rfl (by decide +kernel) rfl rfl (Nat.le_of_ble_eq_true rfl) dJ0_init_db425_24 (fun H locs hP hD hS => ?_)
    have hP : va_P (dC, dI) vwCl [(a_v, .inl (cT 6, cap, .inl f)), (a_s, .inr (0, [.null, .int 0, .int 0, .int 0])), (a_t, .inr (1, [.ref a_v, .int 0, .int mL, .int (nI n)]))] H := hP
    have hD : va_D A [(a_v, .inl (cT 6, cap, .inl f)), (a_s, .inr (0, [.null, .int 0, .int 0, .int 0])), (a_t, .inr (1, [.ref a_v, .int 0, .int mL, .int (nI n)]))] := hD
    refine lv_aload_n hx hb dJ0_init_db425_27 rfl (lv_at hl 2 rfl) ?_
    refine lv_aload_n hx hb dJ0_init_db425_28 rfl (lv_at hl 1 rfl) ?_
    refine lv_iconst (v := 0) hx hb dJ0_init_db425_29 (by decide) ?_
    refine lv_iload hx hb dJ0_init_db425_30 (lv_at hl 0 rfl) ?_
    refine cjR (wr := [(a_s, .inr (0, [.null, .int 0, .int 0, .int 0])), (a_t, .inr (1, [.ref a_v, .int 0, .int mL, .int (nI n)]))]) (va_runS (As := [.ref a_v, .int 0, .int (nI n)]) (rest := [.ref a_s]) ⟨hx, hb, hml, hown, hta⟩ (cS_range l dC dI cT hn h7 hff rfl (hP.sub (ws' := [(a_v, .inl (cT 6, cap, .inl f))]) [0] rfl) (ds hD [0] (by decide) rfl)) (cS hta lm_J0_54 md_J7_copyOfRange_39247 ⟨Nat.le_of_ble_eq_true rfl, Nat.le_of_ble_eq_true rfl⟩) ⟨fbJM, fun U hU hW => ⟨rfl, hU, va_K.moved hW.alike hK, ZS.call hZ hS hU hW (va_free hD hS hA [0] rfl), SP.warm hW hSP⟩⟩ rfl rfl hl.1 rfl (lv_room (Nat.le_of_ble_eq_true rfl)) dJ0_init_db425_32 ⟨by show _ ≤ (1 : Nat); omega, by show _ ≤ (70 : Nat); omega⟩) hS hA hP hD [0] [1, 2] rfl rfl (by decide) (by decide) (fun _ q32 H locs _ hP hD hS => ?_)
    have hP : va_P (dC, dI) vwCl [(a_s, .inr (0, [.null, .int 0, .int 0, .int 0])), (a_t, .inr (1, [.ref a_v, .int 0, .int mL, .int (nI n)])), (a_v, .inl (cT 6, cap, .inl f)), (q32, .inl (cT 6, n, .inl (va_cpy f (fun _ => 0) (0 : Int32).toNatClampNeg (0 : Int32).toNatClampNeg (nI n).toNatClampNeg)))] H := hP
    have hD : va_D A [(a_s, .inr (0, [.null, .int 0, .int 0, .int 0])), (a_t, .inr (1, [.ref a_v, .int 0, .int mL, .int (nI n)])), (a_v, .inl (cT 6, cap, .inl f)), (q32, .inl (cT 6, n, .inl (va_cpy f (fun _ => 0) (0 : Int32).toNatClampNeg (0 : Int32).toNatClampNeg (nI n).toNatClampNeg)))] := hD
    refine va_putF (D := (dC, dI)) (ci := 0) (v := .ref q32) (ty := (.array .byte)) (C := RJ0) (T := TJ0) (N := 4) hx hb hta inJ0w tyJ0 tyJ0_ok nmJ0 hown hK hP hD hS 0 rfl rfl 0 (by decide) (hta _ lk_J0_9) (fun _ h9 => h9) rfl hin rfl (by decide +kernel) rfl rfl (Nat.le_of_ble_eq_true rfl) dJ0_init_db425_35 (fun H locs hP hD hS => ?_)
    have hP : va_P (dC, dI) vwCl [(a_s, .inr (0, [.ref q32, .int 0, .int 0, .int 0])), (a_t, .inr (1, [.ref a_v, .int 0, .int mL, .int (nI n)])), (a_v, .inl (cT 6, cap, .inl f)), (q32, .inl (cT 6, n, .inl (va_cpy f (fun _ => 0) (0 : Int32).toNatClampNeg (0 : Int32).toNatClampNeg (nI n).toNatClampNeg)))] H := hP
    have hD : va_D A [(a_s, .inr (0, [.ref q32, .int 0, .int 0, .int 0])), (a_t, .inr (1, [.ref a_v, .int 0, .int mL, .int (nI n)])), (a_v, .inl (cT 6, cap, .inl f)), (q32, .inl (cT 6, n, .inl (va_cpy f (fun _ => 0) (0 : Int32).toNatClampNeg (0 : Int32).toNatClampNeg (nI n).toNatClampNeg)))] := hD
    refine lv_goto (tgt := 97) hx hb dJ0_init_db425_38 (by decide) ?_
    have hP := hP.sub (ws' := [(a_t, .inr (1, [.ref a_v, .int 0, .int mL, .int (nI n)])), (a_v, .inl (cT 6, cap, .inl f)), (a_s, .inr (0, [.ref q32, .int 0, .int 0, .int 0])), (q32, .inl (cT 6, n, .inl (va_cpy f (fun _ => 0) (0 : Int32).toNatClampNeg (0 : Int32).toNatClampNeg (nI n).toNatClampNeg)))]) [1, 2, 0, 3] rfl
    have hD := hD.sub (ws' := [(a_t, .inr (1, [.ref a_v, .int 0, .int mL, .int (nI n)])), (a_v, .inl (cT 6, cap, .inl f)), (a_s, .inr (0, [.ref q32, .int 0, .int 0, .int 0])), (q32, .inl (cT 6, n, .inl (va_cpy f (fun _ => 0) (0 : Int32).toNatClampNeg (0 : Int32).toNatClampNeg (nI n).toNatClampNeg)))]) [1, 2, 0, 3] (by decide) rfl
    exact W.vret hx hb hr (fun t ht hW => ⟨⟨q32, rfl, trivial, by rw [ht]; exact hP, hD⟩, hS.F ht⟩) hS.2.2 dJ0_init_db425_97
set_option maxHeartbeats 4000000 in
set_option maxRecDepth 100000 in
theorem cS_initB (l : Launch) (dC : Nat → ClassId) (dI : Nat → Nat → Nat) (cT : Nat → ClassId) {Hh : Heap} {a_s : Nat} {a_t a_v n cap : Nat} {mL : Int32} {f : Nat → Int32} (hn : n < cap) (h7 : cap ≤ 70) (hff : BF f) {XW : va_W} (eX : XW = [(a_t, .inr (1, [.ref a_v, .int 0, .int mL, .int (nI n)])), (a_v, .inl (cT 6, cap, .inl f)), (a_s, .inr (0, [.null, .int 0, .int 0, .int 0]))]) (hP0 : va_P (dC, dI) vwCl XW Hh) (hD0 : va_D (fun _ => True) XW) : Met l yJ0_init_81219 (wA yJ0_init_81219 cJ0_init_81219 2 none) ({ frames := 4, cells := 1, slots := 70, locals := 110 } : Room) (PJM dC dI cT [.ref a_s, .ref a_t] Hh (va_A XW Hh.size)) (va_Qv (S := Nat) (fun _ => True) (fun q t => va_P (dC, dI) vwCl [(a_t, .inr (1, [.ref a_v, .int 0, .int mL, .int (nI n)])), (a_v, .inl (cT 6, cap, .inl f)), (a_s, .inr (0, [.ref q, .int 0, .int 0, .int 0])), (q, .inl (cT 6, n, .inl (va_cpy f (fun _ => 0) (0 : Int32).toNatClampNeg (0 : Int32).toNatClampNeg (nI n).toNatClampNeg)))] t.heap ∧ va_D (va_A XW Hh.size) [(a_t, .inr (1, [.ref a_v, .int 0, .int mL, .int (nI n)])), (a_v, .inl (cT 6, cap, .inl f)), (a_s, .inr (0, [.ref q, .int 0, .int 0, .int 0])), (q, .inl (cT 6, n, .inl (va_cpy f (fun _ => 0) (0 : Int32).toNatClampNeg (0 : Int32).toNatClampNeg (nI n).toNatClampNeg)))]) (va_A XW Hh.size)) 1 70 (va_A XW Hh.size) := by
  subst eX
  refine MofWF (cc := cJ0_init_81219) (maxL := 2) (ret := none) (by decide +kernel) rfl ?_
  intro p e s m args below meth c s₁ B hml hv
  obtain ⟨rfl, hH, hK, hZ, hSP⟩ := hv
  subst hH
  have hx := B.exec
  have hb := B.bytes
  have hr := B.returns
  have hta : ∀ w9 ∈ ALLW, w9.before [.ref a_s, .ref a_t].toArray s = true := fun w9 hw9 => atoms_spec (ws := wA yJ0_init_81219 cJ0_init_81219 2 none) B.pre w9 (List.mem_cons_of_mem _ hw9)
  have hown : s.vm.findClass RJ0 = some m.cls := findClass_of_methodNamed B.named
  have hlocks := B.notSynchronized
  have hin : meth.name = "<init>" := (name_of_methodNamed B.named B.method).1
  have hD := hD0.self (sz := s.heap.size)
  have hP := hP0
  generalize hAe : va_A [(a_t, .inr (1, [.ref a_v, .int 0, .int mL, .int (nI n)])), (a_v, .inl (cT 6, cap, .inl f)), (a_s, .inr (0, [.null, .int 0, .int 0, .int 0]))] s.heap.size = A at hD hZ ⊢
  have hA : ∀ q : Nat, s.heap.size ≤ q → A q := fun q h => by rw [← hAe]; exact Or.inr h
  have hS : va_S A s.heap s.heap [] := va_S.rf
  have hl := lv_entry [.ref a_s, .ref a_t] (n := 2) (Nat.le_of_ble_eq_true rfl)
  rw [lg_entry_eq]
  generalize (lg_sl [.ref a_s, .ref a_t] ++ List.replicate (2 - (lg_sl [.ref a_s, .ref a_t]).length) Slot.unset).toArray = ls at hl ⊢
  have hl : lv_has ls 2 [(0, .ref a_s), (1, .ref a_t)] := hl
  refine lv_aload_n hx hb dJ0_init_81219_0 rfl (lv_at hl 0 rfl) ?_
  refine lv_aload_n hx hb dJ0_init_81219_1 rfl (lv_at hl 1 rfl) ?_
  refine lv_null hx hb dJ0_init_81219_2 ?_
  refine cjV (wr := []) (va_runI (As := [.ref a_t, .null]) (rest := []) ⟨hx, hb, hml, hown, hta⟩ (cS_initA l dC dI cT hn h7 hff rfl (hP.sub (ws' := [(a_t, .inr (1, [.ref a_v, .int 0, .int mL, .int (nI n)])), (a_v, .inl (cT 6, cap, .inl f)), (a_s, .inr (0, [.null, .int 0, .int 0, .int 0]))]) [0, 1, 2] rfl) (ds hD [0, 1, 2] (by decide) rfl)) (cI hta lm_J0_489 md_J0_init_db425 ⟨Nat.le_of_ble_eq_true rfl, Nat.le_of_ble_eq_true rfl⟩) ⟨fbJM, fun U hU hW => ⟨rfl, hU, va_K.moved hW.alike hK, ZS.call hZ hS hU hW (va_free hD hS hA [0, 1, 2] rfl), SP.warm hW hSP⟩⟩ rfl rfl hl.1 rfl (lv_room (Nat.le_of_ble_eq_true rfl)) dJ0_init_81219_3 ⟨by show _ ≤ (1 : Nat); omega, by show _ ≤ (70 : Nat); omega⟩) hS hA hP hD [0, 1, 2] [] rfl rfl (by decide) (by decide) (fun u3 H locs _ hP hD hS => ?_)
  have hP : va_P (dC, dI) vwCl [(a_t, .inr (1, [.ref a_v, .int 0, .int mL, .int (nI n)])), (a_v, .inl (cT 6, cap, .inl f)), (a_s, .inr (0, [.ref u3, .int 0, .int 0, .int 0])), (u3, .inl (cT 6, n, .inl (va_cpy f (fun _ => 0) (0 : Int32).toNatClampNeg (0 : Int32).toNatClampNeg (nI n).toNatClampNeg)))] H := hP
  have hD : va_D A [(a_t, .inr (1, [.ref a_v, .int 0, .int mL, .int (nI n)])), (a_v, .inl (cT 6, cap, .inl f)), (a_s, .inr (0, [.ref u3, .int 0, .int 0, .int 0])), (u3, .inl (cT 6, n, .inl (va_cpy f (fun _ => 0) (0 : Int32).toNatClampNeg (0 : Int32).toNatClampNeg (nI n).toNatClampNeg)))] := hD
  have hP := hP.sub (ws' := [(a_t, .inr (1, [.ref a_v, .int 0, .int mL, .int (nI n)])), (a_v, .inl (cT 6, cap, .inl f)), (a_s, .inr (0, [.ref u3, .int 0, .int 0, .int 0])), (u3, .inl (cT 6, n, .inl (va_cpy f (fun _ => 0) (0 : Int32).toNatClampNeg (0 : Int32).toNatClampNeg (nI n).toNatClampNeg)))]) [0, 1, 2, 3] rfl
  have hD := hD.sub (ws' := [(a_t, .inr (1, [.ref a_v, .int 0, .int mL, .int (nI n)])), (a_v, .inl (cT 6, cap, .inl f)), (a_s, .inr (0, [.ref u3, .int 0, .int 0, .int 0])), (u3, .inl (cT 6, n, .inl (va_cpy f (fun _ => 0) (0 : Int32).toNatClampNeg (0 : Int32).toNatClampNeg (nI n).toNatClampNeg)))]) [0, 1, 2, 3] (by decide) rfl
  exact W.vret hx hb hr (fun t ht hW => ⟨⟨u3, rfl, trivial, by rw [ht]; exact hP, hD⟩, hS.F ht⟩) hS.2.2 dJ0_init_81219_6
set_option maxHeartbeats 4000000 in
set_option maxRecDepth 100000 in
theorem cS_toString (l : Launch) (dC : Nat → ClassId) (dI : Nat → Nat → Nat) (cT : Nat → ClassId) {Hh : Heap} {a_t a_v n cap : Nat} {mL : Int32} {f : Nat → Int32} (hn : n < cap) (h7 : cap ≤ 70) (hff : BF f) {XW : va_W} (eX : XW = [(a_t, .inr (1, [.ref a_v, .int 0, .int mL, .int (nI n)])), (a_v, .inl (cT 6, cap, .inl f))]) (hP0 : va_P (dC, dI) vwCl XW Hh) (hD0 : va_D (fun _ => True) XW) : Met l yJ4_toString_0e30d (wA yJ4_toString_0e30d cJ4_toString_0e30d 1 (some (.object "java/lang/String"))) ({ frames := 5, cells := 2, slots := 74, locals := 131 } : Room) (PJM dC dI cT [.ref a_t] Hh (va_A XW Hh.size)) (va_Qr (S := Nat × (Nat → Int32)) (fun u => (∀ j, j < n → u.2 j = f j) ∧ BF u.2) (fun u a t => va_P (dC, dI) vwCl (BW cT a_t n (a_v, cap, f, mL) ++ STW cT a u.1 n u.2) t.heap ∧ va_D (va_A XW Hh.size) (BW cT a_t n (a_v, cap, f, mL) ++ STW cT a u.1 n u.2)) (va_A XW Hh.size)) 2 74 (va_A XW Hh.size) := by
  subst eX
  refine MofWF (cc := cJ4_toString_0e30d) (maxL := 1) (ret := (some (.object "java/lang/String"))) (by decide +kernel) rfl ?_
  intro p e s m args below meth c s₁ B hml hv
  obtain ⟨rfl, hH, hK, hZ, hSP⟩ := hv
  subst hH
  have hx := B.exec
  have hb := B.bytes
  have hr := B.returns
  have hta : ∀ w9 ∈ ALLW, w9.before [.ref a_t].toArray s = true := fun w9 hw9 => atoms_spec (ws := wA yJ4_toString_0e30d cJ4_toString_0e30d 1 (some (.object "java/lang/String"))) B.pre w9 (List.mem_cons_of_mem _ hw9)
  have hown : s.vm.findClass RJ4 = some m.cls := findClass_of_methodNamed B.named
  have hlocks := B.notSynchronized
  have hin : meth.name = "toString" := (name_of_methodNamed B.named B.method).1
  have hD := hD0.self (sz := s.heap.size)
  have hP := hP0
  generalize hAe : va_A [(a_t, .inr (1, [.ref a_v, .int 0, .int mL, .int (nI n)])), (a_v, .inl (cT 6, cap, .inl f))] s.heap.size = A at hD hZ ⊢
  have hA : ∀ q : Nat, s.heap.size ≤ q → A q := fun q h => by rw [← hAe]; exact Or.inr h
  have hS : va_S A s.heap s.heap [] := va_S.rf
  have hl := lv_entry [.ref a_t] (n := 1) (Nat.le_of_ble_eq_true rfl)
  rw [lg_entry_eq]
  generalize (lg_sl [.ref a_t] ++ List.replicate (1 - (lg_sl [.ref a_t]).length) Slot.unset).toArray = ls at hl ⊢
  have hl : lv_has ls 1 [(0, .ref a_t)] := hl
  refine va_new (ci := 0) (fs := [.null, .int 0, .int 0, .int 0]) (C := RJ0) (T := TJ0) (N := 4) hx hb hta inJ0w tyJ0 tyJ0_ok hown (hta _ lc_J4_18) (hta _ inst_J0) (hta _ ini_J0) hK hP hD hS hA rfl (fun j hj => by rcases (show j = 0 ∨ j = 1 ∨ j = 2 ∨ j = 3 by omega) with rfl | rfl | rfl | rfl <;> rfl) (by show _ ≤ (2 : Nat); omega) (by show _ ≤ (74 : Nat); omega) dJ4_toString_0e30d_0 (fun q0 H hP hD hS => ?_)
  have hP : va_P (dC, dI) vwCl [(a_t, .inr (1, [.ref a_v, .int 0, .int mL, .int (nI n)])), (a_v, .inl (cT 6, cap, .inl f)), (q0, .inr (0, [.null, .int 0, .int 0, .int 0]))] H := hP
  have hD : va_D A [(a_t, .inr (1, [.ref a_v, .int 0, .int mL, .int (nI n)])), (a_v, .inl (cT 6, cap, .inl f)), (q0, .inr (0, [.null, .int 0, .int 0, .int 0]))] := hD
  refine lv_dup hx hb dJ4_toString_0e30d_3 rfl ?_
  refine lv_aload_n hx hb dJ4_toString_0e30d_4 rfl (lv_at hl 0 rfl) ?_
  refine cjV (wr := []) (va_runI (As := [.ref a_t]) (rest := [.ref q0]) ⟨hx, hb, hml, hown, hta⟩ (cS_initB l dC dI cT hn h7 hff rfl (hP.sub (ws' := [(a_t, .inr (1, [.ref a_v, .int 0, .int mL, .int (nI n)])), (a_v, .inl (cT 6, cap, .inl f)), (q0, .inr (0, [.null, .int 0, .int 0, .int 0]))]) [0, 1, 2] rfl) (ds hD [0, 1, 2] (by decide) rfl)) (cI hta lm_J4_137 md_J0_init_81219 ⟨Nat.le_of_ble_eq_true rfl, Nat.le_of_ble_eq_true rfl⟩) ⟨fbJM, fun U hU hW => ⟨rfl, hU, va_K.moved hW.alike hK, ZS.call hZ hS hU hW (va_free hD hS hA [0, 1, 2] rfl), SP.warm hW hSP⟩⟩ rfl rfl hl.1 rfl (lv_room (Nat.le_of_ble_eq_true rfl)) dJ4_toString_0e30d_5 ⟨by show _ ≤ (2 : Nat); omega, by show _ ≤ (74 : Nat); omega⟩) hS hA hP hD [0, 1, 2] [] rfl rfl (by decide) (by decide) (fun u5 H locs _ hP hD hS => ?_)
  have hP : va_P (dC, dI) vwCl [(a_t, .inr (1, [.ref a_v, .int 0, .int mL, .int (nI n)])), (a_v, .inl (cT 6, cap, .inl f)), (q0, .inr (0, [.ref u5, .int 0, .int 0, .int 0])), (u5, .inl (cT 6, n, .inl (va_cpy f (fun _ => 0) (0 : Int32).toNatClampNeg (0 : Int32).toNatClampNeg (nI n).toNatClampNeg)))] H := hP
  have hD : va_D A [(a_t, .inr (1, [.ref a_v, .int 0, .int mL, .int (nI n)])), (a_v, .inl (cT 6, cap, .inl f)), (q0, .inr (0, [.ref u5, .int 0, .int 0, .int 0])), (u5, .inl (cT 6, n, .inl (va_cpy f (fun _ => 0) (0 : Int32).toNatClampNeg (0 : Int32).toNatClampNeg (nI n).toNatClampNeg)))] := hD
  have hP := hP.sub (ws' := (BW cT a_t n (a_v, cap, f, mL) ++ STW cT q0 u5 n (va_cpy f (fun _ => 0) (0 : Int32).toNatClampNeg (0 : Int32).toNatClampNeg (nI n).toNatClampNeg))) [0, 1, 2, 3] rfl
  have hD := hD.sub (ws' := (BW cT a_t n (a_v, cap, f, mL) ++ STW cT q0 u5 n (va_cpy f (fun _ => 0) (0 : Int32).toNatClampNeg (0 : Int32).toNatClampNeg (nI n).toNatClampNeg))) [0, 1, 2, 3] (by decide) rfl
  exact W.aret (v := .ref q0) hx hb hr (Or.inl ⟨_, rfl⟩) (Or.inr ⟨_, rfl⟩) (fun t ht hW => ⟨⟨(u5, (va_cpy f (fun _ => 0) (0 : Int32).toNatClampNeg (0 : Int32).toNatClampNeg (nI n).toNatClampNeg)), q0, rfl, tos_of (by omega) hff, by rw [ht]; exact hP, hD⟩, hS.F ht⟩) hS.2.2 dJ4_toString_0e30d_8
