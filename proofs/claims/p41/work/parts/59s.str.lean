/-! TEXT: append(String), length, charAt (gen/strs.py) -/
theorem SPB.fit {sg : Nat → Int32} (h : BF sg) : ∀ j, fits .byte (.int (sg j)) = true := h
def APS (n sn : Nat) (sg f : Nat → Int32) (u : BU) : Prop := n + sn ≤ u.2.1 ∧ CAP u.2.1 ∧ (∀ j, j < n → u.2.2.1 j = f j) ∧ (∀ i, i < sn → u.2.2.1 (n + i) = sg i) ∧ BF u.2.2.1
theorem aps_of {n sn cap : Nat} {sg f : Nat → Int32} {mL : Int32} {u : BU} (hu : ENS (n + sn) cap f mL u) (hn : n ≤ cap) (hs : BF sg) (h9 : n + sn ≤ 70) : APS n sn sg f (u.1, u.2.1, va_cpy sg u.2.2.1 (0 : Int32).toNatClampNeg (nI n).toNatClampNeg (nI sn).toNatClampNeg, u.2.2.2) := by
  have e1 : (nI n).toNatClampNeg = n := nI_clamp (by omega)
  have e2 : (nI sn).toNatClampNeg = sn := nI_clamp (by omega)
  rw [e1, e2]
  refine ⟨hu.1, hu.2.2.1, fun j hj => ?_, fun i hi => ?_, sb_fitC hs hu.2.2.2.2.2⟩
  · show (if n ≤ j ∧ j < n + sn then _ else u.2.2.1 j) = f j
    rw [if_neg (by omega)]
    exact hu.2.2.2.1 j (by omega)
  · show (if n ≤ n + i ∧ n + i < n + sn then sg (0 + (n + i - n)) else _) = sg i
    rw [if_pos (by omega)]
    congr 1
    omega
set_option maxHeartbeats 4000000 in
set_option maxRecDepth 100000 in
theorem cS_coderM (l : Launch) (dC : Nat → ClassId) (dI : Nat → Nat → Nat) (cT : Nat → ClassId) {Hh : Heap} {a_s a_sv : Nat} {XW : va_W} (eX : XW = [(a_s, .inr (0, [.ref a_sv, .int 0, .int 0, .int 0]))]) (hP0 : va_P (dC, dI) vwCl XW Hh) : Met l yJ0_coder_7d493 (wA yJ0_coder_7d493 cJ0_coder_7d493 1 (some .byte)) ({ frames := 0, cells := 0, slots := 0, locals := 0 } : Room) (PJM dC dI cT [.ref a_s] Hh (va_A [] Hh.size)) (va_Qi (fun x (_ : Unit) => x = 0) (fun _ t => t.heap = Hh) (va_A [] Hh.size)) 0 0 (va_A [] Hh.size) := by
  subst eX
  refine MofWF (cc := cJ0_coder_7d493) (maxL := 1) (ret := (some .byte)) (by decide +kernel) rfl ?_
  intro p e s m args below meth c s₁ B hml hv
  obtain ⟨rfl, hH, hK, hZ, hSP⟩ := hv
  subst hH
  have hx := B.exec
  have hb := B.bytes
  have hr := B.returns
  have hta : ∀ w9 ∈ ALLW, w9.before [.ref a_s].toArray s = true := fun w9 hw9 => atoms_spec (ws := wA yJ0_coder_7d493 cJ0_coder_7d493 1 (some .byte)) B.pre w9 (List.mem_cons_of_mem _ hw9)
  have hown : s.vm.findClass RJ0 = some m.cls := findClass_of_methodNamed B.named
  have hlocks := B.notSynchronized
  have hin : meth.name = "coder" := (name_of_methodNamed B.named B.method).1
  have hP := hP0
  generalize hAe : va_A [] s.heap.size = A at hZ ⊢
  have hA : ∀ q : Nat, s.heap.size ≤ q → A q := fun q h => by rw [← hAe]; exact Or.inr h
  have hS : va_S A s.heap s.heap [] := va_S.rf
  have hl := lv_entry [.ref a_s] (n := 1) (Nat.le_of_ble_eq_true rfl)
  rw [lg_entry_eq]
  generalize (lg_sl [.ref a_s] ++ List.replicate (1 - (lg_sl [.ref a_s]).length) Slot.unset).toArray = ls at hl ⊢
  have hl : lv_has ls 1 [(0, .ref a_s)] := hl
  refine va_gets hx hb hZ.1 hS hown (hta _ lk_J0_38) (fun _ h9 => h9) dJ0_coder_7d493_0 ?_
  refine lv_if_eq (tgt := 13) hx hb dJ0_coder_7d493_3 (by decide) (fun c0 => ?_) (fun c0 => ?_)
  · exact absurd c0 (by decide)
  · clear c0
    refine lv_aload_n hx hb dJ0_coder_7d493_6 rfl (lv_at hl 0 rfl) ?_
    refine va_get (D := (dC, dI)) (ci := 0) (v := .int 0) (C := RJ0) (T := TJ0) (N := 4) hx hb hta inJ0w hown hK hP 0 rfl rfl 1 (by decide) (hta _ lk_J0_15) (fun _ h9 => h9) rfl dJ0_coder_7d493_7 ?_
    refine lv_goto (tgt := 14) hx hb dJ0_coder_7d493_10 (by decide) ?_
    exact W.zret (ty := .byte) (v := 0) hx hb hr rfl (fun t ht hW => ⟨⟨0, (), rfl, rfl, ht⟩, hS.F ht⟩) hS.2.2 dJ0_coder_7d493_14
set_option maxHeartbeats 4000000 in
set_option maxRecDepth 100000 in
theorem cS_lengthM (l : Launch) (dC : Nat → ClassId) (dI : Nat → Nat → Nat) (cT : Nat → ClassId) {Hh : Heap} {a_s a_sv sn : Nat} {sg : Nat → Int32} {XW : va_W} (eX : XW = [(a_s, .inr (0, [.ref a_sv, .int 0, .int 0, .int 0])), (a_sv, .inl (cT 6, sn, .inl sg))]) (hP0 : va_P (dC, dI) vwCl XW Hh) : Met l yJ0_length_8abf5 (wA yJ0_length_8abf5 cJ0_length_8abf5 1 (some .int)) ({ frames := 1, cells := 0, slots := 0, locals := 20 } : Room) (PJM dC dI cT [.ref a_s] Hh (va_A [] Hh.size)) (va_Qi (fun x (_ : Unit) => x = (nI sn)) (fun _ t => t.heap = Hh) (va_A [] Hh.size)) 0 0 (va_A [] Hh.size) := by
  subst eX
  refine MofWF (cc := cJ0_length_8abf5) (maxL := 1) (ret := (some .int)) (by decide +kernel) rfl ?_
  intro p e s m args below meth c s₁ B hml hv
  obtain ⟨rfl, hH, hK, hZ, hSP⟩ := hv
  subst hH
  have hx := B.exec
  have hb := B.bytes
  have hr := B.returns
  have hta : ∀ w9 ∈ ALLW, w9.before [.ref a_s].toArray s = true := fun w9 hw9 => atoms_spec (ws := wA yJ0_length_8abf5 cJ0_length_8abf5 1 (some .int)) B.pre w9 (List.mem_cons_of_mem _ hw9)
  have hown : s.vm.findClass RJ0 = some m.cls := findClass_of_methodNamed B.named
  have hlocks := B.notSynchronized
  have hin : meth.name = "length" := (name_of_methodNamed B.named B.method).1
  have hP := hP0
  generalize hAe : va_A [] s.heap.size = A at hZ ⊢
  have hA : ∀ q : Nat, s.heap.size ≤ q → A q := fun q h => by rw [← hAe]; exact Or.inr h
  have hS : va_S A s.heap s.heap [] := va_S.rf
  have hl := lv_entry [.ref a_s] (n := 1) (Nat.le_of_ble_eq_true rfl)
  rw [lg_entry_eq]
  generalize (lg_sl [.ref a_s] ++ List.replicate (1 - (lg_sl [.ref a_s]).length) Slot.unset).toArray = ls at hl ⊢
  have hl : lv_has ls 1 [(0, .ref a_s)] := hl
  refine lv_aload_n hx hb dJ0_length_8abf5_0 rfl (lv_at hl 0 rfl) ?_
  refine va_get (D := (dC, dI)) (ci := 0) (v := .ref a_sv) (C := RJ0) (T := TJ0) (N := 4) hx hb hta inJ0w hown hK hP 0 rfl rfl 0 (by decide) (hta _ lk_J0_9) (fun _ h9 => h9) rfl dJ0_length_8abf5_1 ?_
  refine va_alen (v := (nI sn)) hx hb hK hP 1 6 rfl rfl rfl dJ0_length_8abf5_4 ?_
  refine lv_aload_n hx hb dJ0_length_8abf5_5 rfl (lv_at hl 0 rfl) ?_
  refine crI (va_runV (As := []) (rest := [.int (nI sn)]) ⟨hx, hb, hml, hown, hta⟩ (cS_coderM l dC dI cT rfl (hP.sub (ws' := [(a_s, .inr (0, [.ref a_sv, .int 0, .int 0, .int 0]))]) [0] rfl)) (cV hta lm_J0_335 md_J0_coder_7d493 ⟨Nat.le_of_ble_eq_true rfl, Nat.le_of_ble_eq_true rfl⟩) ⟨fbJM, va_recv hK hP (ci := 0) (q0 := 0) rfl rfl, fun U hU hW => ⟨rfl, hU, va_K.moved hW.alike hK, ZS.call hZ hS hU hW (frA hS hA), SP.warm hW hSP⟩⟩ rfl rfl hl.1 rfl (lv_room (Nat.le_of_ble_eq_true rfl)) dJ0_length_8abf5_6 ⟨Nat.le_of_ble_eq_true rfl, Nat.le_of_ble_eq_true rfl⟩) hS hA (fun locs hS => ?_)
  refine lv_ishr hx hb dJ0_length_8abf5_9 ?_
  refine lv_topi (fun v1 e_v1 => ?_)
  have e9 : v1 = (nI sn) := e_v1.trans (sb_shr0 _)
  subst e9
  exact W.iret (v := (nI sn)) hx hb hr (fun t ht hW => ⟨⟨(nI sn), (), rfl, rfl, ht⟩, hS.F ht⟩) hS.2.2 dJ0_length_8abf5_10
set_option maxHeartbeats 4000000 in
set_option maxRecDepth 100000 in
theorem cS_inflM (l : Launch) (dC : Nat → ClassId) (dI : Nat → Nat → Nat) (cT : Nat → ClassId) {Hh : Heap} {a_s a_sv : Nat} {a_t a_v n : Nat} {mL : Int32} {XW : va_W} (eX : XW = [(a_t, .inr (1, [.ref a_v, .int 0, .int mL, .int (nI n)])), (a_s, .inr (0, [.ref a_sv, .int 0, .int 0, .int 0]))]) (hP0 : va_P (dC, dI) vwCl XW Hh) : Met l yJ5_inflateIfNeededFor_a7421 (wA yJ5_inflateIfNeededFor_a7421 cJ5_inflateIfNeededFor_a7421 2 none) ({ frames := 1, cells := 0, slots := 0, locals := 20 } : Room) (PJM dC dI cT [.ref a_t, .ref a_s] Hh (va_A [] Hh.size)) (va_Qv (fun (_ : Unit) => True) (fun _ t => t.heap = Hh) (va_A [] Hh.size)) 0 0 (va_A [] Hh.size) := by
  subst eX
  refine MofWF (cc := cJ5_inflateIfNeededFor_a7421) (maxL := 2) (ret := none) (by decide +kernel) rfl ?_
  intro p e s m args below meth c s₁ B hml hv
  obtain ⟨rfl, hH, hK, hZ, hSP⟩ := hv
  subst hH
  have hx := B.exec
  have hb := B.bytes
  have hr := B.returns
  have hta : ∀ w9 ∈ ALLW, w9.before [.ref a_t, .ref a_s].toArray s = true := fun w9 hw9 => atoms_spec (ws := wA yJ5_inflateIfNeededFor_a7421 cJ5_inflateIfNeededFor_a7421 2 none) B.pre w9 (List.mem_cons_of_mem _ hw9)
  have hown : s.vm.findClass RJ5 = some m.cls := findClass_of_methodNamed B.named
  have hlocks := B.notSynchronized
  have hin : meth.name = "inflateIfNeededFor" := (name_of_methodNamed B.named B.method).1
  have hP := hP0
  generalize hAe : va_A [] s.heap.size = A at hZ ⊢
  have hA : ∀ q : Nat, s.heap.size ≤ q → A q := fun q h => by rw [← hAe]; exact Or.inr h
  have hS : va_S A s.heap s.heap [] := va_S.rf
  have hl := lv_entry [.ref a_t, .ref a_s] (n := 2) (Nat.le_of_ble_eq_true rfl)
  rw [lg_entry_eq]
  generalize (lg_sl [.ref a_t, .ref a_s] ++ List.replicate (2 - (lg_sl [.ref a_t, .ref a_s]).length) Slot.unset).toArray = ls at hl ⊢
  have hl : lv_has ls 2 [(0, .ref a_t), (1, .ref a_s)] := hl
  refine va_gets hx hb hZ.1 hS hown (hta _ lk_J5_18) (fun _ h9 => h9) dJ5_inflateIfNeededFor_a7421_0 ?_
  refine lv_if_eq (tgt := 21) hx hb dJ5_inflateIfNeededFor_a7421_3 (by decide) (fun c0 => ?_) (fun c0 => ?_)
  · exact absurd c0 (by decide)
  · clear c0
    refine lv_aload_n hx hb dJ5_inflateIfNeededFor_a7421_6 rfl (lv_at hl 0 rfl) ?_
    refine va_get (D := (dC, dI)) (ci := 1) (v := .int 0) (C := RJ4) (T := TJ4) (N := 4) hx hb hta inJ4w hown hK hP 0 rfl rfl 1 (by decide) (hta _ lk_J5_22) (fun _ h9 => h9) rfl dJ5_inflateIfNeededFor_a7421_7 ?_
    refine lv_aload_n hx hb dJ5_inflateIfNeededFor_a7421_10 rfl (lv_at hl 1 rfl) ?_
    refine crI (va_runV (As := []) (rest := [.int 0]) ⟨hx, hb, hml, hown, hta⟩ (cS_coderM l dC dI cT rfl (hP.sub (ws' := [(a_s, .inr (0, [.ref a_sv, .int 0, .int 0, .int 0]))]) [1] rfl)) (cV hta lm_J5_40 md_J0_coder_7d493 ⟨Nat.le_of_ble_eq_true rfl, Nat.le_of_ble_eq_true rfl⟩) ⟨fbJM, va_recv hK hP (ci := 0) (q0 := 1) rfl rfl, fun U hU hW => ⟨rfl, hU, va_K.moved hW.alike hK, ZS.call hZ hS hU hW (frA hS hA), SP.warm hW hSP⟩⟩ rfl rfl hl.1 rfl (lv_room (Nat.le_of_ble_eq_true rfl)) dJ5_inflateIfNeededFor_a7421_11 ⟨Nat.le_of_ble_eq_true rfl, Nat.le_of_ble_eq_true rfl⟩) hS hA (fun locs hS => ?_)
    refine lv_icmp_eq (tgt := 21) hx hb dJ5_inflateIfNeededFor_a7421_14 (by decide) (fun c0 => ?_) (fun c0 => ?_)
    · clear c0
      exact W.vret hx hb hr (fun t ht hW => ⟨⟨(), rfl, trivial, ht⟩, hS.F ht⟩) hS.2.2 dJ5_inflateIfNeededFor_a7421_21
    · exact absurd (rfl) c0
set_option maxHeartbeats 4000000 in
set_option maxRecDepth 100000 in
theorem cS_bytesM (l : Launch) (dC : Nat → ClassId) (dI : Nat → Nat → Nat) (cT : Nat → ClassId) {Hh : Heap} {a_s a_sv sn : Nat} {sg : Nat → Int32} {a_v n cap : Nat} {f : Nat → Int32} (hsf : BF sg) (hq : n + sn ≤ cap) (h7 : cap ≤ 70) {XW : va_W} (eX : XW = [(a_v, .inl (cT 6, cap, .inl f)), (a_s, .inr (0, [.ref a_sv, .int 0, .int 0, .int 0])), (a_sv, .inl (cT 6, sn, .inl sg))]) (hP0 : va_P (dC, dI) vwCl XW Hh) (hD0 : va_D (fun _ => True) XW) : Met l yJ0_getBytes_840e7 (wA yJ0_getBytes_840e7 cJ0_getBytes_840e7 4 none) ({ frames := 1, cells := 0, slots := 0, locals := 40 } : Room) (PJM dC dI cT [.ref a_s, .ref a_v, .int (nI n), .int 0] Hh (va_A XW Hh.size)) (va_Qv (fun (_ : Unit) => True) (fun _ t => va_P (dC, dI) vwCl [(a_v, .inl (cT 6, cap, .inl (va_cpy sg f (0 : Int32).toNatClampNeg (nI n).toNatClampNeg (nI sn).toNatClampNeg))), (a_s, .inr (0, [.ref a_sv, .int 0, .int 0, .int 0])), (a_sv, .inl (cT 6, sn, .inl sg))] t.heap ∧ va_D (va_A XW Hh.size) [(a_v, .inl (cT 6, cap, .inl (va_cpy sg f (0 : Int32).toNatClampNeg (nI n).toNatClampNeg (nI sn).toNatClampNeg))), (a_s, .inr (0, [.ref a_sv, .int 0, .int 0, .int 0])), (a_sv, .inl (cT 6, sn, .inl sg))]) (va_A XW Hh.size)) 0 0 (va_A XW Hh.size) := by
  subst eX
  refine MofWF (cc := cJ0_getBytes_840e7) (maxL := 4) (ret := none) (by decide +kernel) rfl ?_
  intro p e s m args below meth c s₁ B hml hv
  obtain ⟨rfl, hH, hK, hZ, hSP⟩ := hv
  subst hH
  have hx := B.exec
  have hb := B.bytes
  have hr := B.returns
  have hta : ∀ w9 ∈ ALLW, w9.before [.ref a_s, .ref a_v, .int (nI n), .int 0].toArray s = true := fun w9 hw9 => atoms_spec (ws := wA yJ0_getBytes_840e7 cJ0_getBytes_840e7 4 none) B.pre w9 (List.mem_cons_of_mem _ hw9)
  have hown : s.vm.findClass RJ0 = some m.cls := findClass_of_methodNamed B.named
  have hlocks := B.notSynchronized
  have hin : meth.name = "getBytes" := (name_of_methodNamed B.named B.method).1
  have hD := hD0.self (sz := s.heap.size)
  have hP := hP0
  generalize hAe : va_A [(a_v, .inl (cT 6, cap, .inl f)), (a_s, .inr (0, [.ref a_sv, .int 0, .int 0, .int 0])), (a_sv, .inl (cT 6, sn, .inl sg))] s.heap.size = A at hD hZ ⊢
  have hA : ∀ q : Nat, s.heap.size ≤ q → A q := fun q h => by rw [← hAe]; exact Or.inr h
  have hS : va_S A s.heap s.heap [] := va_S.rf
  have hl := lv_entry [.ref a_s, .ref a_v, .int (nI n), .int 0] (n := 4) (Nat.le_of_ble_eq_true rfl)
  rw [lg_entry_eq]
  generalize (lg_sl [.ref a_s, .ref a_v, .int (nI n), .int 0] ++ List.replicate (4 - (lg_sl [.ref a_s, .ref a_v, .int (nI n), .int 0]).length) Slot.unset).toArray = ls at hl ⊢
  have hl : lv_has ls 4 [(0, .ref a_s), (1, .ref a_v), (2, .int (nI n)), (3, .int 0)] := hl
  refine lv_aload_n hx hb dJ0_getBytes_840e7_0 rfl (lv_at hl 0 rfl) ?_
  refine crI (va_runV (As := []) (rest := []) ⟨hx, hb, hml, hown, hta⟩ (cS_coderM l dC dI cT rfl (hP.sub (ws' := [(a_s, .inr (0, [.ref a_sv, .int 0, .int 0, .int 0]))]) [1] rfl)) (cV hta lm_J0_335 md_J0_coder_7d493 ⟨Nat.le_of_ble_eq_true rfl, Nat.le_of_ble_eq_true rfl⟩) ⟨fbJM, va_recv hK hP (ci := 0) (q0 := 1) rfl rfl, fun U hU hW => ⟨rfl, hU, va_K.moved hW.alike hK, ZS.call hZ hS hU hW (frA hS hA), SP.warm hW hSP⟩⟩ rfl rfl hl.1 rfl (lv_room (Nat.le_of_ble_eq_true rfl)) dJ0_getBytes_840e7_1 ⟨Nat.le_of_ble_eq_true rfl, Nat.le_of_ble_eq_true rfl⟩) hS hA (fun locs hS => ?_)
  refine lv_iload_n hx hb dJ0_getBytes_840e7_4 rfl (lv_at hl 3 rfl) ?_
  refine lv_icmp_ne (tgt := 28) hx hb dJ0_getBytes_840e7_5 (by decide) (fun c0 => ?_) (fun c0 => ?_)
  · exact absurd (rfl) c0
  · clear c0
    refine lv_aload_n hx hb dJ0_getBytes_840e7_8 rfl (lv_at hl 0 rfl) ?_
    refine va_get (D := (dC, dI)) (ci := 0) (v := .ref a_sv) (C := RJ0) (T := TJ0) (N := 4) hx hb hta inJ0w hown hK hP 1 rfl rfl 0 (by decide) (hta _ lk_J0_9) (fun _ h9 => h9) rfl dJ0_getBytes_840e7_9 ?_
    refine lv_iconst (v := 0) hx hb dJ0_getBytes_840e7_12 (by decide) ?_
    refine lv_aload_n hx hb dJ0_getBytes_840e7_13 rfl (lv_at hl 1 rfl) ?_
    refine lv_iload_n hx hb dJ0_getBytes_840e7_14 rfl (lv_at hl 2 rfl) ?_
    refine lv_iload_n hx hb dJ0_getBytes_840e7_15 rfl (lv_at hl 3 rfl) ?_
    refine lv_ishl hx hb dJ0_getBytes_840e7_16 ?_
    refine lv_topi (fun v1 e_v1 => ?_)
    have e9 : v1 = (nI n) := e_v1.trans (sb_shl0 _)
    subst e9
    refine lv_aload_n hx hb dJ0_getBytes_840e7_17 rfl (lv_at hl 0 rfl) ?_
    refine va_get (D := (dC, dI)) (ci := 0) (v := .ref a_sv) (C := RJ0) (T := TJ0) (N := 4) hx hb hta inJ0w hown hK hP 1 rfl rfl 0 (by decide) (hta _ lk_J0_9) (fun _ h9 => h9) rfl dJ0_getBytes_840e7_18 ?_
    refine va_alen (v := (nI sn)) hx hb hK hP 2 6 rfl rfl rfl dJ0_getBytes_840e7_21 ?_
    refine va_copyi hx hb (hml.trans hl.1.symm) hown (hta _ lm_J0_212) (hta _ cp_n) (hta _ cp_s) (hta _ cp_i) hK hP hD hS 2 0 6 6 rfl rfl rfl rfl rfl (by decide) (nI_pos (by omega)) (nI_pos (by omega)) (by have e0 : (nI sn).toNatClampNeg = sn := nI_clamp (by omega); have e1 : (nI n).toNatClampNeg = n := nI_clamp (by omega); have e9 : (0 : Int32).toNatClampNeg = 0 := rfl; omega) (by have e0 : (nI sn).toNatClampNeg = sn := nI_clamp (by omega); have e1 : (nI n).toNatClampNeg = n := nI_clamp (by omega); have e9 : (0 : Int32).toNatClampNeg = 0 := rfl; omega) (fun i _ => hsf _) (Nat.le_of_ble_eq_true rfl) (Nat.le_of_ble_eq_true rfl) dJ0_getBytes_840e7_22 (fun H locs hP hD hS => ?_)
    have hP : va_P (dC, dI) vwCl [(a_v, .inl (cT 6, cap, .inl (va_cpy sg f (0 : Int32).toNatClampNeg (nI n).toNatClampNeg (nI sn).toNatClampNeg))), (a_s, .inr (0, [.ref a_sv, .int 0, .int 0, .int 0])), (a_sv, .inl (cT 6, sn, .inl sg))] H := hP
    have hD : va_D A [(a_v, .inl (cT 6, cap, .inl (va_cpy sg f (0 : Int32).toNatClampNeg (nI n).toNatClampNeg (nI sn).toNatClampNeg))), (a_s, .inr (0, [.ref a_sv, .int 0, .int 0, .int 0])), (a_sv, .inl (cT 6, sn, .inl sg))] := hD
    refine lv_goto (tgt := 43) hx hb dJ0_getBytes_840e7_25 (by decide) ?_
    exact W.vret hx hb hr (fun t ht hW => ⟨⟨(), rfl, trivial, by rw [ht]; exact hP, hD⟩, hS.F ht⟩) hS.2.2 dJ0_getBytes_840e7_43
set_option maxHeartbeats 4000000 in
set_option maxRecDepth 100000 in
theorem cS_putM (l : Launch) (dC : Nat → ClassId) (dI : Nat → Nat → Nat) (cT : Nat → ClassId) {Hh : Heap} {a_s a_sv sn : Nat} {sg : Nat → Int32} {a_t a_v n cap : Nat} {mL : Int32} {f : Nat → Int32} (hsf : BF sg) (hq : n + sn ≤ cap) (h7 : cap ≤ 70) {XW : va_W} (eX : XW = [(a_t, .inr (1, [.ref a_v, .int 0, .int mL, .int (nI n)])), (a_v, .inl (cT 6, cap, .inl f)), (a_s, .inr (0, [.ref a_sv, .int 0, .int 0, .int 0])), (a_sv, .inl (cT 6, sn, .inl sg))]) (hP0 : va_P (dC, dI) vwCl XW Hh) (hD0 : va_D (fun _ => True) XW) : Met l yJ5_putStringAt_47b60 (wA yJ5_putStringAt_47b60 cJ5_putStringAt_47b60 3 none) ({ frames := 2, cells := 0, slots := 0, locals := 63 } : Room) (PJM dC dI cT [.ref a_t, .int (nI n), .ref a_s] Hh (va_A XW Hh.size)) (va_Qv (fun (_ : Unit) => True) (fun _ t => va_P (dC, dI) vwCl [(a_t, .inr (1, [.ref a_v, .int 0, .int mL, .int (nI n)])), (a_v, .inl (cT 6, cap, .inl (va_cpy sg f (0 : Int32).toNatClampNeg (nI n).toNatClampNeg (nI sn).toNatClampNeg))), (a_s, .inr (0, [.ref a_sv, .int 0, .int 0, .int 0])), (a_sv, .inl (cT 6, sn, .inl sg))] t.heap ∧ va_D (va_A XW Hh.size) [(a_t, .inr (1, [.ref a_v, .int 0, .int mL, .int (nI n)])), (a_v, .inl (cT 6, cap, .inl (va_cpy sg f (0 : Int32).toNatClampNeg (nI n).toNatClampNeg (nI sn).toNatClampNeg))), (a_s, .inr (0, [.ref a_sv, .int 0, .int 0, .int 0])), (a_sv, .inl (cT 6, sn, .inl sg))]) (va_A XW Hh.size)) 0 0 (va_A XW Hh.size) := by
  subst eX
  refine MofWF (cc := cJ5_putStringAt_47b60) (maxL := 3) (ret := none) (by decide +kernel) rfl ?_
  intro p e s m args below meth c s₁ B hml hv
  obtain ⟨rfl, hH, hK, hZ, hSP⟩ := hv
  subst hH
  have hx := B.exec
  have hb := B.bytes
  have hr := B.returns
  have hta : ∀ w9 ∈ ALLW, w9.before [.ref a_t, .int (nI n), .ref a_s].toArray s = true := fun w9 hw9 => atoms_spec (ws := wA yJ5_putStringAt_47b60 cJ5_putStringAt_47b60 3 none) B.pre w9 (List.mem_cons_of_mem _ hw9)
  have hown : s.vm.findClass RJ5 = some m.cls := findClass_of_methodNamed B.named
  have hlocks := B.notSynchronized
  have hin : meth.name = "putStringAt" := (name_of_methodNamed B.named B.method).1
  have hD := hD0.self (sz := s.heap.size)
  have hP := hP0
  generalize hAe : va_A [(a_t, .inr (1, [.ref a_v, .int 0, .int mL, .int (nI n)])), (a_v, .inl (cT 6, cap, .inl f)), (a_s, .inr (0, [.ref a_sv, .int 0, .int 0, .int 0])), (a_sv, .inl (cT 6, sn, .inl sg))] s.heap.size = A at hD hZ ⊢
  have hA : ∀ q : Nat, s.heap.size ≤ q → A q := fun q h => by rw [← hAe]; exact Or.inr h
  have hS : va_S A s.heap s.heap [] := va_S.rf
  have hl := lv_entry [.ref a_t, .int (nI n), .ref a_s] (n := 3) (Nat.le_of_ble_eq_true rfl)
  rw [lg_entry_eq]
  generalize (lg_sl [.ref a_t, .int (nI n), .ref a_s] ++ List.replicate (3 - (lg_sl [.ref a_t, .int (nI n), .ref a_s]).length) Slot.unset).toArray = ls at hl ⊢
  have hl : lv_has ls 3 [(0, .ref a_t), (1, .int (nI n)), (2, .ref a_s)] := hl
  refine lv_aload_n hx hb dJ5_putStringAt_47b60_0 rfl (lv_at hl 0 rfl) ?_
  refine lv_aload_n hx hb dJ5_putStringAt_47b60_1 rfl (lv_at hl 2 rfl) ?_
  refine crV (va_runV (As := [.ref a_s]) (rest := []) ⟨hx, hb, hml, hown, hta⟩ (cS_inflM l dC dI cT rfl (hP.sub (ws' := [(a_t, .inr (1, [.ref a_v, .int 0, .int mL, .int (nI n)])), (a_s, .inr (0, [.ref a_sv, .int 0, .int 0, .int 0]))]) [0, 2] rfl)) (cVP hSP.2 hta lm_J5_397 mp_J5_inflateIfNeededFor_a7421 ⟨Nat.le_of_ble_eq_true rfl, Nat.le_of_ble_eq_true rfl⟩) ⟨fbJM, va_recv hK hP (ci := 1) (q0 := 0) rfl rfl, fun U hU hW => ⟨rfl, hU, va_K.moved hW.alike hK, ZS.call hZ hS hU hW (frA hS hA), SP.warm hW hSP⟩⟩ rfl rfl hl.1 rfl (lv_room (Nat.le_of_ble_eq_true rfl)) dJ5_putStringAt_47b60_2 ⟨Nat.le_of_ble_eq_true rfl, Nat.le_of_ble_eq_true rfl⟩) hS hA (fun locs hS => ?_)
  refine lv_aload_n hx hb dJ5_putStringAt_47b60_5 rfl (lv_at hl 2 rfl) ?_
  refine lv_aload_n hx hb dJ5_putStringAt_47b60_6 rfl (lv_at hl 0 rfl) ?_
  refine va_get (D := (dC, dI)) (ci := 1) (v := .ref a_v) (C := RJ4) (T := TJ4) (N := 4) hx hb hta inJ4w hown hK hP 0 rfl rfl 0 (by decide) (hta _ lk_J5_15) (fun _ h9 => h9) rfl dJ5_putStringAt_47b60_7 ?_
  refine lv_iload_n hx hb dJ5_putStringAt_47b60_10 rfl (lv_at hl 1 rfl) ?_
  refine lv_aload_n hx hb dJ5_putStringAt_47b60_11 rfl (lv_at hl 0 rfl) ?_
  refine va_get (D := (dC, dI)) (ci := 1) (v := .int 0) (C := RJ4) (T := TJ4) (N := 4) hx hb hta inJ4w hown hK hP 0 rfl rfl 1 (by decide) (hta _ lk_J5_22) (fun _ h9 => h9) rfl dJ5_putStringAt_47b60_12 ?_
  refine cjV (wr := [(a_t, .inr (1, [.ref a_v, .int 0, .int mL, .int (nI n)]))]) (va_runV (As := [.ref a_v, .int (nI n), .int 0]) (rest := []) ⟨hx, hb, hml, hown, hta⟩ (cS_bytesM l dC dI cT hsf hq h7 rfl (hP.sub (ws' := [(a_v, .inl (cT 6, cap, .inl f)), (a_s, .inr (0, [.ref a_sv, .int 0, .int 0, .int 0])), (a_sv, .inl (cT 6, sn, .inl sg))]) [1, 2, 3] rfl) (ds hD [1, 2, 3] (by decide) rfl)) (cV hta lm_J5_399 md_J0_getBytes_840e7 ⟨Nat.le_of_ble_eq_true rfl, Nat.le_of_ble_eq_true rfl⟩) ⟨fbJM, va_recv hK hP (ci := 0) (q0 := 2) rfl rfl, fun U hU hW => ⟨rfl, hU, va_K.moved hW.alike hK, ZS.call hZ hS hU hW (va_free hD hS hA [1, 2, 3] rfl), SP.warm hW hSP⟩⟩ rfl rfl hl.1 rfl (lv_room (Nat.le_of_ble_eq_true rfl)) dJ5_putStringAt_47b60_15 ⟨Nat.le_of_ble_eq_true rfl, Nat.le_of_ble_eq_true rfl⟩) hS hA hP hD [1, 2, 3] [0] rfl rfl (by decide) (by decide) (fun _ H locs _ hP hD hS => ?_)
  have hP : va_P (dC, dI) vwCl [(a_t, .inr (1, [.ref a_v, .int 0, .int mL, .int (nI n)])), (a_v, .inl (cT 6, cap, .inl (va_cpy sg f (0 : Int32).toNatClampNeg (nI n).toNatClampNeg (nI sn).toNatClampNeg))), (a_s, .inr (0, [.ref a_sv, .int 0, .int 0, .int 0])), (a_sv, .inl (cT 6, sn, .inl sg))] H := hP
  have hD : va_D A [(a_t, .inr (1, [.ref a_v, .int 0, .int mL, .int (nI n)])), (a_v, .inl (cT 6, cap, .inl (va_cpy sg f (0 : Int32).toNatClampNeg (nI n).toNatClampNeg (nI sn).toNatClampNeg))), (a_s, .inr (0, [.ref a_sv, .int 0, .int 0, .int 0])), (a_sv, .inl (cT 6, sn, .inl sg))] := hD
  have hP := hP.sub (ws' := [(a_t, .inr (1, [.ref a_v, .int 0, .int mL, .int (nI n)])), (a_v, .inl (cT 6, cap, .inl (va_cpy sg f (0 : Int32).toNatClampNeg (nI n).toNatClampNeg (nI sn).toNatClampNeg))), (a_s, .inr (0, [.ref a_sv, .int 0, .int 0, .int 0])), (a_sv, .inl (cT 6, sn, .inl sg))]) [0, 1, 2, 3] rfl
  have hD := hD.sub (ws' := [(a_t, .inr (1, [.ref a_v, .int 0, .int mL, .int (nI n)])), (a_v, .inl (cT 6, cap, .inl (va_cpy sg f (0 : Int32).toNatClampNeg (nI n).toNatClampNeg (nI sn).toNatClampNeg))), (a_s, .inr (0, [.ref a_sv, .int 0, .int 0, .int 0])), (a_sv, .inl (cT 6, sn, .inl sg))]) [0, 1, 2, 3] (by decide) rfl
  exact W.vret hx hb hr (fun t ht hW => ⟨⟨(), rfl, trivial, by rw [ht]; exact hP, hD⟩, hS.F ht⟩) hS.2.2 dJ5_putStringAt_47b60_18
/-- the cells of a String that was made -/
def STW (cT : Nat → ClassId) (a v n : Nat) (g : Nat → Int32) : va_W := [(a, .inr (0, [.ref v, .int 0, .int 0, .int 0])), (v, .inl (cT 6, n, .inl g))]
set_option maxHeartbeats 4000000 in
set_option maxRecDepth 100000 in
theorem cS_app5M (l : Launch) (dC : Nat → ClassId) (dI : Nat → Nat → Nat) (cT : Nat → ClassId) {Hh : Heap} {a_s a_sv sn : Nat} {sg : Nat → Int32} {a_t a_v n cap : Nat} {mL : Int32} {f : Nat → Int32} (hsf : BF sg) (hn : n ≤ cap) (hq : n + sn ≤ cap) (hcap : CAP cap) (hff : BF f) {XW : va_W} (eX : XW = [(a_t, .inr (1, [.ref a_v, .int 0, .int mL, .int (nI n)])), (a_v, .inl (cT 6, cap, .inl f)), (a_s, .inr (0, [.ref a_sv, .int 0, .int 0, .int 0])), (a_sv, .inl (cT 6, sn, .inl sg))]) (hP0 : va_P (dC, dI) vwCl XW Hh) (hD0 : va_D (fun _ => True) XW) : Met l yJ5_append_cf1ce (wA yJ5_append_cf1ce cJ5_append_cf1ce 3 (some (.object "java/lang/AbstractStringBuilder"))) ({ frames := 4, cells := 1, slots := 70, locals := 91 } : Room) (PJM dC dI cT [.ref a_t, .ref a_s] Hh (va_A XW Hh.size)) (va_Qq (S := BU) (fun r u => r = some a_t ∧ APS n sn sg f u) (fun u t => va_P (dC, dI) vwCl (BW cT a_t (n + sn) u ++ STW cT a_s a_sv sn sg) t.heap ∧ va_D (va_A XW Hh.size) (BW cT a_t (n + sn) u ++ STW cT a_s a_sv sn sg)) (va_A XW Hh.size)) 1 70 (va_A XW Hh.size) := by
  subst eX
  refine MofWF (cc := cJ5_append_cf1ce) (maxL := 3) (ret := (some (.object "java/lang/AbstractStringBuilder"))) (by decide +kernel) rfl ?_
  intro p e s m args below meth c s₁ B hml hv
  obtain ⟨rfl, hH, hK, hZ, hSP⟩ := hv
  subst hH
  have hx := B.exec
  have hb := B.bytes
  have hr := B.returns
  have hta : ∀ w9 ∈ ALLW, w9.before [.ref a_t, .ref a_s].toArray s = true := fun w9 hw9 => atoms_spec (ws := wA yJ5_append_cf1ce cJ5_append_cf1ce 3 (some (.object "java/lang/AbstractStringBuilder"))) B.pre w9 (List.mem_cons_of_mem _ hw9)
  have hown : s.vm.findClass RJ5 = some m.cls := findClass_of_methodNamed B.named
  have hlocks := B.notSynchronized
  have hin : meth.name = "append" := (name_of_methodNamed B.named B.method).1
  have hD := hD0.self (sz := s.heap.size)
  have hP := hP0
  generalize hAe : va_A [(a_t, .inr (1, [.ref a_v, .int 0, .int mL, .int (nI n)])), (a_v, .inl (cT 6, cap, .inl f)), (a_s, .inr (0, [.ref a_sv, .int 0, .int 0, .int 0])), (a_sv, .inl (cT 6, sn, .inl sg))] s.heap.size = A at hD hZ ⊢
  have hA : ∀ q : Nat, s.heap.size ≤ q → A q := fun q h => by rw [← hAe]; exact Or.inr h
  have hS : va_S A s.heap s.heap [] := va_S.rf
  have hl := lv_entry [.ref a_t, .ref a_s] (n := 3) (Nat.le_of_ble_eq_true rfl)
  rw [lg_entry_eq]
  generalize (lg_sl [.ref a_t, .ref a_s] ++ List.replicate (3 - (lg_sl [.ref a_t, .ref a_s]).length) Slot.unset).toArray = ls at hl ⊢
  have hl : lv_has ls 3 [(0, .ref a_t), (1, .ref a_s)] := hl
  refine lv_aload_n hx hb dJ5_append_cf1ce_0 rfl (lv_at hl 1 rfl) ?_
  refine lv_ifnonnull (tgt := 9) hx hb dJ5_append_cf1ce_1 (by decide) ?_
  refine lv_aload_n hx hb dJ5_append_cf1ce_9 rfl (lv_at hl 1 rfl) ?_
  refine crI (va_runV (As := []) (rest := []) ⟨hx, hb, hml, hown, hta⟩ (cS_lengthM l dC dI cT rfl (hP.sub (ws' := [(a_s, .inr (0, [.ref a_sv, .int 0, .int 0, .int 0])), (a_sv, .inl (cT 6, sn, .inl sg))]) [2, 3] rfl)) (cV hta lm_J5_32 md_J0_length_8abf5 ⟨Nat.le_of_ble_eq_true rfl, Nat.le_of_ble_eq_true rfl⟩) ⟨fbJM, va_recv hK hP (ci := 0) (q0 := 2) rfl rfl, fun U hU hW => ⟨rfl, hU, va_K.moved hW.alike hK, ZS.call hZ hS hU hW (frA hS hA), SP.warm hW hSP⟩⟩ rfl rfl hl.1 rfl (lv_room (Nat.le_of_ble_eq_true rfl)) dJ5_append_cf1ce_10 ⟨Nat.le_of_ble_eq_true rfl, Nat.le_of_ble_eq_true rfl⟩) hS hA (fun locs hS => ?_)
  refine lv_istore_n (lv' := [(2, .int (nI sn)), (0, .ref a_t), (1, .ref a_s)]) hx hb dJ5_append_cf1ce_13 rfl hl (by decide) rfl (fun ls hl => ?_)
  refine lv_aload_n hx hb dJ5_append_cf1ce_14 rfl (lv_at hl 1 rfl) ?_
  refine lv_aload_n hx hb dJ5_append_cf1ce_15 rfl (lv_at hl 1 rfl) ?_
  refine va_get (D := (dC, dI)) (ci := 1) (v := .int (nI n)) (C := RJ4) (T := TJ4) (N := 4) hx hb hta inJ4w hown hK hP 0 rfl rfl 3 (by decide) (hta _ lk_J5_79) (fun _ h9 => h9) rfl dJ5_append_cf1ce_16 ?_
  refine lv_iload_n hx hb dJ5_append_cf1ce_19 rfl (lv_at hl 0 rfl) ?_
  refine lv_iadd hx hb dJ5_append_cf1ce_20 ?_
  refine lv_topi (fun v1 e_v1 => ?_)
  have e9 : v1 = (nI (n + sn)) := e_v1.trans (nI_add n sn)
  subst e9
  refine cjV (wr := [(a_s, .inr (0, [.ref a_sv, .int 0, .int 0, .int 0])), (a_sv, .inl (cT 6, sn, .inl sg))]) (va_runV (As := [.int (nI (n + sn))]) (rest := []) ⟨hx, hb, hml, hown, hta⟩ (cJ_ens l dC dI cT (Or.inl hq) hcap hff rfl (hP.sub (ws' := [(a_t, .inr (1, [.ref a_v, .int 0, .int mL, .int (nI n)])), (a_v, .inl (cT 6, cap, .inl f))]) [0, 1] rfl) (ds hD [0, 1] (by decide) rfl)) (cVP hZ.2.2.2.2.1 hta lm_J5_100 mp_J5_ensureCapacityInternal_d00df ⟨Nat.le_of_ble_eq_true rfl, Nat.le_of_ble_eq_true rfl⟩) ⟨fbJ, va_recv hK hP (ci := 1) (q0 := 0) rfl rfl, fun U hU hW => ⟨rfl, hU, va_K.moved hW.alike hK, ZS.call hZ hS hU hW (va_free hD hS hA [0, 1] rfl)⟩⟩ rfl rfl hl.1 rfl (lv_room (Nat.le_of_ble_eq_true rfl)) dJ5_append_cf1ce_21 ⟨by show _ ≤ (1 : Nat); omega, by show _ ≤ (70 : Nat); omega⟩) hS hA hP hD [0, 1] [2, 3] rfl rfl (by decide) (by decide) (fun u21 H locs hu21 hP hD hS => ?_)
  have hP : va_P (dC, dI) vwCl [(a_s, .inr (0, [.ref a_sv, .int 0, .int 0, .int 0])), (a_sv, .inl (cT 6, sn, .inl sg)), (a_t, .inr (1, [.ref u21.1, .int 0, .int u21.2.2.2, .int (nI n)])), (u21.1, .inl (cT 6, u21.2.1, .inl u21.2.2.1))] H := hP
  have hD : va_D A [(a_s, .inr (0, [.ref a_sv, .int 0, .int 0, .int 0])), (a_sv, .inl (cT 6, sn, .inl sg)), (a_t, .inr (1, [.ref u21.1, .int 0, .int u21.2.2.2, .int (nI n)])), (u21.1, .inl (cT 6, u21.2.1, .inl u21.2.2.1))] := hD
  refine lv_aload_n hx hb dJ5_append_cf1ce_24 rfl (lv_at hl 1 rfl) ?_
  refine lv_aload_n hx hb dJ5_append_cf1ce_25 rfl (lv_at hl 1 rfl) ?_
  refine va_get (D := (dC, dI)) (ci := 1) (v := .int (nI n)) (C := RJ4) (T := TJ4) (N := 4) hx hb hta inJ4w hown hK hP 2 rfl rfl 3 (by decide) (hta _ lk_J5_79) (fun _ h9 => h9) rfl dJ5_append_cf1ce_26 ?_
  refine lv_aload_n hx hb dJ5_append_cf1ce_29 rfl (lv_at hl 2 rfl) ?_
  refine cjV (wr := []) (va_runV (As := [.int (nI n), .ref a_s]) (rest := []) ⟨hx, hb, hml, hown, hta⟩ (cS_putM l dC dI cT hsf hu21.1 hu21.2.2.1.le rfl (hP.sub (ws' := [(a_t, .inr (1, [.ref u21.1, .int 0, .int u21.2.2.2, .int (nI n)])), (u21.1, .inl (cT 6, u21.2.1, .inl u21.2.2.1)), (a_s, .inr (0, [.ref a_sv, .int 0, .int 0, .int 0])), (a_sv, .inl (cT 6, sn, .inl sg))]) [2, 3, 0, 1] rfl) (ds hD [2, 3, 0, 1] (by decide) rfl)) (cVP hSP.1 hta lm_J5_208 mp_J5_putStringAt_47b60 ⟨Nat.le_of_ble_eq_true rfl, Nat.le_of_ble_eq_true rfl⟩) ⟨fbJM, va_recv hK hP (ci := 1) (q0 := 2) rfl rfl, fun U hU hW => ⟨rfl, hU, va_K.moved hW.alike hK, ZS.call hZ hS hU hW (va_free hD hS hA [2, 3, 0, 1] rfl), SP.warm hW hSP⟩⟩ rfl rfl hl.1 rfl (lv_room (Nat.le_of_ble_eq_true rfl)) dJ5_append_cf1ce_30 ⟨Nat.le_of_ble_eq_true rfl, Nat.le_of_ble_eq_true rfl⟩) hS hA hP hD [2, 3, 0, 1] [] rfl rfl (by decide) (by decide) (fun _ H locs _ hP hD hS => ?_)
  have hP : va_P (dC, dI) vwCl [(a_t, .inr (1, [.ref u21.1, .int 0, .int u21.2.2.2, .int (nI n)])), (u21.1, .inl (cT 6, u21.2.1, .inl (va_cpy sg u21.2.2.1 (0 : Int32).toNatClampNeg (nI n).toNatClampNeg (nI sn).toNatClampNeg))), (a_s, .inr (0, [.ref a_sv, .int 0, .int 0, .int 0])), (a_sv, .inl (cT 6, sn, .inl sg))] H := hP
  have hD : va_D A [(a_t, .inr (1, [.ref u21.1, .int 0, .int u21.2.2.2, .int (nI n)])), (u21.1, .inl (cT 6, u21.2.1, .inl (va_cpy sg u21.2.2.1 (0 : Int32).toNatClampNeg (nI n).toNatClampNeg (nI sn).toNatClampNeg))), (a_s, .inr (0, [.ref a_sv, .int 0, .int 0, .int 0])), (a_sv, .inl (cT 6, sn, .inl sg))] := hD
  refine lv_aload_n hx hb dJ5_append_cf1ce_33 rfl (lv_at hl 1 rfl) ?_
  refine lv_dup hx hb dJ5_append_cf1ce_34 rfl ?_
  refine va_get (D := (dC, dI)) (ci := 1) (v := .int (nI n)) (C := RJ4) (T := TJ4) (N := 4) hx hb hta inJ4w hown hK hP 0 rfl rfl 3 (by decide) (hta _ lk_J5_79) (fun _ h9 => h9) rfl dJ5_append_cf1ce_35 ?_
  refine lv_iload_n hx hb dJ5_append_cf1ce_38 rfl (lv_at hl 0 rfl) ?_
  refine lv_iadd hx hb dJ5_append_cf1ce_39 ?_
  refine lv_topi (fun v2 e_v2 => ?_)
  have e9 : v2 = (nI (n + sn)) := e_v2.trans (nI_add n sn)
  subst e9
  refine va_put (D := (dC, dI)) (ci := 1) (v := .int (nI (n + sn))) (ty := .int) (C := RJ4) (T := TJ4) (N := 4) hx hb hta inJ4w tyJ4 tyJ4_ok nmJ4 hown hK hP hD hS 0 rfl rfl 3 (by decide) (hta _ lk_J5_79) (fun _ h9 => h9) rfl (by decide +kernel) rfl rfl (Nat.le_of_ble_eq_true rfl) dJ5_append_cf1ce_40 (fun H locs hP hD hS => ?_)
  have hP : va_P (dC, dI) vwCl [(a_t, .inr (1, [.ref u21.1, .int 0, .int u21.2.2.2, .int (nI (n + sn))])), (u21.1, .inl (cT 6, u21.2.1, .inl (va_cpy sg u21.2.2.1 (0 : Int32).toNatClampNeg (nI n).toNatClampNeg (nI sn).toNatClampNeg))), (a_s, .inr (0, [.ref a_sv, .int 0, .int 0, .int 0])), (a_sv, .inl (cT 6, sn, .inl sg))] H := hP
  have hD : va_D A [(a_t, .inr (1, [.ref u21.1, .int 0, .int u21.2.2.2, .int (nI (n + sn))])), (u21.1, .inl (cT 6, u21.2.1, .inl (va_cpy sg u21.2.2.1 (0 : Int32).toNatClampNeg (nI n).toNatClampNeg (nI sn).toNatClampNeg))), (a_s, .inr (0, [.ref a_sv, .int 0, .int 0, .int 0])), (a_sv, .inl (cT 6, sn, .inl sg))] := hD
  refine lv_aload_n hx hb dJ5_append_cf1ce_43 rfl (lv_at hl 1 rfl) ?_
  have h70 := hcap.le
  have hP := hP.sub (ws' := (BW cT a_t (n + sn) (u21.1, u21.2.1, va_cpy sg u21.2.2.1 (0 : Int32).toNatClampNeg (nI n).toNatClampNeg (nI sn).toNatClampNeg, u21.2.2.2) ++ STW cT a_s a_sv sn sg)) [0, 1, 2, 3] rfl
  have hD := hD.sub (ws' := (BW cT a_t (n + sn) (u21.1, u21.2.1, va_cpy sg u21.2.2.1 (0 : Int32).toNatClampNeg (nI n).toNatClampNeg (nI sn).toNatClampNeg, u21.2.2.2) ++ STW cT a_s a_sv sn sg)) [0, 1, 2, 3] (by decide) rfl
  exact W.aret (v := .ref a_t) hx hb hr (Or.inl ⟨_, rfl⟩) (Or.inr ⟨_, rfl⟩) (fun t ht hW => ⟨⟨some a_t, (u21.1, u21.2.1, va_cpy sg u21.2.2.1 (0 : Int32).toNatClampNeg (nI n).toNatClampNeg (nI sn).toNatClampNeg, u21.2.2.2), rfl, ⟨rfl, aps_of hu21 hn hsf (by omega)⟩, by rw [ht]; exact hP, hD⟩, hS.F ht⟩) hS.2.2 dJ5_append_cf1ce_44
set_option maxHeartbeats 4000000 in
set_option maxRecDepth 100000 in
theorem cS_appM (l : Launch) (dC : Nat → ClassId) (dI : Nat → Nat → Nat) (cT : Nat → ClassId) {Hh : Heap} {a_s a_sv sn : Nat} {sg : Nat → Int32} {a_t a_v n cap : Nat} {mL : Int32} {f : Nat → Int32} (hsf : BF sg) (hn : n ≤ cap) (hq : n + sn ≤ cap) (hcap : CAP cap) (hff : BF f) {XW : va_W} (eX : XW = [(a_t, .inr (1, [.ref a_v, .int 0, .int mL, .int (nI n)])), (a_v, .inl (cT 6, cap, .inl f)), (a_s, .inr (0, [.ref a_sv, .int 0, .int 0, .int 0])), (a_sv, .inl (cT 6, sn, .inl sg))]) (hP0 : va_P (dC, dI) vwCl XW Hh) (hD0 : va_D (fun _ => True) XW) : Met l yJ4_append_15ec4 (wA yJ4_append_15ec4 cJ4_append_15ec4 2 (some (.object "java/lang/StringBuilder"))) ({ frames := 5, cells := 1, slots := 70, locals := 113 } : Room) (PJM dC dI cT [.ref a_t, .ref a_s] Hh (va_A XW Hh.size)) (va_Qq (S := BU) (fun r u => r = some a_t ∧ APS n sn sg f u) (fun u t => va_P (dC, dI) vwCl (BW cT a_t (n + sn) u ++ STW cT a_s a_sv sn sg) t.heap ∧ va_D (va_A XW Hh.size) (BW cT a_t (n + sn) u ++ STW cT a_s a_sv sn sg)) (va_A XW Hh.size)) 1 70 (va_A XW Hh.size) := by
  subst eX
  refine MofWF (cc := cJ4_append_15ec4) (maxL := 2) (ret := (some (.object "java/lang/StringBuilder"))) (by decide +kernel) rfl ?_
  intro p e s m args below meth c s₁ B hml hv
  obtain ⟨rfl, hH, hK, hZ, hSP⟩ := hv
  subst hH
  have hx := B.exec
  have hb := B.bytes
  have hr := B.returns
  have hta : ∀ w9 ∈ ALLW, w9.before [.ref a_t, .ref a_s].toArray s = true := fun w9 hw9 => atoms_spec (ws := wA yJ4_append_15ec4 cJ4_append_15ec4 2 (some (.object "java/lang/StringBuilder"))) B.pre w9 (List.mem_cons_of_mem _ hw9)
  have hown : s.vm.findClass RJ4 = some m.cls := findClass_of_methodNamed B.named
  have hlocks := B.notSynchronized
  have hin : meth.name = "append" := (name_of_methodNamed B.named B.method).1
  have hD := hD0.self (sz := s.heap.size)
  have hP := hP0
  generalize hAe : va_A [(a_t, .inr (1, [.ref a_v, .int 0, .int mL, .int (nI n)])), (a_v, .inl (cT 6, cap, .inl f)), (a_s, .inr (0, [.ref a_sv, .int 0, .int 0, .int 0])), (a_sv, .inl (cT 6, sn, .inl sg))] s.heap.size = A at hD hZ ⊢
  have hA : ∀ q : Nat, s.heap.size ≤ q → A q := fun q h => by rw [← hAe]; exact Or.inr h
  have hS : va_S A s.heap s.heap [] := va_S.rf
  have hl := lv_entry [.ref a_t, .ref a_s] (n := 2) (Nat.le_of_ble_eq_true rfl)
  rw [lg_entry_eq]
  generalize (lg_sl [.ref a_t, .ref a_s] ++ List.replicate (2 - (lg_sl [.ref a_t, .ref a_s]).length) Slot.unset).toArray = ls at hl ⊢
  have hl : lv_has ls 2 [(0, .ref a_t), (1, .ref a_s)] := hl
  refine lv_aload_n hx hb dJ4_append_15ec4_0 rfl (lv_at hl 0 rfl) ?_
  refine lv_aload_n hx hb dJ4_append_15ec4_1 rfl (lv_at hl 1 rfl) ?_
  refine cjO (wr := []) (va_runSU (hK.1 1 _ rfl).2 (As := [.ref a_s]) (rest := []) ⟨hx, hb, hml, hown, hta⟩ (cS_app5M l dC dI cT hsf hn hq hcap hff rfl (hP.sub (ws' := [(a_t, .inr (1, [.ref a_v, .int 0, .int mL, .int (nI n)])), (a_v, .inl (cT 6, cap, .inl f)), (a_s, .inr (0, [.ref a_sv, .int 0, .int 0, .int 0])), (a_sv, .inl (cT 6, sn, .inl sg))]) [0, 1, 2, 3] rfl) (ds hD [0, 1, 2, 3] (by decide) rfl)) (cSU hta lm_J4_29 mu_J5_append_cf1ce ⟨Nat.le_of_ble_eq_true rfl, Nat.le_of_ble_eq_true rfl⟩) ⟨fbJM, va_recv hK hP (ci := 1) (q0 := 0) rfl rfl, fun U hU hW => ⟨rfl, hU, va_K.moved hW.alike hK, ZS.call hZ hS hU hW (va_free hD hS hA [0, 1, 2, 3] rfl), SP.warm hW hSP⟩⟩ rfl rfl hl.1 rfl (lv_room (Nat.le_of_ble_eq_true rfl)) dJ4_append_15ec4_2 ⟨by show _ ≤ (1 : Nat); omega, by show _ ≤ (70 : Nat); omega⟩) hS hA hP hD [0, 1, 2, 3] [] rfl rfl (by decide) (by decide) (fun r9 u2 H locs hu hP hD hS => ?_)
  obtain ⟨rfl, hu2⟩ := hu
  have hP : va_P (dC, dI) vwCl [(a_t, .inr (1, [.ref u2.1, .int 0, .int u2.2.2.2, .int (nI (n + sn))])), (u2.1, .inl (cT 6, u2.2.1, .inl u2.2.2.1)), (a_s, .inr (0, [.ref a_sv, .int 0, .int 0, .int 0])), (a_sv, .inl (cT 6, sn, .inl sg))] H := hP
  have hD : va_D A [(a_t, .inr (1, [.ref u2.1, .int 0, .int u2.2.2.2, .int (nI (n + sn))])), (u2.1, .inl (cT 6, u2.2.1, .inl u2.2.2.1)), (a_s, .inr (0, [.ref a_sv, .int 0, .int 0, .int 0])), (a_sv, .inl (cT 6, sn, .inl sg))] := hD
  refine lv_pop hx hb dJ4_append_15ec4_5 rfl ?_
  refine lv_aload_n hx hb dJ4_append_15ec4_6 rfl (lv_at hl 0 rfl) ?_
  exact W.aret (v := .ref a_t) hx hb hr (Or.inl ⟨_, rfl⟩) (Or.inr ⟨_, rfl⟩) (fun t ht hW => ⟨⟨some a_t, u2, rfl, ⟨rfl, hu2⟩, by rw [ht]; exact hP, hD⟩, hS.F ht⟩) hS.2.2 dJ4_append_15ec4_7
set_option maxHeartbeats 4000000 in
set_option maxRecDepth 100000 in
theorem cS_coderK (l : Launch) (dC : Nat → ClassId) (dI : Nat → Nat → Nat) (cT : Nat → ClassId) {Hh : Heap} {a_s a_sv sn : Nat} {sg : Nat → Int32} : Met l yJ0_coder_7d493 (wA yJ0_coder_7d493 cJ0_coder_7d493 1 (some .byte)) ({ frames := 0, cells := 0, slots := 0, locals := 0 } : Room) (PJK a_s a_sv sn sg dC dI cT [.ref a_s] Hh (va_A [] Hh.size)) (va_Qi (fun x (_ : Unit) => x = 0) (fun _ t => t.heap = Hh) (va_A [] Hh.size)) 0 0 (va_A [] Hh.size) := by
  refine MofWF (cc := cJ0_coder_7d493) (maxL := 1) (ret := (some .byte)) (by decide +kernel) rfl ?_
  intro p e s m args below meth c s₁ B hml hv
  obtain ⟨rfl, hH, hK, hZ, hSP, hKS⟩ := hv
  subst hH
  have hx := B.exec
  have hb := B.bytes
  have hr := B.returns
  have hta : ∀ w9 ∈ ALLW, w9.before [.ref a_s].toArray s = true := fun w9 hw9 => atoms_spec (ws := wA yJ0_coder_7d493 cJ0_coder_7d493 1 (some .byte)) B.pre w9 (List.mem_cons_of_mem _ hw9)
  have hown : s.vm.findClass RJ0 = some m.cls := findClass_of_methodNamed B.named
  have hlocks := B.notSynchronized
  have hin : meth.name = "coder" := (name_of_methodNamed B.named B.method).1
  generalize hAe : va_A [] s.heap.size = A at hZ hKS ⊢
  have hA : ∀ q : Nat, s.heap.size ≤ q → A q := fun q h => by rw [← hAe]; exact Or.inr h
  have hS : va_S A s.heap s.heap [] := va_S.rf
  have hl := lv_entry [.ref a_s] (n := 1) (Nat.le_of_ble_eq_true rfl)
  rw [lg_entry_eq]
  generalize (lg_sl [.ref a_s] ++ List.replicate (1 - (lg_sl [.ref a_s]).length) Slot.unset).toArray = ls at hl ⊢
  have hl : lv_has ls 1 [(0, .ref a_s)] := hl
  refine va_gets hx hb hZ.1 hS hown (hta _ lk_J0_38) (fun _ h9 => h9) dJ0_coder_7d493_0 ?_
  refine lv_if_eq (tgt := 13) hx hb dJ0_coder_7d493_3 (by decide) (fun c0 => ?_) (fun c0 => ?_)
  · exact absurd c0 (by decide)
  · clear c0
    refine lv_aload_n hx hb dJ0_coder_7d493_6 rfl (lv_at hl 0 rfl) ?_
    refine vk_getf (v := .int 0) hx hb hKS.2.1 hS hown (hta _ lk_J0_15) (fun _ h9 => h9) dJ0_coder_7d493_7 ?_
    refine lv_goto (tgt := 14) hx hb dJ0_coder_7d493_10 (by decide) ?_
    exact W.zret (ty := .byte) (v := 0) hx hb hr rfl (fun t ht hW => ⟨⟨0, (), rfl, rfl, ht⟩, hS.F ht⟩) hS.2.2 dJ0_coder_7d493_14
set_option maxHeartbeats 4000000 in
set_option maxRecDepth 100000 in
theorem cS_lengthK (l : Launch) (dC : Nat → ClassId) (dI : Nat → Nat → Nat) (cT : Nat → ClassId) {Hh : Heap} {a_s a_sv sn : Nat} {sg : Nat → Int32} : Met l yJ0_length_8abf5 (wA yJ0_length_8abf5 cJ0_length_8abf5 1 (some .int)) ({ frames := 1, cells := 0, slots := 0, locals := 20 } : Room) (PJK a_s a_sv sn sg dC dI cT [.ref a_s] Hh (va_A [] Hh.size)) (va_Qi (fun x (_ : Unit) => x = (nI sn)) (fun _ t => t.heap = Hh) (va_A [] Hh.size)) 0 0 (va_A [] Hh.size) := by
  refine MofWF (cc := cJ0_length_8abf5) (maxL := 1) (ret := (some .int)) (by decide +kernel) rfl ?_
  intro p e s m args below meth c s₁ B hml hv
  obtain ⟨rfl, hH, hK, hZ, hSP, hKS⟩ := hv
  subst hH
  have hx := B.exec
  have hb := B.bytes
  have hr := B.returns
  have hta : ∀ w9 ∈ ALLW, w9.before [.ref a_s].toArray s = true := fun w9 hw9 => atoms_spec (ws := wA yJ0_length_8abf5 cJ0_length_8abf5 1 (some .int)) B.pre w9 (List.mem_cons_of_mem _ hw9)
  have hown : s.vm.findClass RJ0 = some m.cls := findClass_of_methodNamed B.named
  have hlocks := B.notSynchronized
  have hin : meth.name = "length" := (name_of_methodNamed B.named B.method).1
  generalize hAe : va_A [] s.heap.size = A at hZ hKS ⊢
  have hA : ∀ q : Nat, s.heap.size ≤ q → A q := fun q h => by rw [← hAe]; exact Or.inr h
  have hS : va_S A s.heap s.heap [] := va_S.rf
  have hl := lv_entry [.ref a_s] (n := 1) (Nat.le_of_ble_eq_true rfl)
  rw [lg_entry_eq]
  generalize (lg_sl [.ref a_s] ++ List.replicate (1 - (lg_sl [.ref a_s]).length) Slot.unset).toArray = ls at hl ⊢
  have hl : lv_has ls 1 [(0, .ref a_s)] := hl
  refine lv_aload_n hx hb dJ0_length_8abf5_0 rfl (lv_at hl 0 rfl) ?_
  refine vk_getf (v := .ref a_sv) hx hb hKS.2.2.1 hS hown (hta _ lk_J0_9) (fun _ h9 => h9) dJ0_length_8abf5_1 ?_
  refine va_tlen (v := nI sn) hx hb hKS.2.2.2 hS rfl dJ0_length_8abf5_4 ?_
  refine lv_aload_n hx hb dJ0_length_8abf5_5 rfl (lv_at hl 0 rfl) ?_
  refine crI (va_runV (As := []) (rest := [.int (nI sn)]) ⟨hx, hb, hml, hown, hta⟩ (cS_coderK l dC dI cT) (cV hta lm_J0_335 md_J0_coder_7d493 ⟨Nat.le_of_ble_eq_true rfl, Nat.le_of_ble_eq_true rfl⟩) ⟨fbJK, hKS.recv hS, fun U hU hW => ⟨rfl, hU, va_K.moved hW.alike hK, ZS.call hZ hS hU hW (frA hS hA), SP.warm hW hSP, KS.call hKS hS hU hW (frA hS hA)⟩⟩ rfl rfl hl.1 rfl (lv_room (Nat.le_of_ble_eq_true rfl)) dJ0_length_8abf5_6 ⟨Nat.le_of_ble_eq_true rfl, Nat.le_of_ble_eq_true rfl⟩) hS hA (fun locs hS => ?_)
  refine lv_ishr hx hb dJ0_length_8abf5_9 ?_
  refine lv_topi (fun v1 e_v1 => ?_)
  have e9 : v1 = (nI sn) := e_v1.trans (sb_shr0 _)
  subst e9
  exact W.iret (v := (nI sn)) hx hb hr (fun t ht hW => ⟨⟨(nI sn), (), rfl, rfl, ht⟩, hS.F ht⟩) hS.2.2 dJ0_length_8abf5_10
set_option maxHeartbeats 4000000 in
set_option maxRecDepth 100000 in
theorem cS_inflK (l : Launch) (dC : Nat → ClassId) (dI : Nat → Nat → Nat) (cT : Nat → ClassId) {Hh : Heap} {a_s a_sv sn : Nat} {sg : Nat → Int32} {a_t a_v n : Nat} {mL : Int32} {XW : va_W} (eX : XW = [(a_t, .inr (1, [.ref a_v, .int 0, .int mL, .int (nI n)]))]) (hP0 : va_P (dC, dI) vwCl XW Hh) : Met l yJ5_inflateIfNeededFor_a7421 (wA yJ5_inflateIfNeededFor_a7421 cJ5_inflateIfNeededFor_a7421 2 none) ({ frames := 1, cells := 0, slots := 0, locals := 20 } : Room) (PJK a_s a_sv sn sg dC dI cT [.ref a_t, .ref a_s] Hh (va_A [] Hh.size)) (va_Qv (fun (_ : Unit) => True) (fun _ t => t.heap = Hh) (va_A [] Hh.size)) 0 0 (va_A [] Hh.size) := by
  subst eX
  refine MofWF (cc := cJ5_inflateIfNeededFor_a7421) (maxL := 2) (ret := none) (by decide +kernel) rfl ?_
  intro p e s m args below meth c s₁ B hml hv
  obtain ⟨rfl, hH, hK, hZ, hSP, hKS⟩ := hv
  subst hH
  have hx := B.exec
  have hb := B.bytes
  have hr := B.returns
  have hta : ∀ w9 ∈ ALLW, w9.before [.ref a_t, .ref a_s].toArray s = true := fun w9 hw9 => atoms_spec (ws := wA yJ5_inflateIfNeededFor_a7421 cJ5_inflateIfNeededFor_a7421 2 none) B.pre w9 (List.mem_cons_of_mem _ hw9)
  have hown : s.vm.findClass RJ5 = some m.cls := findClass_of_methodNamed B.named
  have hlocks := B.notSynchronized
  have hin : meth.name = "inflateIfNeededFor" := (name_of_methodNamed B.named B.method).1
  have hP := hP0
  generalize hAe : va_A [] s.heap.size = A at hZ hKS ⊢
  have hA : ∀ q : Nat, s.heap.size ≤ q → A q := fun q h => by rw [← hAe]; exact Or.inr h
  have hS : va_S A s.heap s.heap [] := va_S.rf
  have hl := lv_entry [.ref a_t, .ref a_s] (n := 2) (Nat.le_of_ble_eq_true rfl)
  rw [lg_entry_eq]
  generalize (lg_sl [.ref a_t, .ref a_s] ++ List.replicate (2 - (lg_sl [.ref a_t, .ref a_s]).length) Slot.unset).toArray = ls at hl ⊢
  have hl : lv_has ls 2 [(0, .ref a_t), (1, .ref a_s)] := hl
  refine va_gets hx hb hZ.1 hS hown (hta _ lk_J5_18) (fun _ h9 => h9) dJ5_inflateIfNeededFor_a7421_0 ?_
  refine lv_if_eq (tgt := 21) hx hb dJ5_inflateIfNeededFor_a7421_3 (by decide) (fun c0 => ?_) (fun c0 => ?_)
  · exact absurd c0 (by decide)
  · clear c0
    refine lv_aload_n hx hb dJ5_inflateIfNeededFor_a7421_6 rfl (lv_at hl 0 rfl) ?_
    refine va_get (D := (dC, dI)) (ci := 1) (v := .int 0) (C := RJ4) (T := TJ4) (N := 4) hx hb hta inJ4w hown hK hP 0 rfl rfl 1 (by decide) (hta _ lk_J5_22) (fun _ h9 => h9) rfl dJ5_inflateIfNeededFor_a7421_7 ?_
    refine lv_aload_n hx hb dJ5_inflateIfNeededFor_a7421_10 rfl (lv_at hl 1 rfl) ?_
    refine crI (va_runV (As := []) (rest := [.int 0]) ⟨hx, hb, hml, hown, hta⟩ (cS_coderK l dC dI cT) (cV hta lm_J5_40 md_J0_coder_7d493 ⟨Nat.le_of_ble_eq_true rfl, Nat.le_of_ble_eq_true rfl⟩) ⟨fbJK, hKS.recv hS, fun U hU hW => ⟨rfl, hU, va_K.moved hW.alike hK, ZS.call hZ hS hU hW (frA hS hA), SP.warm hW hSP, KS.call hKS hS hU hW (frA hS hA)⟩⟩ rfl rfl hl.1 rfl (lv_room (Nat.le_of_ble_eq_true rfl)) dJ5_inflateIfNeededFor_a7421_11 ⟨Nat.le_of_ble_eq_true rfl, Nat.le_of_ble_eq_true rfl⟩) hS hA (fun locs hS => ?_)
    refine lv_icmp_eq (tgt := 21) hx hb dJ5_inflateIfNeededFor_a7421_14 (by decide) (fun c0 => ?_) (fun c0 => ?_)
    · clear c0
      exact W.vret hx hb hr (fun t ht hW => ⟨⟨(), rfl, trivial, ht⟩, hS.F ht⟩) hS.2.2 dJ5_inflateIfNeededFor_a7421_21
    · exact absurd (rfl) c0
set_option maxHeartbeats 4000000 in
set_option maxRecDepth 100000 in
theorem cS_bytesK (l : Launch) (dC : Nat → ClassId) (dI : Nat → Nat → Nat) (cT : Nat → ClassId) {Hh : Heap} {a_s a_sv sn : Nat} {sg : Nat → Int32} {a_v n cap : Nat} {f : Nat → Int32} (hsf : BF sg) (hq : n + sn ≤ cap) (h7 : cap ≤ 70) {XW : va_W} (eX : XW = [(a_v, .inl (cT 6, cap, .inl f))]) (hP0 : va_P (dC, dI) vwCl XW Hh) (hD0 : va_D (fun _ => True) XW) : Met l yJ0_getBytes_840e7 (wA yJ0_getBytes_840e7 cJ0_getBytes_840e7 4 none) ({ frames := 1, cells := 0, slots := 0, locals := 40 } : Room) (PJK a_s a_sv sn sg dC dI cT [.ref a_s, .ref a_v, .int (nI n), .int 0] Hh (va_A XW Hh.size)) (va_Qv (fun (_ : Unit) => True) (fun _ t => va_P (dC, dI) vwCl [(a_v, .inl (cT 6, cap, .inl (va_cpy sg f (0 : Int32).toNatClampNeg (nI n).toNatClampNeg (nI sn).toNatClampNeg)))] t.heap ∧ va_D (va_A XW Hh.size) [(a_v, .inl (cT 6, cap, .inl (va_cpy sg f (0 : Int32).toNatClampNeg (nI n).toNatClampNeg (nI sn).toNatClampNeg)))]) (va_A XW Hh.size)) 0 0 (va_A XW Hh.size) := by
  subst eX
  refine MofWF (cc := cJ0_getBytes_840e7) (maxL := 4) (ret := none) (by decide +kernel) rfl ?_
  intro p e s m args below meth c s₁ B hml hv
  obtain ⟨rfl, hH, hK, hZ, hSP, hKS⟩ := hv
  subst hH
  have hx := B.exec
  have hb := B.bytes
  have hr := B.returns
  have hta : ∀ w9 ∈ ALLW, w9.before [.ref a_s, .ref a_v, .int (nI n), .int 0].toArray s = true := fun w9 hw9 => atoms_spec (ws := wA yJ0_getBytes_840e7 cJ0_getBytes_840e7 4 none) B.pre w9 (List.mem_cons_of_mem _ hw9)
  have hown : s.vm.findClass RJ0 = some m.cls := findClass_of_methodNamed B.named
  have hlocks := B.notSynchronized
  have hin : meth.name = "getBytes" := (name_of_methodNamed B.named B.method).1
  have hD := hD0.self (sz := s.heap.size)
  have hP := hP0
  generalize hAe : va_A [(a_v, .inl (cT 6, cap, .inl f))] s.heap.size = A at hD hZ hKS ⊢
  have hA : ∀ q : Nat, s.heap.size ≤ q → A q := fun q h => by rw [← hAe]; exact Or.inr h
  have hS : va_S A s.heap s.heap [] := va_S.rf
  have hl := lv_entry [.ref a_s, .ref a_v, .int (nI n), .int 0] (n := 4) (Nat.le_of_ble_eq_true rfl)
  rw [lg_entry_eq]
  generalize (lg_sl [.ref a_s, .ref a_v, .int (nI n), .int 0] ++ List.replicate (4 - (lg_sl [.ref a_s, .ref a_v, .int (nI n), .int 0]).length) Slot.unset).toArray = ls at hl ⊢
  have hl : lv_has ls 4 [(0, .ref a_s), (1, .ref a_v), (2, .int (nI n)), (3, .int 0)] := hl
  refine lv_aload_n hx hb dJ0_getBytes_840e7_0 rfl (lv_at hl 0 rfl) ?_
  refine crI (va_runV (As := []) (rest := []) ⟨hx, hb, hml, hown, hta⟩ (cS_coderK l dC dI cT) (cV hta lm_J0_335 md_J0_coder_7d493 ⟨Nat.le_of_ble_eq_true rfl, Nat.le_of_ble_eq_true rfl⟩) ⟨fbJK, hKS.recv hS, fun U hU hW => ⟨rfl, hU, va_K.moved hW.alike hK, ZS.call hZ hS hU hW (frA hS hA), SP.warm hW hSP, KS.call hKS hS hU hW (frA hS hA)⟩⟩ rfl rfl hl.1 rfl (lv_room (Nat.le_of_ble_eq_true rfl)) dJ0_getBytes_840e7_1 ⟨Nat.le_of_ble_eq_true rfl, Nat.le_of_ble_eq_true rfl⟩) hS hA (fun locs hS => ?_)
  refine lv_iload_n hx hb dJ0_getBytes_840e7_4 rfl (lv_at hl 3 rfl) ?_
  refine lv_icmp_ne (tgt := 28) hx hb dJ0_getBytes_840e7_5 (by decide) (fun c0 => ?_) (fun c0 => ?_)
  · exact absurd (rfl) c0
  · clear c0
    refine lv_aload_n hx hb dJ0_getBytes_840e7_8 rfl (lv_at hl 0 rfl) ?_
    refine vk_getf (v := .ref a_sv) hx hb hKS.2.2.1 hS hown (hta _ lk_J0_9) (fun _ h9 => h9) dJ0_getBytes_840e7_9 ?_
    refine lv_iconst (v := 0) hx hb dJ0_getBytes_840e7_12 (by decide) ?_
    refine lv_aload_n hx hb dJ0_getBytes_840e7_13 rfl (lv_at hl 1 rfl) ?_
    refine lv_iload_n hx hb dJ0_getBytes_840e7_14 rfl (lv_at hl 2 rfl) ?_
    refine lv_iload_n hx hb dJ0_getBytes_840e7_15 rfl (lv_at hl 3 rfl) ?_
    refine lv_ishl hx hb dJ0_getBytes_840e7_16 ?_
    refine lv_topi (fun v1 e_v1 => ?_)
    have e9 : v1 = (nI n) := e_v1.trans (sb_shl0 _)
    subst e9
    refine lv_aload_n hx hb dJ0_getBytes_840e7_17 rfl (lv_at hl 0 rfl) ?_
    refine vk_getf (v := .ref a_sv) hx hb hKS.2.2.1 hS hown (hta _ lk_J0_9) (fun _ h9 => h9) dJ0_getBytes_840e7_18 ?_
    refine va_tlen (v := nI sn) hx hb hKS.2.2.2 hS rfl dJ0_getBytes_840e7_21 ?_
    refine vk_copyt hx hb (hml.trans hl.1.symm) hown (hta _ lm_J0_212) (hta _ cp_n) (hta _ cp_s) (hta _ cp_i) hK hP hD hS hKS.2.2.2 0 6 rfl rfl (by decide) (nI_pos (by omega)) (nI_pos (by omega)) (by have e0 : (nI sn).toNatClampNeg = sn := nI_clamp (by omega); have e1 : (nI n).toNatClampNeg = n := nI_clamp (by omega); have e9 : (0 : Int32).toNatClampNeg = 0 := rfl; omega) (by have e0 : (nI sn).toNatClampNeg = sn := nI_clamp (by omega); have e1 : (nI n).toNatClampNeg = n := nI_clamp (by omega); have e9 : (0 : Int32).toNatClampNeg = 0 := rfl; omega) (fun i _ => hsf _) (Nat.le_of_ble_eq_true rfl) (Nat.le_of_ble_eq_true rfl) dJ0_getBytes_840e7_22 (fun H locs hP hD hS => ?_)
    have hP : va_P (dC, dI) vwCl [(a_v, .inl (cT 6, cap, .inl (va_cpy sg f (0 : Int32).toNatClampNeg (nI n).toNatClampNeg (nI sn).toNatClampNeg)))] H := hP
    have hD : va_D A [(a_v, .inl (cT 6, cap, .inl (va_cpy sg f (0 : Int32).toNatClampNeg (nI n).toNatClampNeg (nI sn).toNatClampNeg)))] := hD
    refine lv_goto (tgt := 43) hx hb dJ0_getBytes_840e7_25 (by decide) ?_
    exact W.vret hx hb hr (fun t ht hW => ⟨⟨(), rfl, trivial, by rw [ht]; exact hP, hD⟩, hS.F ht⟩) hS.2.2 dJ0_getBytes_840e7_43
set_option maxHeartbeats 4000000 in
set_option maxRecDepth 100000 in
theorem cS_putK (l : Launch) (dC : Nat → ClassId) (dI : Nat → Nat → Nat) (cT : Nat → ClassId) {Hh : Heap} {a_s a_sv sn : Nat} {sg : Nat → Int32} {a_t a_v n cap : Nat} {mL : Int32} {f : Nat → Int32} (hsf : BF sg) (hq : n + sn ≤ cap) (h7 : cap ≤ 70) {XW : va_W} (eX : XW = [(a_t, .inr (1, [.ref a_v, .int 0, .int mL, .int (nI n)])), (a_v, .inl (cT 6, cap, .inl f))]) (hP0 : va_P (dC, dI) vwCl XW Hh) (hD0 : va_D (fun _ => True) XW) : Met l yJ5_putStringAt_47b60 (wA yJ5_putStringAt_47b60 cJ5_putStringAt_47b60 3 none) ({ frames := 2, cells := 0, slots := 0, locals := 63 } : Room) (PJK a_s a_sv sn sg dC dI cT [.ref a_t, .int (nI n), .ref a_s] Hh (va_A XW Hh.size)) (va_Qv (fun (_ : Unit) => True) (fun _ t => va_P (dC, dI) vwCl [(a_t, .inr (1, [.ref a_v, .int 0, .int mL, .int (nI n)])), (a_v, .inl (cT 6, cap, .inl (va_cpy sg f (0 : Int32).toNatClampNeg (nI n).toNatClampNeg (nI sn).toNatClampNeg)))] t.heap ∧ va_D (va_A XW Hh.size) [(a_t, .inr (1, [.ref a_v, .int 0, .int mL, .int (nI n)])), (a_v, .inl (cT 6, cap, .inl (va_cpy sg f (0 : Int32).toNatClampNeg (nI n).toNatClampNeg (nI sn).toNatClampNeg)))]) (va_A XW Hh.size)) 0 0 (va_A XW Hh.size) := by
  subst eX
  refine MofWF (cc := cJ5_putStringAt_47b60) (maxL := 3) (ret := none) (by decide +kernel) rfl ?_
  intro p e s m args below meth c s₁ B hml hv
  obtain ⟨rfl, hH, hK, hZ, hSP, hKS⟩ := hv
  subst hH
  have hx := B.exec
  have hb := B.bytes
  have hr := B.returns
  have hta : ∀ w9 ∈ ALLW, w9.before [.ref a_t, .int (nI n), .ref a_s].toArray s = true := fun w9 hw9 => atoms_spec (ws := wA yJ5_putStringAt_47b60 cJ5_putStringAt_47b60 3 none) B.pre w9 (List.mem_cons_of_mem _ hw9)
  have hown : s.vm.findClass RJ5 = some m.cls := findClass_of_methodNamed B.named
  have hlocks := B.notSynchronized
  have hin : meth.name = "putStringAt" := (name_of_methodNamed B.named B.method).1
  have hD := hD0.self (sz := s.heap.size)
  have hP := hP0
  generalize hAe : va_A [(a_t, .inr (1, [.ref a_v, .int 0, .int mL, .int (nI n)])), (a_v, .inl (cT 6, cap, .inl f))] s.heap.size = A at hD hZ hKS ⊢
  have hA : ∀ q : Nat, s.heap.size ≤ q → A q := fun q h => by rw [← hAe]; exact Or.inr h
  have hS : va_S A s.heap s.heap [] := va_S.rf
  have hl := lv_entry [.ref a_t, .int (nI n), .ref a_s] (n := 3) (Nat.le_of_ble_eq_true rfl)
  rw [lg_entry_eq]
  generalize (lg_sl [.ref a_t, .int (nI n), .ref a_s] ++ List.replicate (3 - (lg_sl [.ref a_t, .int (nI n), .ref a_s]).length) Slot.unset).toArray = ls at hl ⊢
  have hl : lv_has ls 3 [(0, .ref a_t), (1, .int (nI n)), (2, .ref a_s)] := hl
  refine lv_aload_n hx hb dJ5_putStringAt_47b60_0 rfl (lv_at hl 0 rfl) ?_
  refine lv_aload_n hx hb dJ5_putStringAt_47b60_1 rfl (lv_at hl 2 rfl) ?_
  refine crV (va_runV (As := [.ref a_s]) (rest := []) ⟨hx, hb, hml, hown, hta⟩ (cS_inflK l dC dI cT rfl (hP.sub (ws' := [(a_t, .inr (1, [.ref a_v, .int 0, .int mL, .int (nI n)]))]) [0] rfl)) (cVP hSP.2 hta lm_J5_397 mp_J5_inflateIfNeededFor_a7421 ⟨Nat.le_of_ble_eq_true rfl, Nat.le_of_ble_eq_true rfl⟩) ⟨fbJK, va_recv hK hP (ci := 1) (q0 := 0) rfl rfl, fun U hU hW => ⟨rfl, hU, va_K.moved hW.alike hK, ZS.call hZ hS hU hW (frA hS hA), SP.warm hW hSP, KS.call hKS hS hU hW (frA hS hA)⟩⟩ rfl rfl hl.1 rfl (lv_room (Nat.le_of_ble_eq_true rfl)) dJ5_putStringAt_47b60_2 ⟨Nat.le_of_ble_eq_true rfl, Nat.le_of_ble_eq_true rfl⟩) hS hA (fun locs hS => ?_)
  refine lv_aload_n hx hb dJ5_putStringAt_47b60_5 rfl (lv_at hl 2 rfl) ?_
  refine lv_aload_n hx hb dJ5_putStringAt_47b60_6 rfl (lv_at hl 0 rfl) ?_
  refine va_get (D := (dC, dI)) (ci := 1) (v := .ref a_v) (C := RJ4) (T := TJ4) (N := 4) hx hb hta inJ4w hown hK hP 0 rfl rfl 0 (by decide) (hta _ lk_J5_15) (fun _ h9 => h9) rfl dJ5_putStringAt_47b60_7 ?_
  refine lv_iload_n hx hb dJ5_putStringAt_47b60_10 rfl (lv_at hl 1 rfl) ?_
  refine lv_aload_n hx hb dJ5_putStringAt_47b60_11 rfl (lv_at hl 0 rfl) ?_
  refine va_get (D := (dC, dI)) (ci := 1) (v := .int 0) (C := RJ4) (T := TJ4) (N := 4) hx hb hta inJ4w hown hK hP 0 rfl rfl 1 (by decide) (hta _ lk_J5_22) (fun _ h9 => h9) rfl dJ5_putStringAt_47b60_12 ?_
  refine cjV (wr := [(a_t, .inr (1, [.ref a_v, .int 0, .int mL, .int (nI n)]))]) (va_runV (As := [.ref a_v, .int (nI n), .int 0]) (rest := []) ⟨hx, hb, hml, hown, hta⟩ (cS_bytesK l dC dI cT hsf hq h7 rfl (hP.sub (ws' := [(a_v, .inl (cT 6, cap, .inl f))]) [1] rfl) (ds hD [1] (by decide) rfl)) (cV hta lm_J5_399 md_J0_getBytes_840e7 ⟨Nat.le_of_ble_eq_true rfl, Nat.le_of_ble_eq_true rfl⟩) ⟨fbJK, hKS.recv hS, fun U hU hW => ⟨rfl, hU, va_K.moved hW.alike hK, ZS.call hZ hS hU hW (va_free hD hS hA [1] rfl), SP.warm hW hSP, KS.call hKS hS hU hW (va_free hD hS hA [1] rfl)⟩⟩ rfl rfl hl.1 rfl (lv_room (Nat.le_of_ble_eq_true rfl)) dJ5_putStringAt_47b60_15 ⟨Nat.le_of_ble_eq_true rfl, Nat.le_of_ble_eq_true rfl⟩) hS hA hP hD [1] [0] rfl rfl (by decide) (by decide) (fun _ H locs _ hP hD hS => ?_)
  have hP : va_P (dC, dI) vwCl [(a_t, .inr (1, [.ref a_v, .int 0, .int mL, .int (nI n)])), (a_v, .inl (cT 6, cap, .inl (va_cpy sg f (0 : Int32).toNatClampNeg (nI n).toNatClampNeg (nI sn).toNatClampNeg)))] H := hP
  have hD : va_D A [(a_t, .inr (1, [.ref a_v, .int 0, .int mL, .int (nI n)])), (a_v, .inl (cT 6, cap, .inl (va_cpy sg f (0 : Int32).toNatClampNeg (nI n).toNatClampNeg (nI sn).toNatClampNeg)))] := hD
  have hP := hP.sub (ws' := [(a_t, .inr (1, [.ref a_v, .int 0, .int mL, .int (nI n)])), (a_v, .inl (cT 6, cap, .inl (va_cpy sg f (0 : Int32).toNatClampNeg (nI n).toNatClampNeg (nI sn).toNatClampNeg)))]) [0, 1] rfl
  have hD := hD.sub (ws' := [(a_t, .inr (1, [.ref a_v, .int 0, .int mL, .int (nI n)])), (a_v, .inl (cT 6, cap, .inl (va_cpy sg f (0 : Int32).toNatClampNeg (nI n).toNatClampNeg (nI sn).toNatClampNeg)))]) [0, 1] (by decide) rfl
  exact W.vret hx hb hr (fun t ht hW => ⟨⟨(), rfl, trivial, by rw [ht]; exact hP, hD⟩, hS.F ht⟩) hS.2.2 dJ5_putStringAt_47b60_18
set_option maxHeartbeats 4000000 in
set_option maxRecDepth 100000 in
theorem cS_app5K (l : Launch) (dC : Nat → ClassId) (dI : Nat → Nat → Nat) (cT : Nat → ClassId) {Hh : Heap} {a_s a_sv sn : Nat} {sg : Nat → Int32} {a_t a_v n cap : Nat} {mL : Int32} {f : Nat → Int32} (hsf : BF sg) (hn : n ≤ cap) (hq : n + sn ≤ cap) (hcap : CAP cap) (hff : BF f) {XW : va_W} (eX : XW = [(a_t, .inr (1, [.ref a_v, .int 0, .int mL, .int (nI n)])), (a_v, .inl (cT 6, cap, .inl f))]) (hP0 : va_P (dC, dI) vwCl XW Hh) (hD0 : va_D (fun _ => True) XW) : Met l yJ5_append_cf1ce (wA yJ5_append_cf1ce cJ5_append_cf1ce 3 (some (.object "java/lang/AbstractStringBuilder"))) ({ frames := 4, cells := 1, slots := 70, locals := 91 } : Room) (PJK a_s a_sv sn sg dC dI cT [.ref a_t, .ref a_s] Hh (va_A XW Hh.size)) (va_Qq (S := BU) (fun r u => r = some a_t ∧ APS n sn sg f u) (fun u t => va_P (dC, dI) vwCl (BW cT a_t (n + sn) u) t.heap ∧ va_D (va_A XW Hh.size) (BW cT a_t (n + sn) u)) (va_A XW Hh.size)) 1 70 (va_A XW Hh.size) := by
  subst eX
  refine MofWF (cc := cJ5_append_cf1ce) (maxL := 3) (ret := (some (.object "java/lang/AbstractStringBuilder"))) (by decide +kernel) rfl ?_
  intro p e s m args below meth c s₁ B hml hv
  obtain ⟨rfl, hH, hK, hZ, hSP, hKS⟩ := hv
  subst hH
  have hx := B.exec
  have hb := B.bytes
  have hr := B.returns
  have hta : ∀ w9 ∈ ALLW, w9.before [.ref a_t, .ref a_s].toArray s = true := fun w9 hw9 => atoms_spec (ws := wA yJ5_append_cf1ce cJ5_append_cf1ce 3 (some (.object "java/lang/AbstractStringBuilder"))) B.pre w9 (List.mem_cons_of_mem _ hw9)
  have hown : s.vm.findClass RJ5 = some m.cls := findClass_of_methodNamed B.named
  have hlocks := B.notSynchronized
  have hin : meth.name = "append" := (name_of_methodNamed B.named B.method).1
  have hD := hD0.self (sz := s.heap.size)
  have hP := hP0
  generalize hAe : va_A [(a_t, .inr (1, [.ref a_v, .int 0, .int mL, .int (nI n)])), (a_v, .inl (cT 6, cap, .inl f))] s.heap.size = A at hD hZ hKS ⊢
  have hA : ∀ q : Nat, s.heap.size ≤ q → A q := fun q h => by rw [← hAe]; exact Or.inr h
  have hS : va_S A s.heap s.heap [] := va_S.rf
  have hl := lv_entry [.ref a_t, .ref a_s] (n := 3) (Nat.le_of_ble_eq_true rfl)
  rw [lg_entry_eq]
  generalize (lg_sl [.ref a_t, .ref a_s] ++ List.replicate (3 - (lg_sl [.ref a_t, .ref a_s]).length) Slot.unset).toArray = ls at hl ⊢
  have hl : lv_has ls 3 [(0, .ref a_t), (1, .ref a_s)] := hl
  refine lv_aload_n hx hb dJ5_append_cf1ce_0 rfl (lv_at hl 1 rfl) ?_
  refine lv_ifnonnull (tgt := 9) hx hb dJ5_append_cf1ce_1 (by decide) ?_
  refine lv_aload_n hx hb dJ5_append_cf1ce_9 rfl (lv_at hl 1 rfl) ?_
  refine crI (va_runV (As := []) (rest := []) ⟨hx, hb, hml, hown, hta⟩ (cS_lengthK l dC dI cT) (cV hta lm_J5_32 md_J0_length_8abf5 ⟨Nat.le_of_ble_eq_true rfl, Nat.le_of_ble_eq_true rfl⟩) ⟨fbJK, hKS.recv hS, fun U hU hW => ⟨rfl, hU, va_K.moved hW.alike hK, ZS.call hZ hS hU hW (frA hS hA), SP.warm hW hSP, KS.call hKS hS hU hW (frA hS hA)⟩⟩ rfl rfl hl.1 rfl (lv_room (Nat.le_of_ble_eq_true rfl)) dJ5_append_cf1ce_10 ⟨Nat.le_of_ble_eq_true rfl, Nat.le_of_ble_eq_true rfl⟩) hS hA (fun locs hS => ?_)
  refine lv_istore_n (lv' := [(2, .int (nI sn)), (0, .ref a_t), (1, .ref a_s)]) hx hb dJ5_append_cf1ce_13 rfl hl (by decide) rfl (fun ls hl => ?_)
  refine lv_aload_n hx hb dJ5_append_cf1ce_14 rfl (lv_at hl 1 rfl) ?_
  refine lv_aload_n hx hb dJ5_append_cf1ce_15 rfl (lv_at hl 1 rfl) ?_
  refine va_get (D := (dC, dI)) (ci := 1) (v := .int (nI n)) (C := RJ4) (T := TJ4) (N := 4) hx hb hta inJ4w hown hK hP 0 rfl rfl 3 (by decide) (hta _ lk_J5_79) (fun _ h9 => h9) rfl dJ5_append_cf1ce_16 ?_
  refine lv_iload_n hx hb dJ5_append_cf1ce_19 rfl (lv_at hl 0 rfl) ?_
  refine lv_iadd hx hb dJ5_append_cf1ce_20 ?_
  refine lv_topi (fun v1 e_v1 => ?_)
  have e9 : v1 = (nI (n + sn)) := e_v1.trans (nI_add n sn)
  subst e9
  refine cjV (wr := []) (va_runV (As := [.int (nI (n + sn))]) (rest := []) ⟨hx, hb, hml, hown, hta⟩ (cJ_ens l dC dI cT (Or.inl hq) hcap hff rfl (hP.sub (ws' := [(a_t, .inr (1, [.ref a_v, .int 0, .int mL, .int (nI n)])), (a_v, .inl (cT 6, cap, .inl f))]) [0, 1] rfl) (ds hD [0, 1] (by decide) rfl)) (cVP hZ.2.2.2.2.1 hta lm_J5_100 mp_J5_ensureCapacityInternal_d00df ⟨Nat.le_of_ble_eq_true rfl, Nat.le_of_ble_eq_true rfl⟩) ⟨fbJ, va_recv hK hP (ci := 1) (q0 := 0) rfl rfl, fun U hU hW => ⟨rfl, hU, va_K.moved hW.alike hK, ZS.call hZ hS hU hW (va_free hD hS hA [0, 1] rfl)⟩⟩ rfl rfl hl.1 rfl (lv_room (Nat.le_of_ble_eq_true rfl)) dJ5_append_cf1ce_21 ⟨by show _ ≤ (1 : Nat); omega, by show _ ≤ (70 : Nat); omega⟩) hS hA hP hD [0, 1] [] rfl rfl (by decide) (by decide) (fun u21 H locs hu21 hP hD hS => ?_)
  have hP : va_P (dC, dI) vwCl [(a_t, .inr (1, [.ref u21.1, .int 0, .int u21.2.2.2, .int (nI n)])), (u21.1, .inl (cT 6, u21.2.1, .inl u21.2.2.1))] H := hP
  have hD : va_D A [(a_t, .inr (1, [.ref u21.1, .int 0, .int u21.2.2.2, .int (nI n)])), (u21.1, .inl (cT 6, u21.2.1, .inl u21.2.2.1))] := hD
  refine lv_aload_n hx hb dJ5_append_cf1ce_24 rfl (lv_at hl 1 rfl) ?_
  refine lv_aload_n hx hb dJ5_append_cf1ce_25 rfl (lv_at hl 1 rfl) ?_
  refine va_get (D := (dC, dI)) (ci := 1) (v := .int (nI n)) (C := RJ4) (T := TJ4) (N := 4) hx hb hta inJ4w hown hK hP 0 rfl rfl 3 (by decide) (hta _ lk_J5_79) (fun _ h9 => h9) rfl dJ5_append_cf1ce_26 ?_
  refine lv_aload_n hx hb dJ5_append_cf1ce_29 rfl (lv_at hl 2 rfl) ?_
  refine cjV (wr := []) (va_runV (As := [.int (nI n), .ref a_s]) (rest := []) ⟨hx, hb, hml, hown, hta⟩ (cS_putK l dC dI cT hsf hu21.1 hu21.2.2.1.le rfl (hP.sub (ws' := [(a_t, .inr (1, [.ref u21.1, .int 0, .int u21.2.2.2, .int (nI n)])), (u21.1, .inl (cT 6, u21.2.1, .inl u21.2.2.1))]) [0, 1] rfl) (ds hD [0, 1] (by decide) rfl)) (cVP hSP.1 hta lm_J5_208 mp_J5_putStringAt_47b60 ⟨Nat.le_of_ble_eq_true rfl, Nat.le_of_ble_eq_true rfl⟩) ⟨fbJK, va_recv hK hP (ci := 1) (q0 := 0) rfl rfl, fun U hU hW => ⟨rfl, hU, va_K.moved hW.alike hK, ZS.call hZ hS hU hW (va_free hD hS hA [0, 1] rfl), SP.warm hW hSP, KS.call hKS hS hU hW (va_free hD hS hA [0, 1] rfl)⟩⟩ rfl rfl hl.1 rfl (lv_room (Nat.le_of_ble_eq_true rfl)) dJ5_append_cf1ce_30 ⟨Nat.le_of_ble_eq_true rfl, Nat.le_of_ble_eq_true rfl⟩) hS hA hP hD [0, 1] [] rfl rfl (by decide) (by decide) (fun _ H locs _ hP hD hS => ?_)
  have hP : va_P (dC, dI) vwCl [(a_t, .inr (1, [.ref u21.1, .int 0, .int u21.2.2.2, .int (nI n)])), (u21.1, .inl (cT 6, u21.2.1, .inl (va_cpy sg u21.2.2.1 (0 : Int32).toNatClampNeg (nI n).toNatClampNeg (nI sn).toNatClampNeg)))] H := hP
  have hD : va_D A [(a_t, .inr (1, [.ref u21.1, .int 0, .int u21.2.2.2, .int (nI n)])), (u21.1, .inl (cT 6, u21.2.1, .inl (va_cpy sg u21.2.2.1 (0 : Int32).toNatClampNeg (nI n).toNatClampNeg (nI sn).toNatClampNeg)))] := hD
  refine lv_aload_n hx hb dJ5_append_cf1ce_33 rfl (lv_at hl 1 rfl) ?_
  refine lv_dup hx hb dJ5_append_cf1ce_34 rfl ?_
  refine va_get (D := (dC, dI)) (ci := 1) (v := .int (nI n)) (C := RJ4) (T := TJ4) (N := 4) hx hb hta inJ4w hown hK hP 0 rfl rfl 3 (by decide) (hta _ lk_J5_79) (fun _ h9 => h9) rfl dJ5_append_cf1ce_35 ?_
  refine lv_iload_n hx hb dJ5_append_cf1ce_38 rfl (lv_at hl 0 rfl) ?_
  refine lv_iadd hx hb dJ5_append_cf1ce_39 ?_
  refine lv_topi (fun v2 e_v2 => ?_)
  have e9 : v2 = (nI (n + sn)) := e_v2.trans (nI_add n sn)
  subst e9
  refine va_put (D := (dC, dI)) (ci := 1) (v := .int (nI (n + sn))) (ty := .int) (C := RJ4) (T := TJ4) (N := 4) hx hb hta inJ4w tyJ4 tyJ4_ok nmJ4 hown hK hP hD hS 0 rfl rfl 3 (by decide) (hta _ lk_J5_79) (fun _ h9 => h9) rfl (by decide +kernel) rfl rfl (Nat.le_of_ble_eq_true rfl) dJ5_append_cf1ce_40 (fun H locs hP hD hS => ?_)
  have hP : va_P (dC, dI) vwCl [(a_t, .inr (1, [.ref u21.1, .int 0, .int u21.2.2.2, .int (nI (n + sn))])), (u21.1, .inl (cT 6, u21.2.1, .inl (va_cpy sg u21.2.2.1 (0 : Int32).toNatClampNeg (nI n).toNatClampNeg (nI sn).toNatClampNeg)))] H := hP
  have hD : va_D A [(a_t, .inr (1, [.ref u21.1, .int 0, .int u21.2.2.2, .int (nI (n + sn))])), (u21.1, .inl (cT 6, u21.2.1, .inl (va_cpy sg u21.2.2.1 (0 : Int32).toNatClampNeg (nI n).toNatClampNeg (nI sn).toNatClampNeg)))] := hD
  refine lv_aload_n hx hb dJ5_append_cf1ce_43 rfl (lv_at hl 1 rfl) ?_
  have h70 := hcap.le
  have hP := hP.sub (ws' := (BW cT a_t (n + sn) (u21.1, u21.2.1, va_cpy sg u21.2.2.1 (0 : Int32).toNatClampNeg (nI n).toNatClampNeg (nI sn).toNatClampNeg, u21.2.2.2))) [0, 1] rfl
  have hD := hD.sub (ws' := (BW cT a_t (n + sn) (u21.1, u21.2.1, va_cpy sg u21.2.2.1 (0 : Int32).toNatClampNeg (nI n).toNatClampNeg (nI sn).toNatClampNeg, u21.2.2.2))) [0, 1] (by decide) rfl
  exact W.aret (v := .ref a_t) hx hb hr (Or.inl ⟨_, rfl⟩) (Or.inr ⟨_, rfl⟩) (fun t ht hW => ⟨⟨some a_t, (u21.1, u21.2.1, va_cpy sg u21.2.2.1 (0 : Int32).toNatClampNeg (nI n).toNatClampNeg (nI sn).toNatClampNeg, u21.2.2.2), rfl, ⟨rfl, aps_of hu21 hn hsf (by omega)⟩, by rw [ht]; exact hP, hD⟩, hS.F ht⟩) hS.2.2 dJ5_append_cf1ce_44
set_option maxHeartbeats 4000000 in
set_option maxRecDepth 100000 in
theorem cS_appK (l : Launch) (dC : Nat → ClassId) (dI : Nat → Nat → Nat) (cT : Nat → ClassId) {Hh : Heap} {a_s a_sv sn : Nat} {sg : Nat → Int32} {a_t a_v n cap : Nat} {mL : Int32} {f : Nat → Int32} (hsf : BF sg) (hn : n ≤ cap) (hq : n + sn ≤ cap) (hcap : CAP cap) (hff : BF f) {XW : va_W} (eX : XW = [(a_t, .inr (1, [.ref a_v, .int 0, .int mL, .int (nI n)])), (a_v, .inl (cT 6, cap, .inl f))]) (hP0 : va_P (dC, dI) vwCl XW Hh) (hD0 : va_D (fun _ => True) XW) : Met l yJ4_append_15ec4 (wA yJ4_append_15ec4 cJ4_append_15ec4 2 (some (.object "java/lang/StringBuilder"))) ({ frames := 5, cells := 1, slots := 70, locals := 113 } : Room) (PJK a_s a_sv sn sg dC dI cT [.ref a_t, .ref a_s] Hh (va_A XW Hh.size)) (va_Qq (S := BU) (fun r u => r = some a_t ∧ APS n sn sg f u) (fun u t => va_P (dC, dI) vwCl (BW cT a_t (n + sn) u) t.heap ∧ va_D (va_A XW Hh.size) (BW cT a_t (n + sn) u)) (va_A XW Hh.size)) 1 70 (va_A XW Hh.size) := by
  subst eX
  refine MofWF (cc := cJ4_append_15ec4) (maxL := 2) (ret := (some (.object "java/lang/StringBuilder"))) (by decide +kernel) rfl ?_
  intro p e s m args below meth c s₁ B hml hv
  obtain ⟨rfl, hH, hK, hZ, hSP, hKS⟩ := hv
  subst hH
  have hx := B.exec
  have hb := B.bytes
  have hr := B.returns
  have hta : ∀ w9 ∈ ALLW, w9.before [.ref a_t, .ref a_s].toArray s = true := fun w9 hw9 => atoms_spec (ws := wA yJ4_append_15ec4 cJ4_append_15ec4 2 (some (.object "java/lang/StringBuilder"))) B.pre w9 (List.mem_cons_of_mem _ hw9)
  have hown : s.vm.findClass RJ4 = some m.cls := findClass_of_methodNamed B.named
  have hlocks := B.notSynchronized
  have hin : meth.name = "append" := (name_of_methodNamed B.named B.method).1
  have hD := hD0.self (sz := s.heap.size)
  have hP := hP0
  generalize hAe : va_A [(a_t, .inr (1, [.ref a_v, .int 0, .int mL, .int (nI n)])), (a_v, .inl (cT 6, cap, .inl f))] s.heap.size = A at hD hZ hKS ⊢
  have hA : ∀ q : Nat, s.heap.size ≤ q → A q := fun q h => by rw [← hAe]; exact Or.inr h
  have hS : va_S A s.heap s.heap [] := va_S.rf
  have hl := lv_entry [.ref a_t, .ref a_s] (n := 2) (Nat.le_of_ble_eq_true rfl)
  rw [lg_entry_eq]
  generalize (lg_sl [.ref a_t, .ref a_s] ++ List.replicate (2 - (lg_sl [.ref a_t, .ref a_s]).length) Slot.unset).toArray = ls at hl ⊢
  have hl : lv_has ls 2 [(0, .ref a_t), (1, .ref a_s)] := hl
  refine lv_aload_n hx hb dJ4_append_15ec4_0 rfl (lv_at hl 0 rfl) ?_
  refine lv_aload_n hx hb dJ4_append_15ec4_1 rfl (lv_at hl 1 rfl) ?_
  refine cjO (wr := []) (va_runSU (hK.1 1 _ rfl).2 (As := [.ref a_s]) (rest := []) ⟨hx, hb, hml, hown, hta⟩ (cS_app5K l dC dI cT hsf hn hq hcap hff rfl (hP.sub (ws' := [(a_t, .inr (1, [.ref a_v, .int 0, .int mL, .int (nI n)])), (a_v, .inl (cT 6, cap, .inl f))]) [0, 1] rfl) (ds hD [0, 1] (by decide) rfl)) (cSU hta lm_J4_29 mu_J5_append_cf1ce ⟨Nat.le_of_ble_eq_true rfl, Nat.le_of_ble_eq_true rfl⟩) ⟨fbJK, va_recv hK hP (ci := 1) (q0 := 0) rfl rfl, fun U hU hW => ⟨rfl, hU, va_K.moved hW.alike hK, ZS.call hZ hS hU hW (va_free hD hS hA [0, 1] rfl), SP.warm hW hSP, KS.call hKS hS hU hW (va_free hD hS hA [0, 1] rfl)⟩⟩ rfl rfl hl.1 rfl (lv_room (Nat.le_of_ble_eq_true rfl)) dJ4_append_15ec4_2 ⟨by show _ ≤ (1 : Nat); omega, by show _ ≤ (70 : Nat); omega⟩) hS hA hP hD [0, 1] [] rfl rfl (by decide) (by decide) (fun r9 u2 H locs hu hP hD hS => ?_)
  obtain ⟨rfl, hu2⟩ := hu
  have hP : va_P (dC, dI) vwCl [(a_t, .inr (1, [.ref u2.1, .int 0, .int u2.2.2.2, .int (nI (n + sn))])), (u2.1, .inl (cT 6, u2.2.1, .inl u2.2.2.1))] H := hP
  have hD : va_D A [(a_t, .inr (1, [.ref u2.1, .int 0, .int u2.2.2.2, .int (nI (n + sn))])), (u2.1, .inl (cT 6, u2.2.1, .inl u2.2.2.1))] := hD
  refine lv_pop hx hb dJ4_append_15ec4_5 rfl ?_
  refine lv_aload_n hx hb dJ4_append_15ec4_6 rfl (lv_at hl 0 rfl) ?_
  exact W.aret (v := .ref a_t) hx hb hr (Or.inl ⟨_, rfl⟩) (Or.inr ⟨_, rfl⟩) (fun t ht hW => ⟨⟨some a_t, u2, rfl, ⟨rfl, hu2⟩, by rw [ht]; exact hP, hD⟩, hS.F ht⟩) hS.2.2 dJ4_append_15ec4_7
