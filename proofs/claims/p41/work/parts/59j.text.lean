/-! TEXT: append(char), setLength(0), length, charAt (gen/texts.py) -/
section CRV
variable {p : Program} {l : Launch} {e : Env} {R : Room} {s : State} {m : MethodId} {args : Array Value} {below : List Frame} {meth : Method} {c : Code} {H : Heap} {locs : List Loc} {cells slots : Nat} {Q : State → Prop} {pc : Nat} {ls : Array Slot} {rest st0 : List Value} {a : Array Value} {A0 : Nat → Prop} {H0 : Heap}
theorem crV (hr : va_Run p l e R s m args below meth c H locs cells slots 0 0 (F0 m pc ls st0) rest (QVr H a) (va_A [] H.size)) (hS : va_S A0 H0 H locs) (hA : ∀ q, H0.size ≤ q → A0 q) (k : ∀ locs1, va_S A0 H0 H locs1 → W p l e R s m args below meth c H locs1 cells slots Q (F0 m (pc + 3) ls rest)) : W p l e R s m args below meth c H locs cells slots Q (F0 m pc ls st0) := by
  refine va_callv hr hS (fun q _ h => frA hS hA q h) (frA hS hA) (fun u t H1 locs1 ht hvm hw hB hz hk hS1 => ?_)
  have hH : H1 = H := ht.symm.trans hB
  subst hH
  exact k locs1 hS1
end CRV
set_option maxHeartbeats 4000000 in
set_option maxRecDepth 100000 in
theorem cJ_appC5 (l : Launch) (dC : Nat → ClassId) (dI : Nat → Nat → Nat) (cT : Nat → ClassId) {Hh : Heap} {a_t a_v n cap : Nat} {mL : Int32} {f : Nat → Int32} {ch : Int32} (hc : ch ≤ 255) (hn : n ≤ cap) (h7 : n < 70) (hcap : CAP cap) (hff : BF f) {XW : va_W} (eX : XW = [(a_t, .inr (1, [.ref a_v, .int 0, .int mL, .int (nI n)])), (a_v, .inl (cT 6, cap, .inl f))]) (hP0 : va_P (dC, dI) vwCl XW Hh) (hD0 : va_D (fun _ => True) XW) : Met l yJ5_append_3fe6f (wA yJ5_append_3fe6f cJ5_append_3fe6f 2 (some (.object "java/lang/AbstractStringBuilder"))) ({ frames := 4, cells := 1, slots := 70, locals := 91 } : Room) (PJ dC dI cT [.ref a_t, .int ch] Hh (va_A XW Hh.size)) (va_Qq (S := BU) (fun r u => r = some a_t ∧ APP n f ch u) (fun u t => va_P (dC, dI) vwCl (BW cT a_t (n + 1) u) t.heap ∧ va_D (va_A XW Hh.size) (BW cT a_t (n + 1) u)) (va_A XW Hh.size)) 1 70 (va_A XW Hh.size) := by
  subst eX
  refine MofWF (cc := cJ5_append_3fe6f) (maxL := 2) (ret := (some (.object "java/lang/AbstractStringBuilder"))) (by decide +kernel) rfl ?_
  intro p e s m args below meth c s₁ B hml hv
  obtain ⟨rfl, hH, hK, hZ⟩ := hv
  subst hH
  have hx := B.exec
  have hb := B.bytes
  have hr := B.returns
  have hta : ∀ w9 ∈ ALLW, w9.before [.ref a_t, .int ch].toArray s = true := fun w9 hw9 => atoms_spec (ws := wA yJ5_append_3fe6f cJ5_append_3fe6f 2 (some (.object "java/lang/AbstractStringBuilder"))) B.pre w9 (List.mem_cons_of_mem _ hw9)
  have hown : s.vm.findClass RJ5 = some m.cls := findClass_of_methodNamed B.named
  have hlocks := B.notSynchronized
  have hin : meth.name = "append" := (name_of_methodNamed B.named B.method).1
  have hD := hD0.self (sz := s.heap.size)
  have hP := hP0
  generalize hAe : va_A [(a_t, .inr (1, [.ref a_v, .int 0, .int mL, .int (nI n)])), (a_v, .inl (cT 6, cap, .inl f))] s.heap.size = A at hD hZ ⊢
  have hA : ∀ q : Nat, s.heap.size ≤ q → A q := fun q h => by rw [← hAe]; exact Or.inr h
  have hS : va_S A s.heap s.heap [] := va_S.rf
  have hl := lv_entry [.ref a_t, .int ch] (n := 2) (Nat.le_of_ble_eq_true rfl)
  rw [lg_entry_eq]
  generalize (lg_sl [.ref a_t, .int ch] ++ List.replicate (2 - (lg_sl [.ref a_t, .int ch]).length) Slot.unset).toArray = ls at hl ⊢
  have hl : lv_has ls 2 [(0, .ref a_t), (1, .int ch)] := hl
  refine lv_aload_n hx hb dJ5_append_3fe6f_0 rfl (lv_at hl 0 rfl) ?_
  refine lv_aload_n hx hb dJ5_append_3fe6f_1 rfl (lv_at hl 0 rfl) ?_
  refine va_get (D := (dC, dI)) (ci := 1) (v := .int (nI n)) (C := RJ4) (T := TJ4) (N := 4) hx hb hta inJ4w hown hK hP 0 rfl rfl 3 (by decide) (hta _ lk_J5_79) (fun _ h9 => h9) rfl dJ5_append_3fe6f_2 ?_
  refine lv_iconst (v := 1) hx hb dJ5_append_3fe6f_5 (by decide) ?_
  refine lv_iadd hx hb dJ5_append_3fe6f_6 ?_
  refine lv_topi (fun v1 e_v1 => ?_)
  have e9 : v1 = (nI (n + 1)) := e_v1.trans (nI_1 n)
  subst e9
  refine cjV (wr := []) (va_runV (As := [.int (nI (n + 1))]) (rest := []) ⟨hx, hb, hml, hown, hta⟩ (cJ_ens l dC dI cT (ens_q hn h7 hcap) hcap hff rfl (hP.sub (ws' := [(a_t, .inr (1, [.ref a_v, .int 0, .int mL, .int (nI n)])), (a_v, .inl (cT 6, cap, .inl f))]) [0, 1] rfl) (ds hD [0, 1] (by decide) rfl)) (cVP hZ.2.2.2.2.1 hta lm_J5_100 mp_J5_ensureCapacityInternal_d00df ⟨Nat.le_of_ble_eq_true rfl, Nat.le_of_ble_eq_true rfl⟩) ⟨fbJ, va_recv hK hP (ci := 1) (q0 := 0) rfl rfl, fun U hU hW => ⟨rfl, hU, va_K.moved hW.alike hK, ZS.call hZ hS hU hW (va_free hD hS hA [0, 1] rfl)⟩⟩ rfl rfl hl.1 rfl (lv_room (Nat.le_of_ble_eq_true rfl)) dJ5_append_3fe6f_7 ⟨Nat.le_of_ble_eq_true rfl, Nat.le_of_ble_eq_true rfl⟩) hS hA hP hD [0, 1] [] rfl rfl (by decide) (by decide) (fun u7 H locs hu7 hP hD hS => ?_)
  have hP : va_P (dC, dI) vwCl [(a_t, .inr (1, [.ref u7.1, .int 0, .int u7.2.2.2, .int (nI n)])), (u7.1, .inl (cT 6, u7.2.1, .inl u7.2.2.1))] H := hP
  have hD : va_D A [(a_t, .inr (1, [.ref u7.1, .int 0, .int u7.2.2.2, .int (nI n)])), (u7.1, .inl (cT 6, u7.2.1, .inl u7.2.2.1))] := hD
  refine lv_aload_n hx hb dJ5_append_3fe6f_10 rfl (lv_at hl 0 rfl) ?_
  refine crI (va_runV (As := []) (rest := []) ⟨hx, hb, hml, hown, hta⟩ (cJ_lat l dC dI cT rfl (hP.sub (ws' := [(a_t, .inr (1, [.ref u7.1, .int 0, .int u7.2.2.2, .int (nI n)]))]) [0] rfl)) (cV hta lm_J5_83 mv_J5_isLatin1_aae02 ⟨Nat.le_of_ble_eq_true rfl, Nat.le_of_ble_eq_true rfl⟩) ⟨fbJ, va_recv hK hP (ci := 1) (q0 := 0) rfl rfl, fun U hU hW => ⟨rfl, hU, va_K.moved hW.alike hK, ZS.call hZ hS hU hW (frA hS hA)⟩⟩ rfl rfl hl.1 rfl (lv_room (Nat.le_of_ble_eq_true rfl)) dJ5_append_3fe6f_11 ⟨Nat.le_of_ble_eq_true rfl, Nat.le_of_ble_eq_true rfl⟩) hS hA (fun locs hS => ?_)
  refine lv_if_eq (tgt := 45) hx hb dJ5_append_3fe6f_14 (by decide) (fun c0 => ?_) (fun c0 => ?_)
  · exact absurd c0 (by decide)
  · clear c0
    refine lv_iload_n hx hb dJ5_append_3fe6f_17 rfl (lv_at hl 1 rfl) ?_
    refine crI (va_runS (As := [.int ch]) (rest := []) ⟨hx, hb, hml, hown, hta⟩ (cJ_can l dC dI cT hc) (cS hta lm_J5_191 md_J1_canEncode_fc78d ⟨Nat.le_of_ble_eq_true rfl, Nat.le_of_ble_eq_true rfl⟩) ⟨fbJ, fun U hU hW => ⟨rfl, hU, va_K.moved hW.alike hK, ZS.call hZ hS hU hW (frA hS hA)⟩⟩ rfl rfl hl.1 rfl (lv_room (Nat.le_of_ble_eq_true rfl)) dJ5_append_3fe6f_18 ⟨Nat.le_of_ble_eq_true rfl, Nat.le_of_ble_eq_true rfl⟩) hS hA (fun locs hS => ?_)
    refine lv_if_eq (tgt := 45) hx hb dJ5_append_3fe6f_21 (by decide) (fun c0 => ?_) (fun c0 => ?_)
    · exact absurd c0 (by decide)
    · clear c0
      refine lv_aload_n hx hb dJ5_append_3fe6f_24 rfl (lv_at hl 0 rfl) ?_
      refine va_get (D := (dC, dI)) (ci := 1) (v := .ref u7.1) (C := RJ4) (T := TJ4) (N := 4) hx hb hta inJ4w hown hK hP 0 rfl rfl 0 (by decide) (hta _ lk_J5_15) (fun _ h9 => h9) rfl dJ5_append_3fe6f_25 ?_
      refine lv_aload_n hx hb dJ5_append_3fe6f_28 rfl (lv_at hl 0 rfl) ?_
      refine lv_dup hx hb dJ5_append_3fe6f_29 rfl ?_
      refine va_get (D := (dC, dI)) (ci := 1) (v := .int (nI n)) (C := RJ4) (T := TJ4) (N := 4) hx hb hta inJ4w hown hK hP 0 rfl rfl 3 (by decide) (hta _ lk_J5_79) (fun _ h9 => h9) rfl dJ5_append_3fe6f_30 ?_
      refine lv_dup_x1 hx hb dJ5_append_3fe6f_33 rfl rfl ?_
      refine lv_iconst (v := 1) hx hb dJ5_append_3fe6f_34 (by decide) ?_
      refine lv_iadd hx hb dJ5_append_3fe6f_35 ?_
      refine lv_topi (fun v2 e_v2 => ?_)
      have e9 : v2 = (nI (n + 1)) := e_v2.trans (nI_1 n)
      subst e9
      refine va_put (D := (dC, dI)) (ci := 1) (v := .int (nI (n + 1))) (ty := .int) (C := RJ4) (T := TJ4) (N := 4) hx hb hta inJ4w tyJ4 tyJ4_ok nmJ4 hown hK hP hD hS 0 rfl rfl 3 (by decide) (hta _ lk_J5_79) (fun _ h9 => h9) rfl (by decide +kernel) rfl rfl (Nat.le_of_ble_eq_true rfl) dJ5_append_3fe6f_36 (fun H locs hP hD hS => ?_)
      have hP : va_P (dC, dI) vwCl [(a_t, .inr (1, [.ref u7.1, .int 0, .int u7.2.2.2, .int (nI (n + 1))])), (u7.1, .inl (cT 6, u7.2.1, .inl u7.2.2.1))] H := hP
      have hD : va_D A [(a_t, .inr (1, [.ref u7.1, .int 0, .int u7.2.2.2, .int (nI (n + 1))])), (u7.1, .inl (cT 6, u7.2.1, .inl u7.2.2.1))] := hD
      refine lv_iload_n hx hb dJ5_append_3fe6f_39 rfl (lv_at hl 1 rfl) ?_
      refine lv_i2b hx hb dJ5_append_3fe6f_40 rfl ?_
      refine va_bast hx hb hK hP hD hS 1 6 rfl rfl (vp_in_nI (by have := hu7.1; omega) (by have := hu7.2.2.1.le; omega)) dJ5_append_3fe6f_41 (fun H locs hP hD hS => ?_)
      have hP : va_P (dC, dI) vwCl [(a_t, .inr (1, [.ref u7.1, .int 0, .int u7.2.2.2, .int (nI (n + 1))])), (u7.1, .inl (cT 6, u7.2.1, .inl (upd u7.2.2.1 (nI n).toNatClampNeg (vp_nar .byte ch.toInt8.toInt32))))] H := hP
      have hD : va_D A [(a_t, .inr (1, [.ref u7.1, .int 0, .int u7.2.2.2, .int (nI (n + 1))])), (u7.1, .inl (cT 6, u7.2.1, .inl (upd u7.2.2.1 (nI n).toNatClampNeg (vp_nar .byte ch.toInt8.toInt32))))] := hD
      refine lv_goto (tgt := 75) hx hb dJ5_append_3fe6f_42 (by decide) ?_
      refine lv_aload_n hx hb dJ5_append_3fe6f_75 rfl (lv_at hl 0 rfl) ?_
      exact W.aret (v := .ref a_t) hx hb hr (Or.inl ⟨_, rfl⟩) (Or.inr ⟨_, rfl⟩) (fun t ht hW => ⟨⟨some a_t, (u7.1, u7.2.1, upd u7.2.2.1 (nI n).toNatClampNeg (vp_nar .byte ch.toInt8.toInt32), u7.2.2.2), rfl, ⟨rfl, app_of hu7 hn h7⟩, by rw [ht]; exact hP, hD⟩, hS.F ht⟩) hS.2.2 dJ5_append_3fe6f_76
set_option maxHeartbeats 4000000 in
set_option maxRecDepth 100000 in
theorem cJ_appC (l : Launch) (dC : Nat → ClassId) (dI : Nat → Nat → Nat) (cT : Nat → ClassId) {Hh : Heap} {a_t a_v n cap : Nat} {mL : Int32} {f : Nat → Int32} {ch : Int32} (hc : ch ≤ 255) (hn : n ≤ cap) (h7 : n < 70) (hcap : CAP cap) (hff : BF f) {XW : va_W} (eX : XW = [(a_t, .inr (1, [.ref a_v, .int 0, .int mL, .int (nI n)])), (a_v, .inl (cT 6, cap, .inl f))]) (hP0 : va_P (dC, dI) vwCl XW Hh) (hD0 : va_D (fun _ => True) XW) : Met l yJ4_append_cf468 (wA yJ4_append_cf468 cJ4_append_cf468 2 (some (.object "java/lang/StringBuilder"))) ({ frames := 5, cells := 1, slots := 70, locals := 112 } : Room) (PJ dC dI cT [.ref a_t, .int ch] Hh (va_A XW Hh.size)) (va_Qq (S := BU) (fun r u => r = some a_t ∧ APP n f ch u) (fun u t => va_P (dC, dI) vwCl (BW cT a_t (n + 1) u) t.heap ∧ va_D (va_A XW Hh.size) (BW cT a_t (n + 1) u)) (va_A XW Hh.size)) 1 70 (va_A XW Hh.size) := by
  subst eX
  refine MofWF (cc := cJ4_append_cf468) (maxL := 2) (ret := (some (.object "java/lang/StringBuilder"))) (by decide +kernel) rfl ?_
  intro p e s m args below meth c s₁ B hml hv
  obtain ⟨rfl, hH, hK, hZ⟩ := hv
  subst hH
  have hx := B.exec
  have hb := B.bytes
  have hr := B.returns
  have hta : ∀ w9 ∈ ALLW, w9.before [.ref a_t, .int ch].toArray s = true := fun w9 hw9 => atoms_spec (ws := wA yJ4_append_cf468 cJ4_append_cf468 2 (some (.object "java/lang/StringBuilder"))) B.pre w9 (List.mem_cons_of_mem _ hw9)
  have hown : s.vm.findClass RJ4 = some m.cls := findClass_of_methodNamed B.named
  have hlocks := B.notSynchronized
  have hin : meth.name = "append" := (name_of_methodNamed B.named B.method).1
  have hD := hD0.self (sz := s.heap.size)
  have hP := hP0
  generalize hAe : va_A [(a_t, .inr (1, [.ref a_v, .int 0, .int mL, .int (nI n)])), (a_v, .inl (cT 6, cap, .inl f))] s.heap.size = A at hD hZ ⊢
  have hA : ∀ q : Nat, s.heap.size ≤ q → A q := fun q h => by rw [← hAe]; exact Or.inr h
  have hS : va_S A s.heap s.heap [] := va_S.rf
  have hl := lv_entry [.ref a_t, .int ch] (n := 2) (Nat.le_of_ble_eq_true rfl)
  rw [lg_entry_eq]
  generalize (lg_sl [.ref a_t, .int ch] ++ List.replicate (2 - (lg_sl [.ref a_t, .int ch]).length) Slot.unset).toArray = ls at hl ⊢
  have hl : lv_has ls 2 [(0, .ref a_t), (1, .int ch)] := hl
  refine lv_aload_n hx hb dJ4_append_cf468_0 rfl (lv_at hl 0 rfl) ?_
  refine lv_iload_n hx hb dJ4_append_cf468_1 rfl (lv_at hl 1 rfl) ?_
  refine cjO (wr := []) (va_runSU (hK.1 1 _ rfl).2 (As := [.int ch]) (rest := []) ⟨hx, hb, hml, hown, hta⟩ (cJ_appC5 l dC dI cT hc hn h7 hcap hff rfl (hP.sub (ws' := [(a_t, .inr (1, [.ref a_v, .int 0, .int mL, .int (nI n)])), (a_v, .inl (cT 6, cap, .inl f))]) [0, 1] rfl) (ds hD [0, 1] (by decide) rfl)) (cSU hta lm_J4_50 mu_J5_append_3fe6f ⟨Nat.le_of_ble_eq_true rfl, Nat.le_of_ble_eq_true rfl⟩) ⟨fbJ, va_recv hK hP (ci := 1) (q0 := 0) rfl rfl, fun U hU hW => ⟨rfl, hU, va_K.moved hW.alike hK, ZS.call hZ hS hU hW (va_free hD hS hA [0, 1] rfl)⟩⟩ rfl rfl hl.1 rfl (lv_room (Nat.le_of_ble_eq_true rfl)) dJ4_append_cf468_2 ⟨Nat.le_of_ble_eq_true rfl, Nat.le_of_ble_eq_true rfl⟩) hS hA hP hD [0, 1] [] rfl rfl (by decide) (by decide) (fun r9 u2 H locs hu hP hD hS => ?_)
  obtain ⟨rfl, hu2⟩ := hu
  have hP : va_P (dC, dI) vwCl [(a_t, .inr (1, [.ref u2.1, .int 0, .int u2.2.2.2, .int (nI (n + 1))])), (u2.1, .inl (cT 6, u2.2.1, .inl u2.2.2.1))] H := hP
  have hD : va_D A [(a_t, .inr (1, [.ref u2.1, .int 0, .int u2.2.2.2, .int (nI (n + 1))])), (u2.1, .inl (cT 6, u2.2.1, .inl u2.2.2.1))] := hD
  refine lv_pop hx hb dJ4_append_cf468_5 rfl ?_
  refine lv_aload_n hx hb dJ4_append_cf468_6 rfl (lv_at hl 0 rfl) ?_
  exact W.aret (v := .ref a_t) hx hb hr (Or.inl ⟨_, rfl⟩) (Or.inr ⟨_, rfl⟩) (fun t ht hW => ⟨⟨some a_t, u2, rfl, ⟨rfl, hu2⟩, by rw [ht]; exact hP, hD⟩, hS.F ht⟩) hS.2.2 dJ4_append_cf468_7
set_option maxHeartbeats 4000000 in
set_option maxRecDepth 100000 in
theorem cJ_len05 (l : Launch) (dC : Nat → ClassId) (dI : Nat → Nat → Nat) (cT : Nat → ClassId) {Hh : Heap} {a_t a_v n cap : Nat} {mL : Int32} {f : Nat → Int32} (h7 : n ≤ 70) (hcap : CAP cap) (hff : BF f) {XW : va_W} (eX : XW = [(a_t, .inr (1, [.ref a_v, .int 0, .int mL, .int (nI n)])), (a_v, .inl (cT 6, cap, .inl f))]) (hP0 : va_P (dC, dI) vwCl XW Hh) (hD0 : va_D (fun _ => True) XW) : Met l yJ5_setLength_d00df (wA yJ5_setLength_d00df cJ5_setLength_d00df 2 none) ({ frames := 4, cells := 1, slots := 70, locals := 91 } : Room) (PJ dC dI cT [.ref a_t, .int 0] Hh (va_A XW Hh.size)) (va_Qv (S := BU) (fun u => CAP u.2.1 ∧ BF u.2.2.1) (fun u t => va_P (dC, dI) vwCl (BW cT a_t 0 u) t.heap ∧ va_D (va_A XW Hh.size) (BW cT a_t 0 u)) (va_A XW Hh.size)) 1 70 (va_A XW Hh.size) := by
  subst eX
  refine MofWF (cc := cJ5_setLength_d00df) (maxL := 2) (ret := none) (by decide +kernel) rfl ?_
  intro p e s m args below meth c s₁ B hml hv
  obtain ⟨rfl, hH, hK, hZ⟩ := hv
  subst hH
  have hx := B.exec
  have hb := B.bytes
  have hr := B.returns
  have hta : ∀ w9 ∈ ALLW, w9.before [.ref a_t, .int 0].toArray s = true := fun w9 hw9 => atoms_spec (ws := wA yJ5_setLength_d00df cJ5_setLength_d00df 2 none) B.pre w9 (List.mem_cons_of_mem _ hw9)
  have hown : s.vm.findClass RJ5 = some m.cls := findClass_of_methodNamed B.named
  have hlocks := B.notSynchronized
  have hin : meth.name = "setLength" := (name_of_methodNamed B.named B.method).1
  have hD := hD0.self (sz := s.heap.size)
  have hP := hP0
  generalize hAe : va_A [(a_t, .inr (1, [.ref a_v, .int 0, .int mL, .int (nI n)])), (a_v, .inl (cT 6, cap, .inl f))] s.heap.size = A at hD hZ ⊢
  have hA : ∀ q : Nat, s.heap.size ≤ q → A q := fun q h => by rw [← hAe]; exact Or.inr h
  have hS : va_S A s.heap s.heap [] := va_S.rf
  have hl := lv_entry [.ref a_t, .int 0] (n := 2) (Nat.le_of_ble_eq_true rfl)
  rw [lg_entry_eq]
  generalize (lg_sl [.ref a_t, .int 0] ++ List.replicate (2 - (lg_sl [.ref a_t, .int 0]).length) Slot.unset).toArray = ls at hl ⊢
  have hl : lv_has ls 2 [(0, .ref a_t), (1, .int 0)] := hl
  rcases Nat.eq_zero_or_pos n with hn0 | hn0
  · refine lv_iload_n hx hb dJ5_setLength_d00df_0 rfl (lv_at hl 1 rfl) ?_
    refine lv_if_ge (tgt := 13) hx hb dJ5_setLength_d00df_1 (by decide) (fun c0 => ?_) (fun c0 => ?_)
    · clear c0
      refine lv_aload_n hx hb dJ5_setLength_d00df_13 rfl (lv_at hl 0 rfl) ?_
      refine lv_iload_n hx hb dJ5_setLength_d00df_14 rfl (lv_at hl 1 rfl) ?_
      refine cjV (wr := []) (va_runV (As := [.int 0]) (rest := []) ⟨hx, hb, hml, hown, hta⟩ (cJ_ens l dC dI cT (q := 0) (Or.inl (Nat.zero_le _)) hcap hff rfl (hP.sub (ws' := [(a_t, .inr (1, [.ref a_v, .int 0, .int mL, .int (nI n)])), (a_v, .inl (cT 6, cap, .inl f))]) [0, 1] rfl) (ds hD [0, 1] (by decide) rfl)) (cVP hZ.2.2.2.2.1 hta lm_J5_100 mp_J5_ensureCapacityInternal_d00df ⟨Nat.le_of_ble_eq_true rfl, Nat.le_of_ble_eq_true rfl⟩) ⟨fbJ, va_recv hK hP (ci := 1) (q0 := 0) rfl rfl, fun U hU hW => ⟨rfl, hU, va_K.moved hW.alike hK, ZS.call hZ hS hU hW (va_free hD hS hA [0, 1] rfl)⟩⟩ rfl rfl hl.1 rfl (lv_room (Nat.le_of_ble_eq_true rfl)) dJ5_setLength_d00df_15 ⟨Nat.le_of_ble_eq_true rfl, Nat.le_of_ble_eq_true rfl⟩) hS hA hP hD [0, 1] [] rfl rfl (by decide) (by decide) (fun u15 H locs hu15 hP hD hS => ?_)
      have hP : va_P (dC, dI) vwCl [(a_t, .inr (1, [.ref u15.1, .int 0, .int u15.2.2.2, .int (nI n)])), (u15.1, .inl (cT 6, u15.2.1, .inl u15.2.2.1))] H := hP
      have hD : va_D A [(a_t, .inr (1, [.ref u15.1, .int 0, .int u15.2.2.2, .int (nI n)])), (u15.1, .inl (cT 6, u15.2.1, .inl u15.2.2.1))] := hD
      refine lv_aload_n hx hb dJ5_setLength_d00df_18 rfl (lv_at hl 0 rfl) ?_
      refine va_get (D := (dC, dI)) (ci := 1) (v := .int (nI n)) (C := RJ4) (T := TJ4) (N := 4) hx hb hta inJ4w hown hK hP 0 rfl rfl 3 (by decide) (hta _ lk_J5_79) (fun _ h9 => h9) rfl dJ5_setLength_d00df_19 ?_
      refine lv_iload_n hx hb dJ5_setLength_d00df_22 rfl (lv_at hl 1 rfl) ?_
      refine lv_icmp_ge (tgt := 63) hx hb dJ5_setLength_d00df_23 (by decide) (fun c0 => ?_) (fun c0 => ?_)
      · clear c0
        refine lv_aload_n hx hb dJ5_setLength_d00df_63 rfl (lv_at hl 0 rfl) ?_
        refine va_get (D := (dC, dI)) (ci := 1) (v := .int (nI n)) (C := RJ4) (T := TJ4) (N := 4) hx hb hta inJ4w hown hK hP 0 rfl rfl 3 (by decide) (hta _ lk_J5_79) (fun _ h9 => h9) rfl dJ5_setLength_d00df_64 ?_
        refine lv_iload_n hx hb dJ5_setLength_d00df_67 rfl (lv_at hl 1 rfl) ?_
        refine lv_icmp_le (tgt := 76) hx hb dJ5_setLength_d00df_68 (by decide) (fun c0 => ?_) (fun c0 => ?_)
        · clear c0
          refine lv_aload_n hx hb dJ5_setLength_d00df_76 rfl (lv_at hl 0 rfl) ?_
          refine lv_iload_n hx hb dJ5_setLength_d00df_77 rfl (lv_at hl 1 rfl) ?_
          refine va_put (D := (dC, dI)) (ci := 1) (v := .int 0) (ty := .int) (C := RJ4) (T := TJ4) (N := 4) hx hb hta inJ4w tyJ4 tyJ4_ok nmJ4 hown hK hP hD hS 0 rfl rfl 3 (by decide) (hta _ lk_J5_79) (fun _ h9 => h9) rfl (by decide +kernel) rfl rfl (Nat.le_of_ble_eq_true rfl) dJ5_setLength_d00df_78 (fun H locs hP hD hS => ?_)
          have hP : va_P (dC, dI) vwCl [(a_t, .inr (1, [.ref u15.1, .int 0, .int u15.2.2.2, .int 0])), (u15.1, .inl (cT 6, u15.2.1, .inl u15.2.2.1))] H := hP
          have hD : va_D A [(a_t, .inr (1, [.ref u15.1, .int 0, .int u15.2.2.2, .int 0])), (u15.1, .inl (cT 6, u15.2.1, .inl u15.2.2.1))] := hD
          exact W.vret hx hb hr (fun t ht hW => ⟨⟨(u15.1, u15.2.1, u15.2.2.1, u15.2.2.2), rfl, ⟨hu15.2.2.1, hu15.2.2.2.2.2⟩, by rw [ht]; exact hP, hD⟩, hS.F ht⟩) hS.2.2 dJ5_setLength_d00df_81
        · exact absurd (by rw [hn0]; decide) c0
      · exact absurd (nI_pos' (by omega)) c0
    · exact absurd (by decide) c0
  · refine lv_iload_n hx hb dJ5_setLength_d00df_0 rfl (lv_at hl 1 rfl) ?_
    refine lv_if_ge (tgt := 13) hx hb dJ5_setLength_d00df_1 (by decide) (fun c0 => ?_) (fun c0 => ?_)
    · clear c0
      refine lv_aload_n hx hb dJ5_setLength_d00df_13 rfl (lv_at hl 0 rfl) ?_
      refine lv_iload_n hx hb dJ5_setLength_d00df_14 rfl (lv_at hl 1 rfl) ?_
      refine cjV (wr := []) (va_runV (As := [.int 0]) (rest := []) ⟨hx, hb, hml, hown, hta⟩ (cJ_ens l dC dI cT (q := 0) (Or.inl (Nat.zero_le _)) hcap hff rfl (hP.sub (ws' := [(a_t, .inr (1, [.ref a_v, .int 0, .int mL, .int (nI n)])), (a_v, .inl (cT 6, cap, .inl f))]) [0, 1] rfl) (ds hD [0, 1] (by decide) rfl)) (cVP hZ.2.2.2.2.1 hta lm_J5_100 mp_J5_ensureCapacityInternal_d00df ⟨Nat.le_of_ble_eq_true rfl, Nat.le_of_ble_eq_true rfl⟩) ⟨fbJ, va_recv hK hP (ci := 1) (q0 := 0) rfl rfl, fun U hU hW => ⟨rfl, hU, va_K.moved hW.alike hK, ZS.call hZ hS hU hW (va_free hD hS hA [0, 1] rfl)⟩⟩ rfl rfl hl.1 rfl (lv_room (Nat.le_of_ble_eq_true rfl)) dJ5_setLength_d00df_15 ⟨Nat.le_of_ble_eq_true rfl, Nat.le_of_ble_eq_true rfl⟩) hS hA hP hD [0, 1] [] rfl rfl (by decide) (by decide) (fun u15 H locs hu15 hP hD hS => ?_)
      have hP : va_P (dC, dI) vwCl [(a_t, .inr (1, [.ref u15.1, .int 0, .int u15.2.2.2, .int (nI n)])), (u15.1, .inl (cT 6, u15.2.1, .inl u15.2.2.1))] H := hP
      have hD : va_D A [(a_t, .inr (1, [.ref u15.1, .int 0, .int u15.2.2.2, .int (nI n)])), (u15.1, .inl (cT 6, u15.2.1, .inl u15.2.2.1))] := hD
      refine lv_aload_n hx hb dJ5_setLength_d00df_18 rfl (lv_at hl 0 rfl) ?_
      refine va_get (D := (dC, dI)) (ci := 1) (v := .int (nI n)) (C := RJ4) (T := TJ4) (N := 4) hx hb hta inJ4w hown hK hP 0 rfl rfl 3 (by decide) (hta _ lk_J5_79) (fun _ h9 => h9) rfl dJ5_setLength_d00df_19 ?_
      refine lv_iload_n hx hb dJ5_setLength_d00df_22 rfl (lv_at hl 1 rfl) ?_
      refine lv_icmp_ge (tgt := 63) hx hb dJ5_setLength_d00df_23 (by decide) (fun c0 => ?_) (fun c0 => ?_)
      · clear c0
        refine lv_aload_n hx hb dJ5_setLength_d00df_63 rfl (lv_at hl 0 rfl) ?_
        refine va_get (D := (dC, dI)) (ci := 1) (v := .int (nI n)) (C := RJ4) (T := TJ4) (N := 4) hx hb hta inJ4w hown hK hP 0 rfl rfl 3 (by decide) (hta _ lk_J5_79) (fun _ h9 => h9) rfl dJ5_setLength_d00df_64 ?_
        refine lv_iload_n hx hb dJ5_setLength_d00df_67 rfl (lv_at hl 1 rfl) ?_
        refine lv_icmp_le (tgt := 76) hx hb dJ5_setLength_d00df_68 (by decide) (fun c0 => ?_) (fun c0 => ?_)
        · exact absurd c0 (nI_nle hn0 (by omega))
        · clear c0
          refine lv_aload_n hx hb dJ5_setLength_d00df_71 rfl (lv_at hl 0 rfl) ?_
          refine lv_iconst (v := 1) hx hb dJ5_setLength_d00df_72 (by decide) ?_
          refine va_put (D := (dC, dI)) (ci := 1) (v := .int 1) (ty := .boolean) (C := RJ4) (T := TJ4) (N := 4) hx hb hta inJ4w tyJ4 tyJ4_ok nmJ4 hown hK hP hD hS 0 rfl rfl 2 (by decide) (hta _ lk_J5_73) (fun _ h9 => h9) rfl (by decide +kernel) rfl rfl (Nat.le_of_ble_eq_true rfl) dJ5_setLength_d00df_73 (fun H locs hP hD hS => ?_)
          have hP : va_P (dC, dI) vwCl [(a_t, .inr (1, [.ref u15.1, .int 0, .int 1, .int (nI n)])), (u15.1, .inl (cT 6, u15.2.1, .inl u15.2.2.1))] H := hP
          have hD : va_D A [(a_t, .inr (1, [.ref u15.1, .int 0, .int 1, .int (nI n)])), (u15.1, .inl (cT 6, u15.2.1, .inl u15.2.2.1))] := hD
          refine lv_aload_n hx hb dJ5_setLength_d00df_76 rfl (lv_at hl 0 rfl) ?_
          refine lv_iload_n hx hb dJ5_setLength_d00df_77 rfl (lv_at hl 1 rfl) ?_
          refine va_put (D := (dC, dI)) (ci := 1) (v := .int 0) (ty := .int) (C := RJ4) (T := TJ4) (N := 4) hx hb hta inJ4w tyJ4 tyJ4_ok nmJ4 hown hK hP hD hS 0 rfl rfl 3 (by decide) (hta _ lk_J5_79) (fun _ h9 => h9) rfl (by decide +kernel) rfl rfl (Nat.le_of_ble_eq_true rfl) dJ5_setLength_d00df_78 (fun H locs hP hD hS => ?_)
          have hP : va_P (dC, dI) vwCl [(a_t, .inr (1, [.ref u15.1, .int 0, .int 1, .int 0])), (u15.1, .inl (cT 6, u15.2.1, .inl u15.2.2.1))] H := hP
          have hD : va_D A [(a_t, .inr (1, [.ref u15.1, .int 0, .int 1, .int 0])), (u15.1, .inl (cT 6, u15.2.1, .inl u15.2.2.1))] := hD
          exact W.vret hx hb hr (fun t ht hW => ⟨⟨(u15.1, u15.2.1, u15.2.2.1, 1), rfl, ⟨hu15.2.2.1, hu15.2.2.2.2.2⟩, by rw [ht]; exact hP, hD⟩, hS.F ht⟩) hS.2.2 dJ5_setLength_d00df_81
      · exact absurd (nI_pos' (by omega)) c0
    · exact absurd (by decide) c0
set_option maxHeartbeats 4000000 in
set_option maxRecDepth 100000 in
theorem cJ_len0 (l : Launch) (dC : Nat → ClassId) (dI : Nat → Nat → Nat) (cT : Nat → ClassId) {Hh : Heap} {a_t a_v n cap : Nat} {mL : Int32} {f : Nat → Int32} (h7 : n ≤ 70) (hcap : CAP cap) (hff : BF f) {XW : va_W} (eX : XW = [(a_t, .inr (1, [.ref a_v, .int 0, .int mL, .int (nI n)])), (a_v, .inl (cT 6, cap, .inl f))]) (hP0 : va_P (dC, dI) vwCl XW Hh) (hD0 : va_D (fun _ => True) XW) : Met l yJ4_setLength_d00df (wA yJ4_setLength_d00df cJ4_setLength_d00df 2 none) ({ frames := 5, cells := 1, slots := 70, locals := 112 } : Room) (PJ dC dI cT [.ref a_t, .int 0] Hh (va_A XW Hh.size)) (va_Qv (S := BU) (fun u => CAP u.2.1 ∧ BF u.2.2.1) (fun u t => va_P (dC, dI) vwCl (BW cT a_t 0 u) t.heap ∧ va_D (va_A XW Hh.size) (BW cT a_t 0 u)) (va_A XW Hh.size)) 1 70 (va_A XW Hh.size) := by
  subst eX
  refine MofWF (cc := cJ4_setLength_d00df) (maxL := 2) (ret := none) (by decide +kernel) rfl ?_
  intro p e s m args below meth c s₁ B hml hv
  obtain ⟨rfl, hH, hK, hZ⟩ := hv
  subst hH
  have hx := B.exec
  have hb := B.bytes
  have hr := B.returns
  have hta : ∀ w9 ∈ ALLW, w9.before [.ref a_t, .int 0].toArray s = true := fun w9 hw9 => atoms_spec (ws := wA yJ4_setLength_d00df cJ4_setLength_d00df 2 none) B.pre w9 (List.mem_cons_of_mem _ hw9)
  have hown : s.vm.findClass RJ4 = some m.cls := findClass_of_methodNamed B.named
  have hlocks := B.notSynchronized
  have hin : meth.name = "setLength" := (name_of_methodNamed B.named B.method).1
  have hD := hD0.self (sz := s.heap.size)
  have hP := hP0
  generalize hAe : va_A [(a_t, .inr (1, [.ref a_v, .int 0, .int mL, .int (nI n)])), (a_v, .inl (cT 6, cap, .inl f))] s.heap.size = A at hD hZ ⊢
  have hA : ∀ q : Nat, s.heap.size ≤ q → A q := fun q h => by rw [← hAe]; exact Or.inr h
  have hS : va_S A s.heap s.heap [] := va_S.rf
  have hl := lv_entry [.ref a_t, .int 0] (n := 2) (Nat.le_of_ble_eq_true rfl)
  rw [lg_entry_eq]
  generalize (lg_sl [.ref a_t, .int 0] ++ List.replicate (2 - (lg_sl [.ref a_t, .int 0]).length) Slot.unset).toArray = ls at hl ⊢
  have hl : lv_has ls 2 [(0, .ref a_t), (1, .int 0)] := hl
  refine lv_aload_n hx hb dJ4_setLength_d00df_0 rfl (lv_at hl 0 rfl) ?_
  refine lv_iload_n hx hb dJ4_setLength_d00df_1 rfl (lv_at hl 1 rfl) ?_
  refine cjV (wr := []) (va_runSU (hK.1 1 _ rfl).2 (As := [.int 0]) (rest := []) ⟨hx, hb, hml, hown, hta⟩ (cJ_len05 l dC dI cT h7 hcap hff rfl (hP.sub (ws' := [(a_t, .inr (1, [.ref a_v, .int 0, .int mL, .int (nI n)])), (a_v, .inl (cT 6, cap, .inl f))]) [0, 1] rfl) (ds hD [0, 1] (by decide) rfl)) (cSU hta lm_J4_333 mu_J5_setLength_d00df ⟨Nat.le_of_ble_eq_true rfl, Nat.le_of_ble_eq_true rfl⟩) ⟨fbJ, va_recv hK hP (ci := 1) (q0 := 0) rfl rfl, fun U hU hW => ⟨rfl, hU, va_K.moved hW.alike hK, ZS.call hZ hS hU hW (va_free hD hS hA [0, 1] rfl)⟩⟩ rfl rfl hl.1 rfl (lv_room (Nat.le_of_ble_eq_true rfl)) dJ4_setLength_d00df_2 ⟨Nat.le_of_ble_eq_true rfl, Nat.le_of_ble_eq_true rfl⟩) hS hA hP hD [0, 1] [] rfl rfl (by decide) (by decide) (fun u2 H locs hu2 hP hD hS => ?_)
  have hP : va_P (dC, dI) vwCl [(a_t, .inr (1, [.ref u2.1, .int 0, .int u2.2.2.2, .int (nI 0)])), (u2.1, .inl (cT 6, u2.2.1, .inl u2.2.2.1))] H := hP
  have hD : va_D A [(a_t, .inr (1, [.ref u2.1, .int 0, .int u2.2.2.2, .int (nI 0)])), (u2.1, .inl (cT 6, u2.2.1, .inl u2.2.2.1))] := hD
  exact W.vret hx hb hr (fun t ht hW => ⟨⟨u2, rfl, hu2, by rw [ht]; exact hP, hD⟩, hS.F ht⟩) hS.2.2 dJ4_setLength_d00df_5
set_option maxHeartbeats 4000000 in
set_option maxRecDepth 100000 in
theorem cJ_length5 (l : Launch) (dC : Nat → ClassId) (dI : Nat → Nat → Nat) (cT : Nat → ClassId) {Hh : Heap} {a_t a_v n : Nat} {mL : Int32} {XW : va_W} (eX : XW = [(a_t, .inr (1, [.ref a_v, .int 0, .int mL, .int (nI n)]))]) (hP0 : va_P (dC, dI) vwCl XW Hh) : Met l yJ5_length_8abf5 (wA yJ5_length_8abf5 cJ5_length_8abf5 1 (some .int)) ({ frames := 0, cells := 0, slots := 0, locals := 0 } : Room) (PJ dC dI cT [.ref a_t] Hh (va_A [] Hh.size)) (va_Qi (fun x (_ : Unit) => x = (nI n)) (fun _ t => t.heap = Hh) (va_A [] Hh.size)) 0 0 (va_A [] Hh.size) := by
  subst eX
  refine MofWF (cc := cJ5_length_8abf5) (maxL := 1) (ret := (some .int)) (by decide +kernel) rfl ?_
  intro p e s m args below meth c s₁ B hml hv
  obtain ⟨rfl, hH, hK, hZ⟩ := hv
  subst hH
  have hx := B.exec
  have hb := B.bytes
  have hr := B.returns
  have hta : ∀ w9 ∈ ALLW, w9.before [.ref a_t].toArray s = true := fun w9 hw9 => atoms_spec (ws := wA yJ5_length_8abf5 cJ5_length_8abf5 1 (some .int)) B.pre w9 (List.mem_cons_of_mem _ hw9)
  have hown : s.vm.findClass RJ5 = some m.cls := findClass_of_methodNamed B.named
  have hlocks := B.notSynchronized
  have hin : meth.name = "length" := (name_of_methodNamed B.named B.method).1
  have hP := hP0
  generalize hAe : va_A [] s.heap.size = A at hZ ⊢
  have hA : ∀ q : Nat, s.heap.size ≤ q → A q := fun q h => by rw [← hAe]; exact Or.inr h
  have hS : va_S A s.heap s.heap [] := va_S.rf
  have hl := lv_entry [.ref a_t] (n := 1) (Nat.le_of_ble_eq_true rfl)
  rw [lg_entry_eq]
  generalize (lg_sl [.ref a_t] ++ List.replicate (1 - (lg_sl [.ref a_t]).length) Slot.unset).toArray = ls at hl ⊢
  have hl : lv_has ls 1 [(0, .ref a_t)] := hl
  refine lv_aload_n hx hb dJ5_length_8abf5_0 rfl (lv_at hl 0 rfl) ?_
  refine va_get (D := (dC, dI)) (ci := 1) (v := .int (nI n)) (C := RJ4) (T := TJ4) (N := 4) hx hb hta inJ4w hown hK hP 0 rfl rfl 3 (by decide) (hta _ lk_J5_79) (fun _ h9 => h9) rfl dJ5_length_8abf5_1 ?_
  exact W.iret (v := (nI n)) hx hb hr (fun t ht hW => ⟨⟨(nI n), (), rfl, rfl, ht⟩, hS.F ht⟩) hS.2.2 dJ5_length_8abf5_4
set_option maxHeartbeats 4000000 in
set_option maxRecDepth 100000 in
theorem cJ_length (l : Launch) (dC : Nat → ClassId) (dI : Nat → Nat → Nat) (cT : Nat → ClassId) {Hh : Heap} {a_t a_v n : Nat} {mL : Int32} {XW : va_W} (eX : XW = [(a_t, .inr (1, [.ref a_v, .int 0, .int mL, .int (nI n)]))]) (hP0 : va_P (dC, dI) vwCl XW Hh) : Met l yJ4_length_8abf5 (wA yJ4_length_8abf5 cJ4_length_8abf5 1 (some .int)) ({ frames := 1, cells := 0, slots := 0, locals := 20 } : Room) (PJ dC dI cT [.ref a_t] Hh (va_A [] Hh.size)) (va_Qi (fun x (_ : Unit) => x = (nI n)) (fun _ t => t.heap = Hh) (va_A [] Hh.size)) 0 0 (va_A [] Hh.size) := by
  subst eX
  refine MofWF (cc := cJ4_length_8abf5) (maxL := 1) (ret := (some .int)) (by decide +kernel) rfl ?_
  intro p e s m args below meth c s₁ B hml hv
  obtain ⟨rfl, hH, hK, hZ⟩ := hv
  subst hH
  have hx := B.exec
  have hb := B.bytes
  have hr := B.returns
  have hta : ∀ w9 ∈ ALLW, w9.before [.ref a_t].toArray s = true := fun w9 hw9 => atoms_spec (ws := wA yJ4_length_8abf5 cJ4_length_8abf5 1 (some .int)) B.pre w9 (List.mem_cons_of_mem _ hw9)
  have hown : s.vm.findClass RJ4 = some m.cls := findClass_of_methodNamed B.named
  have hlocks := B.notSynchronized
  have hin : meth.name = "length" := (name_of_methodNamed B.named B.method).1
  have hP := hP0
  generalize hAe : va_A [] s.heap.size = A at hZ ⊢
  have hA : ∀ q : Nat, s.heap.size ≤ q → A q := fun q h => by rw [← hAe]; exact Or.inr h
  have hS : va_S A s.heap s.heap [] := va_S.rf
  have hl := lv_entry [.ref a_t] (n := 1) (Nat.le_of_ble_eq_true rfl)
  rw [lg_entry_eq]
  generalize (lg_sl [.ref a_t] ++ List.replicate (1 - (lg_sl [.ref a_t]).length) Slot.unset).toArray = ls at hl ⊢
  have hl : lv_has ls 1 [(0, .ref a_t)] := hl
  refine lv_aload_n hx hb dJ4_length_8abf5_0 rfl (lv_at hl 0 rfl) ?_
  refine crI (va_runSU (hK.1 1 _ rfl).2 (As := []) (rest := []) ⟨hx, hb, hml, hown, hta⟩ (cJ_length5 l dC dI cT rfl (hP.sub (ws' := [(a_t, .inr (1, [.ref a_v, .int 0, .int mL, .int (nI n)]))]) [0] rfl)) (cSU hta lm_J4_343 mu_J5_length_8abf5 ⟨Nat.le_of_ble_eq_true rfl, Nat.le_of_ble_eq_true rfl⟩) ⟨fbJ, va_recv hK hP (ci := 1) (q0 := 0) rfl rfl, fun U hU hW => ⟨rfl, hU, va_K.moved hW.alike hK, ZS.call hZ hS hU hW (frA hS hA)⟩⟩ rfl rfl hl.1 rfl (lv_room (Nat.le_of_ble_eq_true rfl)) dJ4_length_8abf5_1 ⟨Nat.le_of_ble_eq_true rfl, Nat.le_of_ble_eq_true rfl⟩) hS hA (fun locs hS => ?_)
  exact W.iret (v := (nI n)) hx hb hr (fun t ht hW => ⟨⟨(nI n), (), rfl, rfl, ht⟩, hS.F ht⟩) hS.2.2 dJ4_length_8abf5_4
set_option maxHeartbeats 4000000 in
set_option maxRecDepth 100000 in
theorem cJ_pchkN (l : Launch) (dC : Nat → ClassId) (dI : Nat → Nat → Nat) (cT : Nat → ClassId) {Hh : Heap} {i n : Nat} (hi : i < n) (hn : n ≤ 70) : Met l yJ3_checkIndex_8e157 (wA yJ3_checkIndex_8e157 cJ3_checkIndex_8e157 3 (some .int)) ({ frames := 0, cells := 0, slots := 0, locals := 0 } : Room) (PJ dC dI cT [.int (nI i), .int (nI n), .null] Hh (va_A [] Hh.size)) (va_Qi (fun x (_ : Unit) => x = (nI i)) (fun _ t => t.heap = Hh) (va_A [] Hh.size)) 0 0 (va_A [] Hh.size) := by
  refine MofWF (cc := cJ3_checkIndex_8e157) (maxL := 3) (ret := (some .int)) (by decide +kernel) rfl ?_
  intro p e s m args below meth c s₁ B hml hv
  obtain ⟨rfl, hH, hK, hZ⟩ := hv
  subst hH
  have hx := B.exec
  have hb := B.bytes
  have hr := B.returns
  have hta : ∀ w9 ∈ ALLW, w9.before [.int (nI i), .int (nI n), .null].toArray s = true := fun w9 hw9 => atoms_spec (ws := wA yJ3_checkIndex_8e157 cJ3_checkIndex_8e157 3 (some .int)) B.pre w9 (List.mem_cons_of_mem _ hw9)
  have hown : s.vm.findClass RJ3 = some m.cls := findClass_of_methodNamed B.named
  have hlocks := B.notSynchronized
  have hin : meth.name = "checkIndex" := (name_of_methodNamed B.named B.method).1
  generalize hAe : va_A [] s.heap.size = A at hZ ⊢
  have hA : ∀ q : Nat, s.heap.size ≤ q → A q := fun q h => by rw [← hAe]; exact Or.inr h
  have hS : va_S A s.heap s.heap [] := va_S.rf
  have hl := lv_entry [.int (nI i), .int (nI n), .null] (n := 3) (Nat.le_of_ble_eq_true rfl)
  rw [lg_entry_eq]
  generalize (lg_sl [.int (nI i), .int (nI n), .null] ++ List.replicate (3 - (lg_sl [.int (nI i), .int (nI n), .null]).length) Slot.unset).toArray = ls at hl ⊢
  have hl : lv_has ls 3 [(0, .int (nI i)), (1, .int (nI n)), (2, .null)] := hl
  refine lv_iload_n hx hb dJ3_checkIndex_8e157_0 rfl (lv_at hl 0 rfl) ?_
  refine lv_if_lt (tgt := 9) hx hb dJ3_checkIndex_8e157_1 (by decide) (fun c0 => ?_) (fun c0 => ?_)
  · exact absurd c0 (nI_pos (by omega))
  · clear c0
    refine lv_iload_n hx hb dJ3_checkIndex_8e157_4 rfl (lv_at hl 0 rfl) ?_
    refine lv_iload_n hx hb dJ3_checkIndex_8e157_5 rfl (lv_at hl 1 rfl) ?_
    refine lv_icmp_lt (tgt := 16) hx hb dJ3_checkIndex_8e157_6 (by decide) (fun c0 => ?_) (fun c0 => ?_)
    · clear c0
      refine lv_iload_n hx hb dJ3_checkIndex_8e157_16 rfl (lv_at hl 0 rfl) ?_
      exact W.iret (v := (nI i)) hx hb hr (fun t ht hW => ⟨⟨(nI i), (), rfl, rfl, ht⟩, hS.F ht⟩) hS.2.2 dJ3_checkIndex_8e157_17
    · exact absurd (nI_lt hi (by omega)) c0
set_option maxHeartbeats 4000000 in
set_option maxRecDepth 100000 in
theorem cJ_pchkR (l : Launch) (dC : Nat → ClassId) (dI : Nat → Nat → Nat) (cT : Nat → ClassId) {Hh : Heap} {i n : Nat} {t9 : Nat} (hi : i < n) (hn : n ≤ 70) : Met l yJ3_checkIndex_8e157 (wA yJ3_checkIndex_8e157 cJ3_checkIndex_8e157 3 (some .int)) ({ frames := 0, cells := 0, slots := 0, locals := 0 } : Room) (PJ dC dI cT [.int (nI i), .int (nI n), .ref t9] Hh (va_A [] Hh.size)) (va_Qi (fun x (_ : Unit) => x = (nI i)) (fun _ t => t.heap = Hh) (va_A [] Hh.size)) 0 0 (va_A [] Hh.size) := by
  refine MofWF (cc := cJ3_checkIndex_8e157) (maxL := 3) (ret := (some .int)) (by decide +kernel) rfl ?_
  intro p e s m args below meth c s₁ B hml hv
  obtain ⟨rfl, hH, hK, hZ⟩ := hv
  subst hH
  have hx := B.exec
  have hb := B.bytes
  have hr := B.returns
  have hta : ∀ w9 ∈ ALLW, w9.before [.int (nI i), .int (nI n), .ref t9].toArray s = true := fun w9 hw9 => atoms_spec (ws := wA yJ3_checkIndex_8e157 cJ3_checkIndex_8e157 3 (some .int)) B.pre w9 (List.mem_cons_of_mem _ hw9)
  have hown : s.vm.findClass RJ3 = some m.cls := findClass_of_methodNamed B.named
  have hlocks := B.notSynchronized
  have hin : meth.name = "checkIndex" := (name_of_methodNamed B.named B.method).1
  generalize hAe : va_A [] s.heap.size = A at hZ ⊢
  have hA : ∀ q : Nat, s.heap.size ≤ q → A q := fun q h => by rw [← hAe]; exact Or.inr h
  have hS : va_S A s.heap s.heap [] := va_S.rf
  have hl := lv_entry [.int (nI i), .int (nI n), .ref t9] (n := 3) (Nat.le_of_ble_eq_true rfl)
  rw [lg_entry_eq]
  generalize (lg_sl [.int (nI i), .int (nI n), .ref t9] ++ List.replicate (3 - (lg_sl [.int (nI i), .int (nI n), .ref t9]).length) Slot.unset).toArray = ls at hl ⊢
  have hl : lv_has ls 3 [(0, .int (nI i)), (1, .int (nI n)), (2, .ref t9)] := hl
  refine lv_iload_n hx hb dJ3_checkIndex_8e157_0 rfl (lv_at hl 0 rfl) ?_
  refine lv_if_lt (tgt := 9) hx hb dJ3_checkIndex_8e157_1 (by decide) (fun c0 => ?_) (fun c0 => ?_)
  · exact absurd c0 (nI_pos (by omega))
  · clear c0
    refine lv_iload_n hx hb dJ3_checkIndex_8e157_4 rfl (lv_at hl 0 rfl) ?_
    refine lv_iload_n hx hb dJ3_checkIndex_8e157_5 rfl (lv_at hl 1 rfl) ?_
    refine lv_icmp_lt (tgt := 16) hx hb dJ3_checkIndex_8e157_6 (by decide) (fun c0 => ?_) (fun c0 => ?_)
    · clear c0
      refine lv_iload_n hx hb dJ3_checkIndex_8e157_16 rfl (lv_at hl 0 rfl) ?_
      exact W.iret (v := (nI i)) hx hb hr (fun t ht hW => ⟨⟨(nI i), (), rfl, rfl, ht⟩, hS.F ht⟩) hS.2.2 dJ3_checkIndex_8e157_17
    · exact absurd (nI_lt hi (by omega)) c0
set_option maxHeartbeats 4000000 in
set_option maxRecDepth 100000 in
theorem cJ_chk (l : Launch) (dC : Nat → ClassId) (dI : Nat → Nat → Nat) (cT : Nat → ClassId) {Hh : Heap} {i n : Nat} (hi : i < n) (hn : n ≤ 70) : Met l yJ0_checkIndex_df160 (wA yJ0_checkIndex_df160 cJ0_checkIndex_df160 2 none) ({ frames := 1, cells := 0, slots := 0, locals := 22 } : Room) (PJ dC dI cT [.int (nI i), .int (nI n)] Hh (va_A [] Hh.size)) (va_Qv (fun (_ : Unit) => True) (fun _ t => t.heap = Hh) (va_A [] Hh.size)) 0 0 (va_A [] Hh.size) := by
  refine MofWF (cc := cJ0_checkIndex_df160) (maxL := 2) (ret := none) (by decide +kernel) rfl ?_
  intro p e s m args below meth c s₁ B hml hv
  obtain ⟨rfl, hH, hK, hZ⟩ := hv
  subst hH
  have hx := B.exec
  have hb := B.bytes
  have hr := B.returns
  have hta : ∀ w9 ∈ ALLW, w9.before [.int (nI i), .int (nI n)].toArray s = true := fun w9 hw9 => atoms_spec (ws := wA yJ0_checkIndex_df160 cJ0_checkIndex_df160 2 none) B.pre w9 (List.mem_cons_of_mem _ hw9)
  have hown : s.vm.findClass RJ0 = some m.cls := findClass_of_methodNamed B.named
  have hlocks := B.notSynchronized
  have hin : meth.name = "checkIndex" := (name_of_methodNamed B.named B.method).1
  generalize hAe : va_A [] s.heap.size = A at hZ ⊢
  have hA : ∀ q : Nat, s.heap.size ≤ q → A q := fun q h => by rw [← hAe]; exact Or.inr h
  have hS : va_S A s.heap s.heap [] := va_S.rf
  have hl := lv_entry [.int (nI i), .int (nI n)] (n := 2) (Nat.le_of_ble_eq_true rfl)
  rw [lg_entry_eq]
  generalize (lg_sl [.int (nI i), .int (nI n)] ++ List.replicate (2 - (lg_sl [.int (nI i), .int (nI n)]).length) Slot.unset).toArray = ls at hl ⊢
  have hl : lv_has ls 2 [(0, .int (nI i)), (1, .int (nI n))] := hl
  rcases hZ.2.2.2.1 with hq1 | ⟨t9, hq1⟩
  · refine lv_iload_n hx hb dJ0_checkIndex_df160_0 rfl (lv_at hl 0 rfl) ?_
    refine lv_iload_n hx hb dJ0_checkIndex_df160_1 rfl (lv_at hl 1 rfl) ?_
    refine va_gets hx hb hq1 hS hown (hta _ lk_J0_1053) (fun _ h9 => h9) dJ0_checkIndex_df160_2 ?_
    refine crI (va_runS (As := [.int (nI i), .int (nI n), .null]) (rest := []) ⟨hx, hb, hml, hown, hta⟩ (cJ_pchkN l dC dI cT hi hn) (cS hta lm_J0_1059 md_J3_checkIndex_8e157 ⟨Nat.le_of_ble_eq_true rfl, Nat.le_of_ble_eq_true rfl⟩) ⟨fbJ, fun U hU hW => ⟨rfl, hU, va_K.moved hW.alike hK, ZS.call hZ hS hU hW (frA hS hA)⟩⟩ rfl rfl hl.1 rfl (lv_room (Nat.le_of_ble_eq_true rfl)) dJ0_checkIndex_df160_5 ⟨Nat.le_of_ble_eq_true rfl, Nat.le_of_ble_eq_true rfl⟩) hS hA (fun locs hS => ?_)
    refine lv_pop hx hb dJ0_checkIndex_df160_8 rfl ?_
    exact W.vret hx hb hr (fun t ht hW => ⟨⟨(), rfl, trivial, ht⟩, hS.F ht⟩) hS.2.2 dJ0_checkIndex_df160_9
  · refine lv_iload_n hx hb dJ0_checkIndex_df160_0 rfl (lv_at hl 0 rfl) ?_
    refine lv_iload_n hx hb dJ0_checkIndex_df160_1 rfl (lv_at hl 1 rfl) ?_
    refine va_gets hx hb hq1 hS hown (hta _ lk_J0_1053) (fun _ h9 => h9) dJ0_checkIndex_df160_2 ?_
    refine crI (va_runS (As := [.int (nI i), .int (nI n), .ref t9]) (rest := []) ⟨hx, hb, hml, hown, hta⟩ (cJ_pchkR l dC dI cT hi hn) (cS hta lm_J0_1059 md_J3_checkIndex_8e157 ⟨Nat.le_of_ble_eq_true rfl, Nat.le_of_ble_eq_true rfl⟩) ⟨fbJ, fun U hU hW => ⟨rfl, hU, va_K.moved hW.alike hK, ZS.call hZ hS hU hW (frA hS hA)⟩⟩ rfl rfl hl.1 rfl (lv_room (Nat.le_of_ble_eq_true rfl)) dJ0_checkIndex_df160_5 ⟨Nat.le_of_ble_eq_true rfl, Nat.le_of_ble_eq_true rfl⟩) hS hA (fun locs hS => ?_)
    refine lv_pop hx hb dJ0_checkIndex_df160_8 rfl ?_
    exact W.vret hx hb hr (fun t ht hW => ⟨⟨(), rfl, trivial, ht⟩, hS.F ht⟩) hS.2.2 dJ0_checkIndex_df160_9
set_option maxHeartbeats 4000000 in
set_option maxRecDepth 100000 in
theorem cJ_charAt5 (l : Launch) (dC : Nat → ClassId) (dI : Nat → Nat → Nat) (cT : Nat → ClassId) {Hh : Heap} {a_t a_v n cap : Nat} {mL : Int32} {f : Nat → Int32} {i : Nat} (hi : i < n) (hn : n ≤ cap) (hcap : CAP cap) {XW : va_W} (eX : XW = [(a_t, .inr (1, [.ref a_v, .int 0, .int mL, .int (nI n)])), (a_v, .inl (cT 6, cap, .inl f))]) (hP0 : va_P (dC, dI) vwCl XW Hh) : Met l yJ5_charAt_5068e (wA yJ5_charAt_5068e cJ5_charAt_5068e 5 (some .char)) ({ frames := 2, cells := 0, slots := 0, locals := 43 } : Room) (PJ dC dI cT [.ref a_t, .int (nI i)] Hh (va_A [] Hh.size)) (va_Qi (fun x (_ : Unit) => x = ((f (nI i).toNatClampNeg &&& 255).toUInt32 % 65536).toInt32) (fun _ t => t.heap = Hh) (va_A [] Hh.size)) 0 0 (va_A [] Hh.size) := by
  subst eX
  refine MofWF (cc := cJ5_charAt_5068e) (maxL := 5) (ret := (some .char)) (by decide +kernel) rfl ?_
  intro p e s m args below meth c s₁ B hml hv
  obtain ⟨rfl, hH, hK, hZ⟩ := hv
  subst hH
  have hx := B.exec
  have hb := B.bytes
  have hr := B.returns
  have hta : ∀ w9 ∈ ALLW, w9.before [.ref a_t, .int (nI i)].toArray s = true := fun w9 hw9 => atoms_spec (ws := wA yJ5_charAt_5068e cJ5_charAt_5068e 5 (some .char)) B.pre w9 (List.mem_cons_of_mem _ hw9)
  have hown : s.vm.findClass RJ5 = some m.cls := findClass_of_methodNamed B.named
  have hlocks := B.notSynchronized
  have hin : meth.name = "charAt" := (name_of_methodNamed B.named B.method).1
  have hP := hP0
  generalize hAe : va_A [] s.heap.size = A at hZ ⊢
  have hA : ∀ q : Nat, s.heap.size ≤ q → A q := fun q h => by rw [← hAe]; exact Or.inr h
  have hS : va_S A s.heap s.heap [] := va_S.rf
  have hl := lv_entry [.ref a_t, .int (nI i)] (n := 5) (Nat.le_of_ble_eq_true rfl)
  rw [lg_entry_eq]
  generalize (lg_sl [.ref a_t, .int (nI i)] ++ List.replicate (5 - (lg_sl [.ref a_t, .int (nI i)]).length) Slot.unset).toArray = ls at hl ⊢
  have hl : lv_has ls 5 [(0, .ref a_t), (1, .int (nI i))] := hl
  refine lv_aload_n hx hb dJ5_charAt_5068e_0 rfl (lv_at hl 0 rfl) ?_
  refine va_get (D := (dC, dI)) (ci := 1) (v := .int 0) (C := RJ4) (T := TJ4) (N := 4) hx hb hta inJ4w hown hK hP 0 rfl rfl 1 (by decide) (hta _ lk_J5_22) (fun _ h9 => h9) rfl dJ5_charAt_5068e_1 ?_
  refine lv_istore_n (lv' := [(2, .int 0), (0, .ref a_t), (1, .int (nI i))]) hx hb dJ5_charAt_5068e_4 rfl hl (by decide) rfl (fun ls hl => ?_)
  refine lv_aload_n hx hb dJ5_charAt_5068e_5 rfl (lv_at hl 1 rfl) ?_
  refine va_get (D := (dC, dI)) (ci := 1) (v := .ref a_v) (C := RJ4) (T := TJ4) (N := 4) hx hb hta inJ4w hown hK hP 0 rfl rfl 0 (by decide) (hta _ lk_J5_15) (fun _ h9 => h9) rfl dJ5_charAt_5068e_6 ?_
  refine lv_astore_n (lv' := [(3, .ref a_v), (2, .int 0), (0, .ref a_t), (1, .int (nI i))]) hx hb dJ5_charAt_5068e_9 rfl hl (by decide) rfl (fun ls hl => ?_)
  refine lv_aload_n hx hb dJ5_charAt_5068e_10 rfl (lv_at hl 2 rfl) ?_
  refine va_get (D := (dC, dI)) (ci := 1) (v := .int (nI n)) (C := RJ4) (T := TJ4) (N := 4) hx hb hta inJ4w hown hK hP 0 rfl rfl 3 (by decide) (hta _ lk_J5_79) (fun _ h9 => h9) rfl dJ5_charAt_5068e_11 ?_
  refine lv_aload_n hx hb dJ5_charAt_5068e_14 rfl (lv_at hl 0 rfl) ?_
  refine va_alen (v := (nI cap)) hx hb hK hP 1 6 rfl rfl rfl dJ5_charAt_5068e_15 ?_
  refine lv_iload_n hx hb dJ5_charAt_5068e_16 rfl (lv_at hl 1 rfl) ?_
  refine lv_ishr hx hb dJ5_charAt_5068e_17 ?_
  refine lv_topi (fun v1 e_v1 => ?_)
  have e9 : v1 = (nI cap) := e_v1.trans (sb_shr0 _)
  subst e9
  refine va_mmin hx hb (hml.trans hl.1.symm) hown (hta _ lm_J5_138) (hta _ mth_minint_s) (hta _ mth_i) (hta _ mth_minint_c) (Nat.le_of_ble_eq_true rfl) (Nat.le_of_ble_eq_true rfl) (Nat.le_of_ble_eq_true rfl) (Nat.le_of_ble_eq_true rfl) dJ5_charAt_5068e_18 ?_
  refine lv_topi (fun v2 e_v2 => ?_)
  have e9 : v2 = (nI n) := e_v2.trans (if_neg (nI_nlt hn (by have := hcap.le; omega)))
  subst e9
  refine lv_istore (lv' := [(4, .int (nI n)), (3, .ref a_v), (2, .int 0), (0, .ref a_t), (1, .int (nI i))]) hx hb dJ5_charAt_5068e_21 hl (by decide) rfl (fun ls hl => ?_)
  refine lv_iload_n hx hb dJ5_charAt_5068e_23 rfl (lv_at hl 4 rfl) ?_
  refine lv_iload hx hb dJ5_charAt_5068e_24 (lv_at hl 0 rfl) ?_
  refine crV (va_runS (As := [.int (nI i), .int (nI n)]) (rest := []) ⟨hx, hb, hml, hown, hta⟩ (cJ_chk l dC dI cT hi (by have := hcap.le; omega)) (cS hta lm_J5_144 md_J0_checkIndex_df160 ⟨Nat.le_of_ble_eq_true rfl, Nat.le_of_ble_eq_true rfl⟩) ⟨fbJ, fun U hU hW => ⟨rfl, hU, va_K.moved hW.alike hK, ZS.call hZ hS hU hW (frA hS hA)⟩⟩ rfl rfl hl.1 rfl (lv_room (Nat.le_of_ble_eq_true rfl)) dJ5_charAt_5068e_26 ⟨Nat.le_of_ble_eq_true rfl, Nat.le_of_ble_eq_true rfl⟩) hS hA (fun locs hS => ?_)
  refine lv_iload_n hx hb dJ5_charAt_5068e_29 rfl (lv_at hl 2 rfl) ?_
  refine lv_if_ne (tgt := 42) hx hb dJ5_charAt_5068e_30 (by decide) (fun c0 => ?_) (fun c0 => ?_)
  · exact absurd (rfl) c0
  · clear c0
    refine lv_aload_n hx hb dJ5_charAt_5068e_33 rfl (lv_at hl 1 rfl) ?_
    refine lv_iload_n hx hb dJ5_charAt_5068e_34 rfl (lv_at hl 4 rfl) ?_
    refine va_bald hx hb hK hP 1 6 rfl rfl (vp_in_nI (by omega) (by have := hcap.le; omega)) dJ5_charAt_5068e_35 ?_
    refine lv_sipush (v := 255) hx hb dJ5_charAt_5068e_36 (by decide) ?_
    refine lv_iand hx hb dJ5_charAt_5068e_39 ?_
    refine lv_i2c hx hb dJ5_charAt_5068e_40 rfl ?_
    exact W.zret (ty := .char) (v := ((f (nI i).toNatClampNeg &&& 255).toUInt32 % 65536).toInt32) hx hb hr (pk_nc _) (fun t ht hW => ⟨⟨((f (nI i).toNatClampNeg &&& 255).toUInt32 % 65536).toInt32, (), rfl, rfl, ht⟩, hS.F ht⟩) hS.2.2 dJ5_charAt_5068e_41
set_option maxHeartbeats 4000000 in
set_option maxRecDepth 100000 in
theorem cJ_charAt (l : Launch) (dC : Nat → ClassId) (dI : Nat → Nat → Nat) (cT : Nat → ClassId) {Hh : Heap} {a_t a_v n cap : Nat} {mL : Int32} {f : Nat → Int32} {i : Nat} (hi : i < n) (hn : n ≤ cap) (hcap : CAP cap) {XW : va_W} (eX : XW = [(a_t, .inr (1, [.ref a_v, .int 0, .int mL, .int (nI n)])), (a_v, .inl (cT 6, cap, .inl f))]) (hP0 : va_P (dC, dI) vwCl XW Hh) : Met l yJ4_charAt_5068e (wA yJ4_charAt_5068e cJ4_charAt_5068e 2 (some .char)) ({ frames := 3, cells := 0, slots := 0, locals := 67 } : Room) (PJ dC dI cT [.ref a_t, .int (nI i)] Hh (va_A [] Hh.size)) (va_Qi (fun x (_ : Unit) => x = ((f (nI i).toNatClampNeg &&& 255).toUInt32 % 65536).toInt32) (fun _ t => t.heap = Hh) (va_A [] Hh.size)) 0 0 (va_A [] Hh.size) := by
  subst eX
  refine MofWF (cc := cJ4_charAt_5068e) (maxL := 2) (ret := (some .char)) (by decide +kernel) rfl ?_
  intro p e s m args below meth c s₁ B hml hv
  obtain ⟨rfl, hH, hK, hZ⟩ := hv
  subst hH
  have hx := B.exec
  have hb := B.bytes
  have hr := B.returns
  have hta : ∀ w9 ∈ ALLW, w9.before [.ref a_t, .int (nI i)].toArray s = true := fun w9 hw9 => atoms_spec (ws := wA yJ4_charAt_5068e cJ4_charAt_5068e 2 (some .char)) B.pre w9 (List.mem_cons_of_mem _ hw9)
  have hown : s.vm.findClass RJ4 = some m.cls := findClass_of_methodNamed B.named
  have hlocks := B.notSynchronized
  have hin : meth.name = "charAt" := (name_of_methodNamed B.named B.method).1
  have hP := hP0
  generalize hAe : va_A [] s.heap.size = A at hZ ⊢
  have hA : ∀ q : Nat, s.heap.size ≤ q → A q := fun q h => by rw [← hAe]; exact Or.inr h
  have hS : va_S A s.heap s.heap [] := va_S.rf
  have hl := lv_entry [.ref a_t, .int (nI i)] (n := 2) (Nat.le_of_ble_eq_true rfl)
  rw [lg_entry_eq]
  generalize (lg_sl [.ref a_t, .int (nI i)] ++ List.replicate (2 - (lg_sl [.ref a_t, .int (nI i)]).length) Slot.unset).toArray = ls at hl ⊢
  have hl : lv_has ls 2 [(0, .ref a_t), (1, .int (nI i))] := hl
  refine lv_aload_n hx hb dJ4_charAt_5068e_0 rfl (lv_at hl 0 rfl) ?_
  refine lv_iload_n hx hb dJ4_charAt_5068e_1 rfl (lv_at hl 1 rfl) ?_
  refine crI (va_runSU (hK.1 1 _ rfl).2 (As := [.int (nI i)]) (rest := []) ⟨hx, hb, hml, hown, hta⟩ (cJ_charAt5 l dC dI cT hi hn hcap rfl (hP.sub (ws' := [(a_t, .inr (1, [.ref a_v, .int 0, .int mL, .int (nI n)])), (a_v, .inl (cT 6, cap, .inl f))]) [0, 1] rfl)) (cSU hta lm_J4_329 mu_J5_charAt_5068e ⟨Nat.le_of_ble_eq_true rfl, Nat.le_of_ble_eq_true rfl⟩) ⟨fbJ, va_recv hK hP (ci := 1) (q0 := 0) rfl rfl, fun U hU hW => ⟨rfl, hU, va_K.moved hW.alike hK, ZS.call hZ hS hU hW (frA hS hA)⟩⟩ rfl rfl hl.1 rfl (lv_room (Nat.le_of_ble_eq_true rfl)) dJ4_charAt_5068e_2 ⟨Nat.le_of_ble_eq_true rfl, Nat.le_of_ble_eq_true rfl⟩) hS hA (fun locs hS => ?_)
  exact W.zret (ty := .char) (v := ((f (nI i).toNatClampNeg &&& 255).toUInt32 % 65536).toInt32) hx hb hr (pk_nc _) (fun t ht hW => ⟨⟨((f (nI i).toNatClampNeg &&& 255).toUInt32 % 65536).toInt32, (), rfl, rfl, ht⟩, hS.F ht⟩) hS.2.2 dJ4_charAt_5068e_5
