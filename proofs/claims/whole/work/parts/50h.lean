set_option maxHeartbeats 4000000 in
set_option maxRecDepth 100000 in
theorem c_X12_held (l : Launch) (dC : Nat → ClassId) (dI : Nat → Nat → Nat) (cT : Nat → ClassId) {Hh : Heap} {p1 : UInt32} {o : UInt32} (h : g_X12_held p1 = some o) : Met l yX12_held (wA yX12_held cX12_held 1 (some .float)) ({ frames := 0, cells := 0, slots := 0, locals := 0 } : Room) (PK dC dI cT [.float p1] Hh) (va_Qf (fun x (_ : Unit) => x = o) (fun _ t => t.heap = Hh) (va_A [] Hh.size)) 0 0 (va_A [] Hh.size) := by
  refine Met.ofW (cc := cX12_held) (maxL := 1) (ret := (some .float)) (by decide) rfl ?_
  intro p e s m args below meth c s₁ B hml hv
  obtain ⟨rfl, hH, hK⟩ := hv
  subst hH
  have hx := B.exec
  have hb := B.bytes
  have hr := B.returns
  have hta : ∀ w ∈ ALLW, w.before [.float p1].toArray s = true := fun w hw => atoms_spec (ws := wA yX12_held cX12_held 1 (some .float)) B.pre w (List.mem_cons_of_mem _ hw)
  have hown : s.vm.findClass RX12 = some m.cls := findClass_of_methodNamed B.named
  have hlocks := B.notSynchronized
  generalize hAe : va_A [] s.heap.size = A
  have hA : ∀ q : Nat, s.heap.size ≤ q → A q := fun q h => by rw [← hAe]; exact Or.inr h
  have hS : va_S A s.heap s.heap [] := va_S.rf
  have hl := lv_entry [.float p1] (n := 1) (Nat.le_of_ble_eq_true rfl)
  rw [lg_entry_eq]
  generalize (lg_sl [.float p1] ++ List.replicate (1 - (lg_sl [.float p1]).length) Slot.unset).toArray = ls at hl ⊢
  have hl : lv_has ls 1 [(0, .float p1)] := hl
  unfold g_X12_held at h
  refine lv_fload_n hx hb dX12_held_0 rfl (lv_at hl 0 rfl) ?_
  refine lv_ldcf (v := 3323739136) hx hb hown (hta _ kc_X12_252) dX12_held_1 ?_
  refine lv_fcmp hx hb dX12_held_3 ?_
  refine lv_if_ge (tgt := 12) hx hb dX12_held_4 (by decide) (fun c0 => ?_) (fun c0 => ?_)
  · have h := (if_pos c0).symm.trans h
    refine lv_fload_n hx hb dX12_held_12 rfl (lv_at hl 0 rfl) ?_
    refine lv_ldcf (v := 1176255488) hx hb hown (hta _ kc_X12_253) dX12_held_13 ?_
    refine lv_fcmp hx hb dX12_held_15 ?_
    refine lv_if_le (tgt := 24) hx hb dX12_held_16 (by decide) (fun c0 => ?_) (fun c0 => ?_)
    · have h := (if_pos c0).symm.trans h
      refine lv_fload_n hx hb dX12_held_24 rfl (lv_at hl 0 rfl) ?_
      have ho := Option.some.inj h
      exact W.fret (v := p1) hx hb hr (fun t ht hW => ⟨⟨p1, (), rfl, by rw [← ho], ht⟩, hS.F ht⟩) hS.2.2 dX12_held_25
    · have h := (if_neg c0).symm.trans h
      refine lv_ldcf (v := 1176255488) hx hb hown (hta _ kc_X12_253) dX12_held_19 ?_
      refine lv_goto (tgt := 25) hx hb dX12_held_21 (by decide) ?_
      refine lv_topf (fun v1 e_v1 => ?_)
      have h := gl_use e_v1 h
      have ho := Option.some.inj h
      exact W.fret (v := v1) hx hb hr (fun t ht hW => ⟨⟨v1, (), rfl, by rw [← ho], ht⟩, hS.F ht⟩) hS.2.2 dX12_held_25
  · have h := (if_neg c0).symm.trans h
    refine lv_ldcf (v := 3323739136) hx hb hown (hta _ kc_X12_252) dX12_held_7 ?_
    refine lv_goto (tgt := 25) hx hb dX12_held_9 (by decide) ?_
    refine lv_topf (fun v2 e_v2 => ?_)
    have h := gl_use e_v2 h
    have ho := Option.some.inj h
    exact W.fret (v := v2) hx hb hr (fun t ht hW => ⟨⟨v2, (), rfl, by rw [← ho], ht⟩, hS.F ht⟩) hS.2.2 dX12_held_25
set_option maxHeartbeats 4000000 in
set_option maxRecDepth 100000 in
theorem c_X12_reckons (l : Launch) (dC : Nat → ClassId) (dI : Nat → Nat → Nat) (cT : Nat → ClassId) {Hh : Heap} {a_t : Nat} {a_t_isBrothOn : Nat} {a_t_dramsOn : Nat} {a_t_brothOn : Nat} {a_t_s : Nat} {a_t_f : Nat} {a_t_before : Nat} {a_t_beforeF : Nat} {a_t_aside : Nat} {a_t_asideF : Nat} {a_t_saved : Nat} {a_t_savedF : Nat} {a_t_past : Nat} {a_t_pastF : Nat} {a_t_refused : Nat} {a_t_text : Nat} {a_t_signs : Nat} {a_t_numbers : Nat} {a_t_row : Nat} {a_t_lowOn : Nat} {a_t_highOn : Nat} {a_t_lowStored : Nat} {a_t_highStored : Nat} {a_t_isBrothStored : Nat} {a_t_step : Nat} {a_t_stepF : Nat} {a_t_line : Nat} {t_cause : Int32} {t_causeDetail : Int32} {t_isBrothOn : Nat → Int32} {t_dramsOn : Nat → Int64} {t_brothOn : Nat → UInt32} {p1 : Int32} {p2 : Int32} {t_isSaved : Int32} {t_pastMany : Int32} {t_boiled : Int32} {t_thrown : Int32} {t_length : Int32} {t_error : Int32} {t_tokens : Int32} {t_spoons : Int32} {t_mostSpoons : Int32} {t_storeMany : Int32} {t_lineMany : Int32} {XW : va_W} (eX : XW = [(a_t, .inr (15, [.ref a_t_s, .ref a_t_f, .ref a_t_before, .ref a_t_beforeF, .ref a_t_aside, .ref a_t_asideF, .ref a_t_saved, .ref a_t_savedF, .int t_isSaved, .ref a_t_past, .ref a_t_pastF, .int t_pastMany, .int t_boiled, .int t_thrown, .ref a_t_refused, .ref a_t_text, .int t_length, .int t_error, .ref a_t_signs, .ref a_t_numbers, .int t_tokens, .int t_spoons, .int t_mostSpoons, .ref a_t_row, .ref a_t_isBrothOn, .ref a_t_dramsOn, .ref a_t_brothOn, .int t_cause, .int t_causeDetail, .ref a_t_lowOn, .ref a_t_highOn, .ref a_t_lowStored, .ref a_t_highStored, .ref a_t_isBrothStored, .int t_storeMany, .ref a_t_step, .ref a_t_stepF, .ref a_t_line, .int t_lineMany])), (a_t_dramsOn, .inl (cT 3, 6, .inr (.inl t_dramsOn))), (a_t_brothOn, .inl (cT 4, 6, .inr (.inr (.inl t_brothOn))))]) {o : Int32 × Int32 × Int32 × (Nat → Int64) × (Nat → UInt32)} (h : g_X12_reckons t_cause t_causeDetail t_isBrothOn t_dramsOn t_brothOn p1 p2 = some o) (hP0 : va_P (dC, dI) vwCl XW Hh) (hR0 : va_P (dC, dI) vwCl [(a_t_isBrothOn, .inl (cT 1, 6, .inl t_isBrothOn))] Hh) (hD0 : va_D (fun _ => True) XW) (hN0 : ∀ (k : Nat) (q : Nat × va_E), ([(a_t_isBrothOn, .inl (cT 1, 6, .inl t_isBrothOn))] : va_W)[k]? = some q → ¬ va_A XW Hh.size q.1) : Met l yX12_reckons (wA yX12_reckons cX12_reckons 10 (some .boolean)) ({ frames := 1, cells := 0, slots := 0, locals := 25 } : Room) (PK dC dI cT [.ref a_t, .int p1, .int p2] Hh) (va_Qi (fun x (_ : Unit) => x = o.1) (fun _ t => va_P (dC, dI) vwCl [(a_t, .inr (15, [.ref a_t_s, .ref a_t_f, .ref a_t_before, .ref a_t_beforeF, .ref a_t_aside, .ref a_t_asideF, .ref a_t_saved, .ref a_t_savedF, .int t_isSaved, .ref a_t_past, .ref a_t_pastF, .int t_pastMany, .int t_boiled, .int t_thrown, .ref a_t_refused, .ref a_t_text, .int t_length, .int t_error, .ref a_t_signs, .ref a_t_numbers, .int t_tokens, .int t_spoons, .int t_mostSpoons, .ref a_t_row, .ref a_t_isBrothOn, .ref a_t_dramsOn, .ref a_t_brothOn, .int o.2.1, .int o.2.2.1, .ref a_t_lowOn, .ref a_t_highOn, .ref a_t_lowStored, .ref a_t_highStored, .ref a_t_isBrothStored, .int t_storeMany, .ref a_t_step, .ref a_t_stepF, .ref a_t_line, .int t_lineMany])), (a_t_dramsOn, .inl (cT 3, 6, .inr (.inl o.2.2.2.1))), (a_t_brothOn, .inl (cT 4, 6, .inr (.inr (.inl o.2.2.2.2))))] t.heap) (va_A XW Hh.size)) 0 0 (va_A XW Hh.size) := by
  subst eX
  refine Met.ofW (cc := cX12_reckons) (maxL := 10) (ret := (some .boolean)) (by decide) rfl ?_
  intro p e s m args below meth c s₁ B hml hv
  obtain ⟨rfl, hH, hK⟩ := hv
  subst hH
  have hx := B.exec
  have hb := B.bytes
  have hr := B.returns
  have hta : ∀ w ∈ ALLW, w.before [.ref a_t, .int p1, .int p2].toArray s = true := fun w hw => atoms_spec (ws := wA yX12_reckons cX12_reckons 10 (some .boolean)) B.pre w (List.mem_cons_of_mem _ hw)
  have hown : s.vm.findClass RX12 = some m.cls := findClass_of_methodNamed B.named
  have hlocks := B.notSynchronized
  have hD := hD0.self (sz := s.heap.size)
  have hNA := hN0
  generalize hAe : va_A [(a_t, .inr (15, [.ref a_t_s, .ref a_t_f, .ref a_t_before, .ref a_t_beforeF, .ref a_t_aside, .ref a_t_asideF, .ref a_t_saved, .ref a_t_savedF, .int t_isSaved, .ref a_t_past, .ref a_t_pastF, .int t_pastMany, .int t_boiled, .int t_thrown, .ref a_t_refused, .ref a_t_text, .int t_length, .int t_error, .ref a_t_signs, .ref a_t_numbers, .int t_tokens, .int t_spoons, .int t_mostSpoons, .ref a_t_row, .ref a_t_isBrothOn, .ref a_t_dramsOn, .ref a_t_brothOn, .int t_cause, .int t_causeDetail, .ref a_t_lowOn, .ref a_t_highOn, .ref a_t_lowStored, .ref a_t_highStored, .ref a_t_isBrothStored, .int t_storeMany, .ref a_t_step, .ref a_t_stepF, .ref a_t_line, .int t_lineMany])), (a_t_dramsOn, .inl (cT 3, 6, .inr (.inl t_dramsOn))), (a_t_brothOn, .inl (cT 4, 6, .inr (.inr (.inl t_brothOn))))] s.heap.size = A at hD hNA ⊢
  have hP := hP0
  have hA : ∀ q : Nat, s.heap.size ≤ q → A q := fun q h => by rw [← hAe]; exact Or.inr h
  have hS : va_S A s.heap s.heap [] := va_S.rf
  have hl := lv_entry [.ref a_t, .int p1, .int p2] (n := 10) (Nat.le_of_ble_eq_true rfl)
  rw [lg_entry_eq]
  generalize (lg_sl [.ref a_t, .int p1, .int p2] ++ List.replicate (10 - (lg_sl [.ref a_t, .int p1, .int p2]).length) Slot.unset).toArray = ls at hl ⊢
  have hl : lv_has ls 10 [(0, .ref a_t), (1, .int p1), (2, .int p2)] := hl
  obtain ⟨Q, hQ⟩ : ∃ Q, Q = MQ below (va_Qi (fun x (_ : Unit) => x = o.1) (fun _ t => va_P (dC, dI) vwCl [(a_t, .inr (15, [.ref a_t_s, .ref a_t_f, .ref a_t_before, .ref a_t_beforeF, .ref a_t_aside, .ref a_t_asideF, .ref a_t_saved, .ref a_t_savedF, .int t_isSaved, .ref a_t_past, .ref a_t_pastF, .int t_pastMany, .int t_boiled, .int t_thrown, .ref a_t_refused, .ref a_t_text, .int t_length, .int t_error, .ref a_t_signs, .ref a_t_numbers, .int t_tokens, .int t_spoons, .int t_mostSpoons, .ref a_t_row, .ref a_t_isBrothOn, .ref a_t_dramsOn, .ref a_t_brothOn, .int o.2.1, .int o.2.2.1, .ref a_t_lowOn, .ref a_t_highOn, .ref a_t_lowStored, .ref a_t_highStored, .ref a_t_isBrothStored, .int t_storeMany, .ref a_t_step, .ref a_t_stepF, .ref a_t_line, .int t_lineMany])), (a_t_dramsOn, .inl (cT 3, 6, .inr (.inl o.2.2.2.1))), (a_t_brothOn, .inl (cT 4, 6, .inr (.inr (.inl o.2.2.2.2))))] t.heap) A) [.ref a_t, .int p1, .int p2].toArray s 0 0 A := ⟨_, rfl⟩
  rw [← hQ]
  have wB_204 : ∀ (t_brothOn_204 : Nat → UInt32) (t_dramsOn_204 : Nat → Int64) (s2_204 : Int32) (H : Heap) (locs : List Loc) (ls : Array Slot), g_X12_reckons_b204 t_cause t_causeDetail t_brothOn_204 t_dramsOn_204 s2_204 = some o → va_P (dC, dI) vwCl [(a_t, .inr (15, [.ref a_t_s, .ref a_t_f, .ref a_t_before, .ref a_t_beforeF, .ref a_t_aside, .ref a_t_asideF, .ref a_t_saved, .ref a_t_savedF, .int t_isSaved, .ref a_t_past, .ref a_t_pastF, .int t_pastMany, .int t_boiled, .int t_thrown, .ref a_t_refused, .ref a_t_text, .int t_length, .int t_error, .ref a_t_signs, .ref a_t_numbers, .int t_tokens, .int t_spoons, .int t_mostSpoons, .ref a_t_row, .ref a_t_isBrothOn, .ref a_t_dramsOn, .ref a_t_brothOn, .int t_cause, .int t_causeDetail, .ref a_t_lowOn, .ref a_t_highOn, .ref a_t_lowStored, .ref a_t_highStored, .ref a_t_isBrothStored, .int t_storeMany, .ref a_t_step, .ref a_t_stepF, .ref a_t_line, .int t_lineMany])), (a_t_dramsOn, .inl (cT 3, 6, .inr (.inl t_dramsOn_204))), (a_t_brothOn, .inl (cT 4, 6, .inr (.inr (.inl t_brothOn_204))))] H → va_D A [(a_t, .inr (15, [.ref a_t_s, .ref a_t_f, .ref a_t_before, .ref a_t_beforeF, .ref a_t_aside, .ref a_t_asideF, .ref a_t_saved, .ref a_t_savedF, .int t_isSaved, .ref a_t_past, .ref a_t_pastF, .int t_pastMany, .int t_boiled, .int t_thrown, .ref a_t_refused, .ref a_t_text, .int t_length, .int t_error, .ref a_t_signs, .ref a_t_numbers, .int t_tokens, .int t_spoons, .int t_mostSpoons, .ref a_t_row, .ref a_t_isBrothOn, .ref a_t_dramsOn, .ref a_t_brothOn, .int t_cause, .int t_causeDetail, .ref a_t_lowOn, .ref a_t_highOn, .ref a_t_lowStored, .ref a_t_highStored, .ref a_t_isBrothStored, .int t_storeMany, .ref a_t_step, .ref a_t_stepF, .ref a_t_line, .int t_lineMany])), (a_t_dramsOn, .inl (cT 3, 6, .inr (.inl t_dramsOn_204))), (a_t_brothOn, .inl (cT 4, 6, .inr (.inr (.inl t_brothOn_204))))] → va_S A s.heap H locs → lv_has ls 10 [] → W p l e ({ frames := 1, cells := 0, slots := 0, locals := 25 } : Room) s m [.ref a_t, .int p1, .int p2].toArray below meth c H locs 0 0 Q (F0 m 204 ls [.int s2_204, .int 8, .ref a_t]) := by
    intro t_brothOn_204 t_dramsOn_204 s2_204 H locs ls h hP hD hS hl
    unfold g_X12_reckons_b204 at h
    obtain ⟨r6, hq, h⟩ := gb_some h
    refine cxI (X2 := [(a_t, .inr (15, [.ref a_t_s, .ref a_t_f, .ref a_t_before, .ref a_t_beforeF, .ref a_t_aside, .ref a_t_asideF, .ref a_t_saved, .ref a_t_savedF, .int t_isSaved, .ref a_t_past, .ref a_t_pastF, .int t_pastMany, .int t_boiled, .int t_thrown, .ref a_t_refused, .ref a_t_text, .int t_length, .int t_error, .ref a_t_signs, .ref a_t_numbers, .int t_tokens, .int t_spoons, .int t_mostSpoons, .ref a_t_row, .ref a_t_isBrothOn, .ref a_t_dramsOn, .ref a_t_brothOn, .int r6.2.1, .int r6.2.2, .ref a_t_lowOn, .ref a_t_highOn, .ref a_t_lowStored, .ref a_t_highStored, .ref a_t_isBrothStored, .int t_storeMany, .ref a_t_step, .ref a_t_stepF, .ref a_t_line, .int t_lineMany])), (a_t_dramsOn, .inl (cT 3, 6, .inr (.inl t_dramsOn_204))), (a_t_brothOn, .inl (cT 4, 6, .inr (.inr (.inl t_brothOn_204))))]) (va_runV (As := [.int 8, .int s2_204]) (rest := []) ⟨hx, hb, hml, hown, hta⟩ (c_X12_boilsBy l dC dI cT rfl hq (hP.sub (ws' := [(a_t, .inr (15, [.ref a_t_s, .ref a_t_f, .ref a_t_before, .ref a_t_beforeF, .ref a_t_aside, .ref a_t_asideF, .ref a_t_saved, .ref a_t_savedF, .int t_isSaved, .ref a_t_past, .ref a_t_pastF, .int t_pastMany, .int t_boiled, .int t_thrown, .ref a_t_refused, .ref a_t_text, .int t_length, .int t_error, .ref a_t_signs, .ref a_t_numbers, .int t_tokens, .int t_spoons, .int t_mostSpoons, .ref a_t_row, .ref a_t_isBrothOn, .ref a_t_dramsOn, .ref a_t_brothOn, .int t_cause, .int t_causeDetail, .ref a_t_lowOn, .ref a_t_highOn, .ref a_t_lowStored, .ref a_t_highStored, .ref a_t_isBrothStored, .int t_storeMany, .ref a_t_step, .ref a_t_stepF, .ref a_t_line, .int t_lineMany]))]) [0] rfl) (ds hD [0] (by decide) rfl)) (cV hta lm_X12_241 md_X12_boilsBy ⟨(Nat.le_of_ble_eq_true rfl), (Nat.le_of_ble_eq_true rfl)⟩) ⟨fbK, va_recv hK hP (ci := 15) (q0 := 0) rfl rfl, fun U hU hW => ⟨rfl, hU, va_K.moved hW.alike hK⟩⟩ rfl rfl hl.1 rfl (lv_room (Nat.le_of_ble_eq_true rfl)) dX12_reckons_204 ⟨(Nat.le_of_ble_eq_true rfl), (Nat.le_of_ble_eq_true rfl)⟩) hS hA hP hD [0] rfl [.inl 0, .inr 1, .inr 2] rfl rfl rfl (fun H locs hP hD hS => ?_)
    refine lv_if_eq (tgt := 214) hx hb dX12_reckons_207 (by decide) (fun c0 => ?_) (fun c0 => ?_)
    · have h := (if_pos c0).symm.trans h
      refine lv_iconst (v := 0) hx hb dX12_reckons_214 (by decide) ?_
      have ho := Option.some.inj h
      rw [hQ]
      exact W.zret (ty := .boolean) (v := 0) hx hb hr rfl (fun t ht hW => ⟨⟨0, (), rfl, by rw [← ho], by show va_P (dC, dI) vwCl _ t.heap; rw [ht, ← ho]; exact hP⟩, hS.F ht⟩) hS.2.2 dX12_reckons_215
    · have h := (if_neg c0).symm.trans h
      refine lv_iconst (v := 1) hx hb dX12_reckons_210 (by decide) ?_
      refine lv_goto (tgt := 215) hx hb dX12_reckons_211 (by decide) ?_
      have ho := Option.some.inj h
      rw [hQ]
      exact W.zret (ty := .boolean) (v := 1) hx hb hr rfl (fun t ht hW => ⟨⟨1, (), rfl, by rw [← ho], by show va_P (dC, dI) vwCl _ t.heap; rw [ht, ← ho]; exact hP⟩, hS.F ht⟩) hS.2.2 dX12_reckons_215
  have wB_176 : ∀ (t_brothOn_176 : Nat → UInt32) (t_dramsOn_176 : Nat → Int64) (s0_176 : Int32) (H : Heap) (locs : List Loc) (ls : Array Slot), g_X12_reckons_b176 t_cause t_causeDetail p2 t_brothOn_176 t_dramsOn_176 s0_176 = some o → va_P (dC, dI) vwCl [(a_t, .inr (15, [.ref a_t_s, .ref a_t_f, .ref a_t_before, .ref a_t_beforeF, .ref a_t_aside, .ref a_t_asideF, .ref a_t_saved, .ref a_t_savedF, .int t_isSaved, .ref a_t_past, .ref a_t_pastF, .int t_pastMany, .int t_boiled, .int t_thrown, .ref a_t_refused, .ref a_t_text, .int t_length, .int t_error, .ref a_t_signs, .ref a_t_numbers, .int t_tokens, .int t_spoons, .int t_mostSpoons, .ref a_t_row, .ref a_t_isBrothOn, .ref a_t_dramsOn, .ref a_t_brothOn, .int t_cause, .int t_causeDetail, .ref a_t_lowOn, .ref a_t_highOn, .ref a_t_lowStored, .ref a_t_highStored, .ref a_t_isBrothStored, .int t_storeMany, .ref a_t_step, .ref a_t_stepF, .ref a_t_line, .int t_lineMany])), (a_t_dramsOn, .inl (cT 3, 6, .inr (.inl t_dramsOn_176))), (a_t_brothOn, .inl (cT 4, 6, .inr (.inr (.inl t_brothOn_176))))] H → va_D A [(a_t, .inr (15, [.ref a_t_s, .ref a_t_f, .ref a_t_before, .ref a_t_beforeF, .ref a_t_aside, .ref a_t_asideF, .ref a_t_saved, .ref a_t_savedF, .int t_isSaved, .ref a_t_past, .ref a_t_pastF, .int t_pastMany, .int t_boiled, .int t_thrown, .ref a_t_refused, .ref a_t_text, .int t_length, .int t_error, .ref a_t_signs, .ref a_t_numbers, .int t_tokens, .int t_spoons, .int t_mostSpoons, .ref a_t_row, .ref a_t_isBrothOn, .ref a_t_dramsOn, .ref a_t_brothOn, .int t_cause, .int t_causeDetail, .ref a_t_lowOn, .ref a_t_highOn, .ref a_t_lowStored, .ref a_t_highStored, .ref a_t_isBrothStored, .int t_storeMany, .ref a_t_step, .ref a_t_stepF, .ref a_t_line, .int t_lineMany])), (a_t_dramsOn, .inl (cT 3, 6, .inr (.inl t_dramsOn_176))), (a_t_brothOn, .inl (cT 4, 6, .inr (.inr (.inl t_brothOn_176))))] → va_S A s.heap H locs → lv_has ls 10 [(0, .ref a_t), (2, .int p2)] → W p l e ({ frames := 1, cells := 0, slots := 0, locals := 25 } : Room) s m [.ref a_t, .int p1, .int p2].toArray below meth c H locs 0 0 Q (F0 m 176 ls [.int s0_176]) := by
    intro t_brothOn_176 t_dramsOn_176 s0_176 H locs ls h hP hD hS hl
    unfold g_X12_reckons_b176 at h
    refine lv_istore (lv' := [(9, .int s0_176), (0, .ref a_t), (2, .int p2)]) hx hb dX12_reckons_176 hl (by decide) rfl (fun ls hl => ?_)
    refine lv_iload hx hb dX12_reckons_178 (lv_at hl 0 rfl) ?_
    refine lv_if_ne (tgt := 214) hx hb dX12_reckons_180 (by decide) (fun c0 => ?_) (fun c0 => ?_)
    · have h := (if_neg c0).symm.trans h
      refine lv_iconst (v := 0) hx hb dX12_reckons_214 (by decide) ?_
      have ho := Option.some.inj h
      rw [hQ]
      exact W.zret (ty := .boolean) (v := 0) hx hb hr rfl (fun t ht hW => ⟨⟨0, (), rfl, by rw [← ho], by show va_P (dC, dI) vwCl _ t.heap; rw [ht, ← ho]; exact hP⟩, hS.F ht⟩) hS.2.2 dX12_reckons_215
    · have h := (if_pos c0).symm.trans h
      refine lv_aload_n hx hb dX12_reckons_183 rfl (lv_at hl 1 rfl) ?_
      refine lv_bipush (v := 8) hx hb dX12_reckons_184 (by decide) ?_
      refine lv_aload_n hx hb dX12_reckons_186 rfl (lv_at hl 1 rfl) ?_
      refine va_get (D := (dC, dI)) (ci := 15) (v := .ref a_t_dramsOn) (C := RX12) (T := TX12) (N := 39) hx hb hta inX12w hown hK hP 0 rfl rfl 25 (by decide) (hta _ lk_X12_65) (fun _ h9 => h9) rfl dX12_reckons_187 ?_
      refine lv_iload_n hx hb dX12_reckons_190 rfl (lv_at hl 2 rfl) ?_
      refine lv_iconst (v := 1) hx hb dX12_reckons_191 (by decide) ?_
      refine lv_isub hx hb dX12_reckons_192 ?_
      obtain ⟨hc, h⟩ := gc_some h
      refine va_lald hx hb hK hP 1 3 rfl rfl (inb_in hc) dX12_reckons_193 ?_
      refine lv_lconst (v := 0) hx hb dX12_reckons_194 (by decide) ?_
      refine W.lcmp hx hb dX12_reckons_195 ?_
      refine lv_if_ge (tgt := 203) hx hb dX12_reckons_196 (by decide) (fun c0 => ?_) (fun c0 => ?_)
      · have h := (if_pos c0).symm.trans h
        refine lv_iconst (v := 1) hx hb dX12_reckons_203 (by decide) ?_
        exact wB_204 t_brothOn_176 t_dramsOn_176 1 _ _ _ h hP hD hS (lv_sub hl [] rfl)
      · have h := (if_neg c0).symm.trans h
        refine lv_iconst (v := -1) hx hb dX12_reckons_199 (by decide) ?_
        refine lv_goto (tgt := 204) hx hb dX12_reckons_200 (by decide) ?_
        exact wB_204 t_brothOn_176 t_dramsOn_176 (-1) _ _ _ h hP hD hS (lv_sub hl [] rfl)
  have wB_171 : ∀ (t_brothOn_171 : Nat → UInt32) (t_dramsOn_171 : Nat → Int64) (H : Heap) (locs : List Loc) (ls : Array Slot), g_X12_reckons_b171 t_cause t_causeDetail p2 t_brothOn_171 t_dramsOn_171 = some o → va_P (dC, dI) vwCl [(a_t, .inr (15, [.ref a_t_s, .ref a_t_f, .ref a_t_before, .ref a_t_beforeF, .ref a_t_aside, .ref a_t_asideF, .ref a_t_saved, .ref a_t_savedF, .int t_isSaved, .ref a_t_past, .ref a_t_pastF, .int t_pastMany, .int t_boiled, .int t_thrown, .ref a_t_refused, .ref a_t_text, .int t_length, .int t_error, .ref a_t_signs, .ref a_t_numbers, .int t_tokens, .int t_spoons, .int t_mostSpoons, .ref a_t_row, .ref a_t_isBrothOn, .ref a_t_dramsOn, .ref a_t_brothOn, .int t_cause, .int t_causeDetail, .ref a_t_lowOn, .ref a_t_highOn, .ref a_t_lowStored, .ref a_t_highStored, .ref a_t_isBrothStored, .int t_storeMany, .ref a_t_step, .ref a_t_stepF, .ref a_t_line, .int t_lineMany])), (a_t_dramsOn, .inl (cT 3, 6, .inr (.inl t_dramsOn_171))), (a_t_brothOn, .inl (cT 4, 6, .inr (.inr (.inl t_brothOn_171))))] H → va_D A [(a_t, .inr (15, [.ref a_t_s, .ref a_t_f, .ref a_t_before, .ref a_t_beforeF, .ref a_t_aside, .ref a_t_asideF, .ref a_t_saved, .ref a_t_savedF, .int t_isSaved, .ref a_t_past, .ref a_t_pastF, .int t_pastMany, .int t_boiled, .int t_thrown, .ref a_t_refused, .ref a_t_text, .int t_length, .int t_error, .ref a_t_signs, .ref a_t_numbers, .int t_tokens, .int t_spoons, .int t_mostSpoons, .ref a_t_row, .ref a_t_isBrothOn, .ref a_t_dramsOn, .ref a_t_brothOn, .int t_cause, .int t_causeDetail, .ref a_t_lowOn, .ref a_t_highOn, .ref a_t_lowStored, .ref a_t_highStored, .ref a_t_isBrothStored, .int t_storeMany, .ref a_t_step, .ref a_t_stepF, .ref a_t_line, .int t_lineMany])), (a_t_dramsOn, .inl (cT 3, 6, .inr (.inl t_dramsOn_171))), (a_t_brothOn, .inl (cT 4, 6, .inr (.inr (.inl t_brothOn_171))))] → va_S A s.heap H locs → lv_has ls 10 [(0, .ref a_t), (2, .int p2)] → W p l e ({ frames := 1, cells := 0, slots := 0, locals := 25 } : Room) s m [.ref a_t, .int p1, .int p2].toArray below meth c H locs 0 0 Q (F0 m 171 ls []) := by
    intro t_brothOn_171 t_dramsOn_171 H locs ls h hP hD hS hl
    unfold g_X12_reckons_b171 at h
    refine lv_iconst (v := 1) hx hb dX12_reckons_171 (by decide) ?_
    refine lv_goto (tgt := 176) hx hb dX12_reckons_172 (by decide) ?_
    exact wB_176 t_brothOn_171 t_dramsOn_171 1 _ _ _ h hP hD hS (lv_sub hl [0, 1] rfl)
  have wB_138 : ∀ (t_dramsOn_138 : Nat → Int64) (s1_138 : Int32) (s2_138 : UInt32) (H : Heap) (locs : List Loc) (ls : Array Slot), g_X12_reckons_b138 t_cause t_causeDetail t_isBrothOn t_brothOn p2 t_dramsOn_138 s1_138 s2_138 = some o → va_P (dC, dI) vwCl [(a_t, .inr (15, [.ref a_t_s, .ref a_t_f, .ref a_t_before, .ref a_t_beforeF, .ref a_t_aside, .ref a_t_asideF, .ref a_t_saved, .ref a_t_savedF, .int t_isSaved, .ref a_t_past, .ref a_t_pastF, .int t_pastMany, .int t_boiled, .int t_thrown, .ref a_t_refused, .ref a_t_text, .int t_length, .int t_error, .ref a_t_signs, .ref a_t_numbers, .int t_tokens, .int t_spoons, .int t_mostSpoons, .ref a_t_row, .ref a_t_isBrothOn, .ref a_t_dramsOn, .ref a_t_brothOn, .int t_cause, .int t_causeDetail, .ref a_t_lowOn, .ref a_t_highOn, .ref a_t_lowStored, .ref a_t_highStored, .ref a_t_isBrothStored, .int t_storeMany, .ref a_t_step, .ref a_t_stepF, .ref a_t_line, .int t_lineMany])), (a_t_dramsOn, .inl (cT 3, 6, .inr (.inl t_dramsOn_138))), (a_t_brothOn, .inl (cT 4, 6, .inr (.inr (.inl t_brothOn))))] H → va_D A [(a_t, .inr (15, [.ref a_t_s, .ref a_t_f, .ref a_t_before, .ref a_t_beforeF, .ref a_t_aside, .ref a_t_asideF, .ref a_t_saved, .ref a_t_savedF, .int t_isSaved, .ref a_t_past, .ref a_t_pastF, .int t_pastMany, .int t_boiled, .int t_thrown, .ref a_t_refused, .ref a_t_text, .int t_length, .int t_error, .ref a_t_signs, .ref a_t_numbers, .int t_tokens, .int t_spoons, .int t_mostSpoons, .ref a_t_row, .ref a_t_isBrothOn, .ref a_t_dramsOn, .ref a_t_brothOn, .int t_cause, .int t_causeDetail, .ref a_t_lowOn, .ref a_t_highOn, .ref a_t_lowStored, .ref a_t_highStored, .ref a_t_isBrothStored, .int t_storeMany, .ref a_t_step, .ref a_t_stepF, .ref a_t_line, .int t_lineMany])), (a_t_dramsOn, .inl (cT 3, 6, .inr (.inl t_dramsOn_138))), (a_t_brothOn, .inl (cT 4, 6, .inr (.inr (.inl t_brothOn))))] → va_S A s.heap H locs → lv_has ls 10 [(0, .ref a_t), (2, .int p2)] → W p l e ({ frames := 1, cells := 0, slots := 0, locals := 25 } : Room) s m [.ref a_t, .int p1, .int p2].toArray below meth c H locs 0 0 Q (F0 m 138 ls [.float s2_138, .int s1_138, .ref a_t_brothOn]) := by
    intro t_dramsOn_138 s1_138 s2_138 H locs ls h hP hD hS hl
    unfold g_X12_reckons_b138 at h
    obtain ⟨r7, hq, h⟩ := gb_some h
    refine crF (va_runS (As := [.float s2_138]) (rest := [.int s1_138, .ref a_t_brothOn]) ⟨hx, hb, hml, hown, hta⟩ (c_X12_held l dC dI cT hq) (cS hta lm_X12_244 md_X12_held ⟨(Nat.le_of_ble_eq_true rfl), (Nat.le_of_ble_eq_true rfl)⟩) ⟨fbK, fun U hU hW => ⟨rfl, hU, va_K.moved hW.alike hK⟩⟩ rfl rfl hl.1 rfl (lv_room (Nat.le_of_ble_eq_true rfl)) dX12_reckons_138 ⟨(Nat.le_of_ble_eq_true rfl), (Nat.le_of_ble_eq_true rfl)⟩) hS hA (fun locs hS => ?_)
    obtain ⟨hc, h⟩ := gc_some h
    refine va_fast hx hb hK hP hD hS 2 4 rfl rfl (inb_in hc) dX12_reckons_141 (fun H locs hP hD hS => ?_)
    have hP : va_P (dC, dI) vwCl [(a_t, .inr (15, [.ref a_t_s, .ref a_t_f, .ref a_t_before, .ref a_t_beforeF, .ref a_t_aside, .ref a_t_asideF, .ref a_t_saved, .ref a_t_savedF, .int t_isSaved, .ref a_t_past, .ref a_t_pastF, .int t_pastMany, .int t_boiled, .int t_thrown, .ref a_t_refused, .ref a_t_text, .int t_length, .int t_error, .ref a_t_signs, .ref a_t_numbers, .int t_tokens, .int t_spoons, .int t_mostSpoons, .ref a_t_row, .ref a_t_isBrothOn, .ref a_t_dramsOn, .ref a_t_brothOn, .int t_cause, .int t_causeDetail, .ref a_t_lowOn, .ref a_t_highOn, .ref a_t_lowStored, .ref a_t_highStored, .ref a_t_isBrothStored, .int t_storeMany, .ref a_t_step, .ref a_t_stepF, .ref a_t_line, .int t_lineMany])), (a_t_dramsOn, .inl (cT 3, 6, .inr (.inl t_dramsOn_138))), (a_t_brothOn, .inl (cT 4, 6, .inr (.inr (.inl (vf_upd t_brothOn s1_138.toNatClampNeg r7)))))] H := hP
    have hD : va_D A [(a_t, .inr (15, [.ref a_t_s, .ref a_t_f, .ref a_t_before, .ref a_t_beforeF, .ref a_t_aside, .ref a_t_asideF, .ref a_t_saved, .ref a_t_savedF, .int t_isSaved, .ref a_t_past, .ref a_t_pastF, .int t_pastMany, .int t_boiled, .int t_thrown, .ref a_t_refused, .ref a_t_text, .int t_length, .int t_error, .ref a_t_signs, .ref a_t_numbers, .int t_tokens, .int t_spoons, .int t_mostSpoons, .ref a_t_row, .ref a_t_isBrothOn, .ref a_t_dramsOn, .ref a_t_brothOn, .int t_cause, .int t_causeDetail, .ref a_t_lowOn, .ref a_t_highOn, .ref a_t_lowStored, .ref a_t_highStored, .ref a_t_isBrothStored, .int t_storeMany, .ref a_t_step, .ref a_t_stepF, .ref a_t_line, .int t_lineMany])), (a_t_dramsOn, .inl (cT 3, 6, .inr (.inl t_dramsOn_138))), (a_t_brothOn, .inl (cT 4, 6, .inr (.inr (.inl (vf_upd t_brothOn s1_138.toNatClampNeg r7)))))] := hD
    refine lv_aload_n hx hb dX12_reckons_142 rfl (lv_at hl 0 rfl) ?_
    refine va_get (D := (dC, dI)) (ci := 15) (v := .ref a_t_isBrothOn) (C := RX12) (T := TX12) (N := 39) hx hb hta inX12w hown hK hP 0 rfl rfl 24 (by decide) (hta _ lk_X12_61) (fun _ h9 => h9) rfl dX12_reckons_143 ?_
    refine lv_iload_n hx hb dX12_reckons_146 rfl (lv_at hl 1 rfl) ?_
    obtain ⟨hc, h⟩ := gc_some h
    refine va_zald hx hb hK (rk hR0 hNA hS) 0 1 rfl rfl (inb_in hc) dX12_reckons_147 ?_
    refine lv_if_ne (tgt := 171) hx hb dX12_reckons_148 (by decide) (fun c0 => ?_) (fun c0 => ?_)
    · have h := (if_neg c0).symm.trans h
      exact wB_171 (vf_upd t_brothOn s1_138.toNatClampNeg r7) t_dramsOn_138 _ _ _ h hP hD hS (lv_sub hl [0, 1] rfl)
    · have h := (if_pos c0).symm.trans h
      refine lv_aload_n hx hb dX12_reckons_151 rfl (lv_at hl 0 rfl) ?_
      refine va_get (D := (dC, dI)) (ci := 15) (v := .ref a_t_dramsOn) (C := RX12) (T := TX12) (N := 39) hx hb hta inX12w hown hK hP 0 rfl rfl 25 (by decide) (hta _ lk_X12_65) (fun _ h9 => h9) rfl dX12_reckons_152 ?_
      refine lv_iload_n hx hb dX12_reckons_155 rfl (lv_at hl 1 rfl) ?_
      refine lv_iconst (v := 1) hx hb dX12_reckons_156 (by decide) ?_
      refine lv_isub hx hb dX12_reckons_157 ?_
      obtain ⟨hc, h⟩ := gc_some h
      refine va_lald hx hb hK hP 1 3 rfl rfl (inb_in hc) dX12_reckons_158 ?_
      refine lv_ldc2 (v := -1000000) hx hb hown (hta _ kc_X12_248) dX12_reckons_159 ?_
      refine lv_ldc2 (v := 1000000) hx hb hown (hta _ kc_X12_250) dX12_reckons_162 ?_
      obtain ⟨r8, hq, h⟩ := gb_some h
      refine crI (va_runS (As := [.long (t_dramsOn_138 (p2 - 1).toNatClampNeg), .long (-1000000 : Int64), .long (1000000 : Int64)]) (rest := []) ⟨hx, hb, hml, hown, hta⟩ (c_X12_in l dC dI cT hq) (cS hta lm_X12_112 md_X12_in ⟨(Nat.le_of_ble_eq_true rfl), (Nat.le_of_ble_eq_true rfl)⟩) ⟨fbK, fun U hU hW => ⟨rfl, hU, va_K.moved hW.alike hK⟩⟩ rfl rfl hl.1 rfl (lv_room (Nat.le_of_ble_eq_true rfl)) dX12_reckons_165 ⟨(Nat.le_of_ble_eq_true rfl), (Nat.le_of_ble_eq_true rfl)⟩) hS hA (fun locs hS => ?_)
      refine lv_if_eq (tgt := 175) hx hb dX12_reckons_168 (by decide) (fun c0 => ?_) (fun c0 => ?_)
      · have h := (if_pos c0).symm.trans h
        refine lv_iconst (v := 0) hx hb dX12_reckons_175 (by decide) ?_
        exact wB_176 (vf_upd t_brothOn s1_138.toNatClampNeg r7) t_dramsOn_138 0 _ _ _ h hP hD hS (lv_sub hl [0, 1] rfl)
      · have h := (if_neg c0).symm.trans h
        exact wB_171 (vf_upd t_brothOn s1_138.toNatClampNeg r7) t_dramsOn_138 _ _ _ h hP hD hS (lv_sub hl [0, 1] rfl)
  have wB_97 : ∀ (x7_97 : UInt32) (x8_97 : UInt32) (s1_97 : Int32) (s2_97 : Int64) (H : Heap) (locs : List Loc) (ls : Array Slot), g_X12_reckons_b97 t_cause t_causeDetail t_isBrothOn t_dramsOn t_brothOn p1 p2 x7_97 x8_97 s1_97 s2_97 = some o → va_P (dC, dI) vwCl [(a_t, .inr (15, [.ref a_t_s, .ref a_t_f, .ref a_t_before, .ref a_t_beforeF, .ref a_t_aside, .ref a_t_asideF, .ref a_t_saved, .ref a_t_savedF, .int t_isSaved, .ref a_t_past, .ref a_t_pastF, .int t_pastMany, .int t_boiled, .int t_thrown, .ref a_t_refused, .ref a_t_text, .int t_length, .int t_error, .ref a_t_signs, .ref a_t_numbers, .int t_tokens, .int t_spoons, .int t_mostSpoons, .ref a_t_row, .ref a_t_isBrothOn, .ref a_t_dramsOn, .ref a_t_brothOn, .int t_cause, .int t_causeDetail, .ref a_t_lowOn, .ref a_t_highOn, .ref a_t_lowStored, .ref a_t_highStored, .ref a_t_isBrothStored, .int t_storeMany, .ref a_t_step, .ref a_t_stepF, .ref a_t_line, .int t_lineMany])), (a_t_dramsOn, .inl (cT 3, 6, .inr (.inl t_dramsOn))), (a_t_brothOn, .inl (cT 4, 6, .inr (.inr (.inl t_brothOn))))] H → va_D A [(a_t, .inr (15, [.ref a_t_s, .ref a_t_f, .ref a_t_before, .ref a_t_beforeF, .ref a_t_aside, .ref a_t_asideF, .ref a_t_saved, .ref a_t_savedF, .int t_isSaved, .ref a_t_past, .ref a_t_pastF, .int t_pastMany, .int t_boiled, .int t_thrown, .ref a_t_refused, .ref a_t_text, .int t_length, .int t_error, .ref a_t_signs, .ref a_t_numbers, .int t_tokens, .int t_spoons, .int t_mostSpoons, .ref a_t_row, .ref a_t_isBrothOn, .ref a_t_dramsOn, .ref a_t_brothOn, .int t_cause, .int t_causeDetail, .ref a_t_lowOn, .ref a_t_highOn, .ref a_t_lowStored, .ref a_t_highStored, .ref a_t_isBrothStored, .int t_storeMany, .ref a_t_step, .ref a_t_stepF, .ref a_t_line, .int t_lineMany])), (a_t_dramsOn, .inl (cT 3, 6, .inr (.inl t_dramsOn))), (a_t_brothOn, .inl (cT 4, 6, .inr (.inr (.inl t_brothOn))))] → va_S A s.heap H locs → lv_has ls 10 [(0, .ref a_t), (1, .int p1), (2, .int p2), (7, .float x7_97), (8, .float x8_97)] → W p l e ({ frames := 1, cells := 0, slots := 0, locals := 25 } : Room) s m [.ref a_t, .int p1, .int p2].toArray below meth c H locs 0 0 Q (F0 m 97 ls [.long s2_97, .int s1_97, .ref a_t_dramsOn]) := by
    intro x7_97 x8_97 s1_97 s2_97 H locs ls h hP hD hS hl
    unfold g_X12_reckons_b97 at h
    obtain ⟨hc, h⟩ := gc_some h
    refine va_last hx hb hK hP hD hS 1 3 rfl rfl (inb_in hc) dX12_reckons_97 (fun H locs hP hD hS => ?_)
    have hP : va_P (dC, dI) vwCl [(a_t, .inr (15, [.ref a_t_s, .ref a_t_f, .ref a_t_before, .ref a_t_beforeF, .ref a_t_aside, .ref a_t_asideF, .ref a_t_saved, .ref a_t_savedF, .int t_isSaved, .ref a_t_past, .ref a_t_pastF, .int t_pastMany, .int t_boiled, .int t_thrown, .ref a_t_refused, .ref a_t_text, .int t_length, .int t_error, .ref a_t_signs, .ref a_t_numbers, .int t_tokens, .int t_spoons, .int t_mostSpoons, .ref a_t_row, .ref a_t_isBrothOn, .ref a_t_dramsOn, .ref a_t_brothOn, .int t_cause, .int t_causeDetail, .ref a_t_lowOn, .ref a_t_highOn, .ref a_t_lowStored, .ref a_t_highStored, .ref a_t_isBrothStored, .int t_storeMany, .ref a_t_step, .ref a_t_stepF, .ref a_t_line, .int t_lineMany])), (a_t_dramsOn, .inl (cT 3, 6, .inr (.inl (vp_updL t_dramsOn s1_97.toNatClampNeg s2_97)))), (a_t_brothOn, .inl (cT 4, 6, .inr (.inr (.inl t_brothOn))))] H := hP
    have hD : va_D A [(a_t, .inr (15, [.ref a_t_s, .ref a_t_f, .ref a_t_before, .ref a_t_beforeF, .ref a_t_aside, .ref a_t_asideF, .ref a_t_saved, .ref a_t_savedF, .int t_isSaved, .ref a_t_past, .ref a_t_pastF, .int t_pastMany, .int t_boiled, .int t_thrown, .ref a_t_refused, .ref a_t_text, .int t_length, .int t_error, .ref a_t_signs, .ref a_t_numbers, .int t_tokens, .int t_spoons, .int t_mostSpoons, .ref a_t_row, .ref a_t_isBrothOn, .ref a_t_dramsOn, .ref a_t_brothOn, .int t_cause, .int t_causeDetail, .ref a_t_lowOn, .ref a_t_highOn, .ref a_t_lowStored, .ref a_t_highStored, .ref a_t_isBrothStored, .int t_storeMany, .ref a_t_step, .ref a_t_stepF, .ref a_t_line, .int t_lineMany])), (a_t_dramsOn, .inl (cT 3, 6, .inr (.inl (vp_updL t_dramsOn s1_97.toNatClampNeg s2_97)))), (a_t_brothOn, .inl (cT 4, 6, .inr (.inr (.inl t_brothOn))))] := hD
    refine lv_aload_n hx hb dX12_reckons_98 rfl (lv_at hl 0 rfl) ?_
    refine va_get (D := (dC, dI)) (ci := 15) (v := .ref a_t_brothOn) (C := RX12) (T := TX12) (N := 39) hx hb hta inX12w hown hK hP 0 rfl rfl 26 (by decide) (hta _ lk_X12_69) (fun _ h9 => h9) rfl dX12_reckons_99 ?_
    refine lv_iload_n hx hb dX12_reckons_102 rfl (lv_at hl 2 rfl) ?_
    refine lv_iconst (v := 1) hx hb dX12_reckons_103 (by decide) ?_
    refine lv_isub hx hb dX12_reckons_104 ?_
    refine lv_iload_n hx hb dX12_reckons_105 rfl (lv_at hl 1 rfl) ?_
    refine lv_bipush (v := 43) hx hb dX12_reckons_106 (by decide) ?_
    refine lv_icmp_ne (tgt := 119) hx hb dX12_reckons_108 (by decide) (fun c0 => ?_) (fun c0 => ?_)
    · have h := (if_neg c0).symm.trans h
      refine lv_iload_n hx hb dX12_reckons_119 rfl (lv_at hl 1 rfl) ?_
      refine lv_bipush (v := 45) hx hb dX12_reckons_120 (by decide) ?_
      refine lv_icmp_ne (tgt := 133) hx hb dX12_reckons_122 (by decide) (fun c0 => ?_) (fun c0 => ?_)
      · have h := (if_neg c0).symm.trans h
        refine lv_fload hx hb dX12_reckons_133 (lv_at hl 3 rfl) ?_
        refine lv_fload hx hb dX12_reckons_135 (lv_at hl 4 rfl) ?_
        obtain ⟨hc, h⟩ := gc_some h
        refine lv_fmul hx hb dX12_reckons_137 (n32_n hc) ?_
        exact wB_138 (vp_updL t_dramsOn s1_97.toNatClampNeg s2_97) (p2 - 1) (FP.fmul x7_97 x8_97) _ _ _ h hP hD hS (lv_sub hl [0, 2] rfl)
      · have h := (if_pos c0).symm.trans h
        refine lv_fload hx hb dX12_reckons_125 (lv_at hl 3 rfl) ?_
        refine lv_fload hx hb dX12_reckons_127 (lv_at hl 4 rfl) ?_
        obtain ⟨hc, h⟩ := gc_some h
        refine lv_fsub hx hb dX12_reckons_129 (n32_n hc) ?_
        refine lv_goto (tgt := 138) hx hb dX12_reckons_130 (by decide) ?_
        exact wB_138 (vp_updL t_dramsOn s1_97.toNatClampNeg s2_97) (p2 - 1) (FP.fsub x7_97 x8_97) _ _ _ h hP hD hS (lv_sub hl [0, 2] rfl)
    · have h := (if_pos c0).symm.trans h
      refine lv_fload hx hb dX12_reckons_111 (lv_at hl 3 rfl) ?_
      refine lv_fload hx hb dX12_reckons_113 (lv_at hl 4 rfl) ?_
      obtain ⟨hc, h⟩ := gc_some h
      refine lv_fadd hx hb dX12_reckons_115 (n32_n hc) ?_
      refine lv_goto (tgt := 138) hx hb dX12_reckons_116 (by decide) ?_
      exact wB_138 (vp_updL t_dramsOn s1_97.toNatClampNeg s2_97) (p2 - 1) (FP.fadd x7_97 x8_97) _ _ _ h hP hD hS (lv_sub hl [0, 2] rfl)
  unfold g_X12_reckons at h
  refine lv_aload_n hx hb dX12_reckons_0 rfl (lv_at hl 0 rfl) ?_
  refine va_get (D := (dC, dI)) (ci := 15) (v := .ref a_t_isBrothOn) (C := RX12) (T := TX12) (N := 39) hx hb hta inX12w hown hK hP 0 rfl rfl 24 (by decide) (hta _ lk_X12_61) (fun _ h9 => h9) rfl dX12_reckons_1 ?_
  refine lv_iload_n hx hb dX12_reckons_4 rfl (lv_at hl 2 rfl) ?_
  obtain ⟨hc, h⟩ := gc_some h
  refine va_zald hx hb hK (rk hR0 hNA hS) 0 1 rfl rfl (inb_in hc) dX12_reckons_5 ?_
  refine lv_aload_n hx hb dX12_reckons_6 rfl (lv_at hl 0 rfl) ?_
  refine va_get (D := (dC, dI)) (ci := 15) (v := .ref a_t_isBrothOn) (C := RX12) (T := TX12) (N := 39) hx hb hta inX12w hown hK hP 0 rfl rfl 24 (by decide) (hta _ lk_X12_61) (fun _ h9 => h9) rfl dX12_reckons_7 ?_
  refine lv_iload_n hx hb dX12_reckons_10 rfl (lv_at hl 2 rfl) ?_
  refine lv_iconst (v := 1) hx hb dX12_reckons_11 (by decide) ?_
  refine lv_isub hx hb dX12_reckons_12 ?_
  obtain ⟨hc, h⟩ := gc_some h
  refine va_zald hx hb hK (rk hR0 hNA hS) 0 1 rfl rfl (inb_in hc) dX12_reckons_13 ?_
  refine lv_icmp_eq (tgt := 25) hx hb dX12_reckons_14 (by decide) (fun c0 => ?_) (fun c0 => ?_)
  · have h := (if_pos c0).symm.trans h
    refine lv_aload_n hx hb dX12_reckons_25 rfl (lv_at hl 0 rfl) ?_
    refine va_get (D := (dC, dI)) (ci := 15) (v := .ref a_t_dramsOn) (C := RX12) (T := TX12) (N := 39) hx hb hta inX12w hown hK hP 0 rfl rfl 25 (by decide) (hta _ lk_X12_65) (fun _ h9 => h9) rfl dX12_reckons_26 ?_
    refine lv_iload_n hx hb dX12_reckons_29 rfl (lv_at hl 2 rfl) ?_
    refine lv_iconst (v := 1) hx hb dX12_reckons_30 (by decide) ?_
    refine lv_isub hx hb dX12_reckons_31 ?_
    obtain ⟨hc, h⟩ := gc_some h
    refine va_lald hx hb hK hP 1 3 rfl rfl (inb_in hc) dX12_reckons_32 ?_
    refine lv_topl (fun v1 e_v1 => ?_)
    have h := gl_use e_v1 h
    refine lv_lstore_n (lv' := [(3, .long v1), (0, .ref a_t), (1, .int p1), (2, .int p2)]) hx hb dX12_reckons_33 rfl hl (by decide) rfl (fun ls hl => ?_)
    refine lv_aload_n hx hb dX12_reckons_34 rfl (lv_at hl 1 rfl) ?_
    refine va_get (D := (dC, dI)) (ci := 15) (v := .ref a_t_dramsOn) (C := RX12) (T := TX12) (N := 39) hx hb hta inX12w hown hK hP 0 rfl rfl 25 (by decide) (hta _ lk_X12_65) (fun _ h9 => h9) rfl dX12_reckons_35 ?_
    refine lv_iload_n hx hb dX12_reckons_38 rfl (lv_at hl 3 rfl) ?_
    obtain ⟨hc, h⟩ := gc_some h
    refine va_lald hx hb hK hP 1 3 rfl rfl (inb_in hc) dX12_reckons_39 ?_
    refine lv_topl (fun v2 e_v2 => ?_)
    have h := gl_use e_v2 h
    refine lv_lstore (lv' := [(5, .long v2), (3, .long v1), (0, .ref a_t), (1, .int p1), (2, .int p2)]) hx hb dX12_reckons_40 hl (by decide) rfl (fun ls hl => ?_)
    refine lv_aload_n hx hb dX12_reckons_42 rfl (lv_at hl 2 rfl) ?_
    refine va_get (D := (dC, dI)) (ci := 15) (v := .ref a_t_brothOn) (C := RX12) (T := TX12) (N := 39) hx hb hta inX12w hown hK hP 0 rfl rfl 26 (by decide) (hta _ lk_X12_69) (fun _ h9 => h9) rfl dX12_reckons_43 ?_
    refine lv_iload_n hx hb dX12_reckons_46 rfl (lv_at hl 4 rfl) ?_
    refine lv_iconst (v := 1) hx hb dX12_reckons_47 (by decide) ?_
    refine lv_isub hx hb dX12_reckons_48 ?_
    obtain ⟨hc, h⟩ := gc_some h
    refine va_fald hx hb hK hP 2 4 rfl rfl (inb_in hc) dX12_reckons_49 ?_
    refine lv_topf (fun v3 e_v3 => ?_)
    have h := gl_use e_v3 h
    refine lv_fstore (lv' := [(7, .float v3), (5, .long v2), (3, .long v1), (0, .ref a_t), (1, .int p1), (2, .int p2)]) hx hb dX12_reckons_50 hl (by decide) rfl (fun ls hl => ?_)
    refine lv_aload_n hx hb dX12_reckons_52 rfl (lv_at hl 3 rfl) ?_
    refine va_get (D := (dC, dI)) (ci := 15) (v := .ref a_t_brothOn) (C := RX12) (T := TX12) (N := 39) hx hb hta inX12w hown hK hP 0 rfl rfl 26 (by decide) (hta _ lk_X12_69) (fun _ h9 => h9) rfl dX12_reckons_53 ?_
    refine lv_iload_n hx hb dX12_reckons_56 rfl (lv_at hl 5 rfl) ?_
    obtain ⟨hc, h⟩ := gc_some h
    refine va_fald hx hb hK hP 2 4 rfl rfl (inb_in hc) dX12_reckons_57 ?_
    refine lv_topf (fun v4 e_v4 => ?_)
    have h := gl_use e_v4 h
    refine lv_fstore (lv' := [(8, .float v4), (7, .float v3), (5, .long v2), (3, .long v1), (0, .ref a_t), (1, .int p1), (2, .int p2)]) hx hb dX12_reckons_58 hl (by decide) rfl (fun ls hl => ?_)
    refine lv_aload_n hx hb dX12_reckons_60 rfl (lv_at hl 4 rfl) ?_
    refine va_get (D := (dC, dI)) (ci := 15) (v := .ref a_t_dramsOn) (C := RX12) (T := TX12) (N := 39) hx hb hta inX12w hown hK hP 0 rfl rfl 25 (by decide) (hta _ lk_X12_65) (fun _ h9 => h9) rfl dX12_reckons_61 ?_
    refine lv_iload_n hx hb dX12_reckons_64 rfl (lv_at hl 6 rfl) ?_
    refine lv_iconst (v := 1) hx hb dX12_reckons_65 (by decide) ?_
    refine lv_isub hx hb dX12_reckons_66 ?_
    refine lv_iload_n hx hb dX12_reckons_67 rfl (lv_at hl 5 rfl) ?_
    refine lv_bipush (v := 43) hx hb dX12_reckons_68 (by decide) ?_
    refine lv_icmp_ne (tgt := 80) hx hb dX12_reckons_70 (by decide) (fun c0 => ?_) (fun c0 => ?_)
    · have h := (if_neg c0).symm.trans h
      refine lv_iload_n hx hb dX12_reckons_80 rfl (lv_at hl 5 rfl) ?_
      refine lv_bipush (v := 45) hx hb dX12_reckons_81 (by decide) ?_
      refine lv_icmp_ne (tgt := 93) hx hb dX12_reckons_83 (by decide) (fun c0 => ?_) (fun c0 => ?_)
      · have h := (if_neg c0).symm.trans h
        refine lv_lload_n hx hb dX12_reckons_93 rfl (lv_at hl 3 rfl) ?_
        refine lv_lload hx hb dX12_reckons_94 (lv_at hl 2 rfl) ?_
        refine lv_lmul hx hb dX12_reckons_96 ?_
        exact wB_97 v3 v4 (p2 - 1) (v1 * v2) _ _ _ h hP hD hS (lv_sub hl [4, 5, 6, 1, 0] rfl)
      · have h := (if_pos c0).symm.trans h
        refine lv_lload_n hx hb dX12_reckons_86 rfl (lv_at hl 3 rfl) ?_
        refine lv_lload hx hb dX12_reckons_87 (lv_at hl 2 rfl) ?_
        refine lv_lsub hx hb dX12_reckons_89 ?_
        refine lv_goto (tgt := 97) hx hb dX12_reckons_90 (by decide) ?_
        exact wB_97 v3 v4 (p2 - 1) (v1 - v2) _ _ _ h hP hD hS (lv_sub hl [4, 5, 6, 1, 0] rfl)
    · have h := (if_pos c0).symm.trans h
      refine lv_lload_n hx hb dX12_reckons_73 rfl (lv_at hl 3 rfl) ?_
      refine lv_lload hx hb dX12_reckons_74 (lv_at hl 2 rfl) ?_
      refine lv_ladd hx hb dX12_reckons_76 ?_
      refine lv_goto (tgt := 97) hx hb dX12_reckons_77 (by decide) ?_
      exact wB_97 v3 v4 (p2 - 1) (v1 + v2) _ _ _ h hP hD hS (lv_sub hl [4, 5, 6, 1, 0] rfl)
  · have h := (if_neg c0).symm.trans h
    refine lv_aload_n hx hb dX12_reckons_17 rfl (lv_at hl 0 rfl) ?_
    refine lv_bipush (v := 7) hx hb dX12_reckons_18 (by decide) ?_
    refine lv_iconst (v := -1) hx hb dX12_reckons_20 (by decide) ?_
    obtain ⟨r5, hq, h⟩ := gb_some h
    refine cxI (X2 := [(a_t, .inr (15, [.ref a_t_s, .ref a_t_f, .ref a_t_before, .ref a_t_beforeF, .ref a_t_aside, .ref a_t_asideF, .ref a_t_saved, .ref a_t_savedF, .int t_isSaved, .ref a_t_past, .ref a_t_pastF, .int t_pastMany, .int t_boiled, .int t_thrown, .ref a_t_refused, .ref a_t_text, .int t_length, .int t_error, .ref a_t_signs, .ref a_t_numbers, .int t_tokens, .int t_spoons, .int t_mostSpoons, .ref a_t_row, .ref a_t_isBrothOn, .ref a_t_dramsOn, .ref a_t_brothOn, .int r5.2.1, .int r5.2.2, .ref a_t_lowOn, .ref a_t_highOn, .ref a_t_lowStored, .ref a_t_highStored, .ref a_t_isBrothStored, .int t_storeMany, .ref a_t_step, .ref a_t_stepF, .ref a_t_line, .int t_lineMany])), (a_t_dramsOn, .inl (cT 3, 6, .inr (.inl t_dramsOn))), (a_t_brothOn, .inl (cT 4, 6, .inr (.inr (.inl t_brothOn))))]) (va_runV (As := [.int 7, .int (-1)]) (rest := []) ⟨hx, hb, hml, hown, hta⟩ (c_X12_boilsBy l dC dI cT rfl hq (hP.sub (ws' := [(a_t, .inr (15, [.ref a_t_s, .ref a_t_f, .ref a_t_before, .ref a_t_beforeF, .ref a_t_aside, .ref a_t_asideF, .ref a_t_saved, .ref a_t_savedF, .int t_isSaved, .ref a_t_past, .ref a_t_pastF, .int t_pastMany, .int t_boiled, .int t_thrown, .ref a_t_refused, .ref a_t_text, .int t_length, .int t_error, .ref a_t_signs, .ref a_t_numbers, .int t_tokens, .int t_spoons, .int t_mostSpoons, .ref a_t_row, .ref a_t_isBrothOn, .ref a_t_dramsOn, .ref a_t_brothOn, .int t_cause, .int t_causeDetail, .ref a_t_lowOn, .ref a_t_highOn, .ref a_t_lowStored, .ref a_t_highStored, .ref a_t_isBrothStored, .int t_storeMany, .ref a_t_step, .ref a_t_stepF, .ref a_t_line, .int t_lineMany]))]) [0] rfl) (ds hD [0] (by decide) rfl)) (cV hta lm_X12_241 md_X12_boilsBy ⟨(Nat.le_of_ble_eq_true rfl), (Nat.le_of_ble_eq_true rfl)⟩) ⟨fbK, va_recv hK hP (ci := 15) (q0 := 0) rfl rfl, fun U hU hW => ⟨rfl, hU, va_K.moved hW.alike hK⟩⟩ rfl rfl hl.1 rfl (lv_room (Nat.le_of_ble_eq_true rfl)) dX12_reckons_21 ⟨(Nat.le_of_ble_eq_true rfl), (Nat.le_of_ble_eq_true rfl)⟩) hS hA hP hD [0] rfl [.inl 0, .inr 1, .inr 2] rfl rfl rfl (fun H locs hP hD hS => ?_)
    obtain ⟨hc, h⟩ := gc_some h
    have ho := Option.some.inj h
    rw [hQ]
    exact W.zret (ty := .boolean) (v := r5.1) hx hb hr (bo_n hc) (fun t ht hW => ⟨⟨r5.1, (), rfl, by rw [← ho], by show va_P (dC, dI) vwCl _ t.heap; rw [ht, ← ho]; exact hP⟩, hS.F ht⟩) hS.2.2 dX12_reckons_24
set_option maxHeartbeats 4000000 in
set_option maxRecDepth 100000 in
theorem c_X12_cut (l : Launch) (dC : Nat → ClassId) (dI : Nat → Nat → Nat) (cT : Nat → ClassId) {Hh : Heap} {p1 : UInt32} {o : Int32} (h : g_X12_cut p1 = some o) : Met l yX12_cut (wA yX12_cut cX12_cut 1 (some .int)) ({ frames := 1, cells := 0, slots := 0, locals := 21 } : Room) (PK dC dI cT [.float p1] Hh) (va_Qi (fun x (_ : Unit) => x = o) (fun _ t => t.heap = Hh) (va_A [] Hh.size)) 0 0 (va_A [] Hh.size) := by
  refine Met.ofW (cc := cX12_cut) (maxL := 1) (ret := (some .int)) (by decide) rfl ?_
  intro p e s m args below meth c s₁ B hml hv
  obtain ⟨rfl, hH, hK⟩ := hv
  subst hH
  have hx := B.exec
  have hb := B.bytes
  have hr := B.returns
  have hta : ∀ w ∈ ALLW, w.before [.float p1].toArray s = true := fun w hw => atoms_spec (ws := wA yX12_cut cX12_cut 1 (some .int)) B.pre w (List.mem_cons_of_mem _ hw)
  have hown : s.vm.findClass RX12 = some m.cls := findClass_of_methodNamed B.named
  have hlocks := B.notSynchronized
  generalize hAe : va_A [] s.heap.size = A
  have hA : ∀ q : Nat, s.heap.size ≤ q → A q := fun q h => by rw [← hAe]; exact Or.inr h
  have hS : va_S A s.heap s.heap [] := va_S.rf
  have hl := lv_entry [.float p1] (n := 1) (Nat.le_of_ble_eq_true rfl)
  rw [lg_entry_eq]
  generalize (lg_sl [.float p1] ++ List.replicate (1 - (lg_sl [.float p1]).length) Slot.unset).toArray = ls at hl ⊢
  have hl : lv_has ls 1 [(0, .float p1)] := hl
  unfold g_X12_cut at h
  refine lv_bipush (v := -99) hx hb dX12_cut_0 (by decide) ?_
  refine lv_bipush (v := 99) hx hb dX12_cut_2 (by decide) ?_
  refine lv_fload_n hx hb dX12_cut_4 rfl (lv_at hl 0 rfl) ?_
  refine lv_f2i hx hb dX12_cut_5 ?_
  refine va_mmin hx hb (hml.trans hl.1.symm) hown (hta _ lm_X12_130) (hta _ mth_minint_s) (hta _ mth_i) (hta _ mth_minint_c) (Nat.le_of_ble_eq_true rfl) (Nat.le_of_ble_eq_true rfl) (Nat.le_of_ble_eq_true rfl) (Nat.le_of_ble_eq_true rfl) dX12_cut_6 ?_
  refine va_mmax hx hb (hml.trans hl.1.symm) hown (hta _ lm_X12_135) (hta _ mth_maxint_s) (hta _ mth_i) (hta _ mth_maxint_c) (Nat.le_of_ble_eq_true rfl) (Nat.le_of_ble_eq_true rfl) (Nat.le_of_ble_eq_true rfl) (Nat.le_of_ble_eq_true rfl) dX12_cut_9 ?_
  refine lv_topi (fun v1 e_v1 => ?_)
  have h := gl_use e_v1 h
  have ho := Option.some.inj h
  exact W.iret (v := v1) hx hb hr (fun t ht hW => ⟨⟨v1, (), rfl, by rw [← ho], ht⟩, hS.F ht⟩) hS.2.2 dX12_cut_12
set_option maxHeartbeats 4000000 in
set_option maxRecDepth 100000 in
theorem c_X12_casts (l : Launch) (dC : Nat → ClassId) (dI : Nat → Nat → Nat) (cT : Nat → ClassId) {Hh : Heap} {a_t : Nat} {a_t_isBrothOn : Nat} {a_t_brothOn : Nat} {a_t_dramsOn : Nat} {a_t_s : Nat} {a_t_f : Nat} {a_t_before : Nat} {a_t_beforeF : Nat} {a_t_aside : Nat} {a_t_asideF : Nat} {a_t_saved : Nat} {a_t_savedF : Nat} {a_t_past : Nat} {a_t_pastF : Nat} {a_t_refused : Nat} {a_t_text : Nat} {a_t_signs : Nat} {a_t_numbers : Nat} {a_t_row : Nat} {a_t_lowOn : Nat} {a_t_highOn : Nat} {a_t_lowStored : Nat} {a_t_highStored : Nat} {a_t_isBrothStored : Nat} {a_t_step : Nat} {a_t_stepF : Nat} {a_t_line : Nat} {t_cause : Int32} {t_causeDetail : Int32} {t_isBrothOn : Nat → Int32} {t_brothOn : Nat → UInt32} {t_dramsOn : Nat → Int64} {p1 : Int32} {p2 : Int32} {t_isSaved : Int32} {t_pastMany : Int32} {t_boiled : Int32} {t_thrown : Int32} {t_length : Int32} {t_error : Int32} {t_tokens : Int32} {t_spoons : Int32} {t_mostSpoons : Int32} {t_storeMany : Int32} {t_lineMany : Int32} {XW : va_W} (eX : XW = [(a_t, .inr (15, [.ref a_t_s, .ref a_t_f, .ref a_t_before, .ref a_t_beforeF, .ref a_t_aside, .ref a_t_asideF, .ref a_t_saved, .ref a_t_savedF, .int t_isSaved, .ref a_t_past, .ref a_t_pastF, .int t_pastMany, .int t_boiled, .int t_thrown, .ref a_t_refused, .ref a_t_text, .int t_length, .int t_error, .ref a_t_signs, .ref a_t_numbers, .int t_tokens, .int t_spoons, .int t_mostSpoons, .ref a_t_row, .ref a_t_isBrothOn, .ref a_t_dramsOn, .ref a_t_brothOn, .int t_cause, .int t_causeDetail, .ref a_t_lowOn, .ref a_t_highOn, .ref a_t_lowStored, .ref a_t_highStored, .ref a_t_isBrothStored, .int t_storeMany, .ref a_t_step, .ref a_t_stepF, .ref a_t_line, .int t_lineMany])), (a_t_isBrothOn, .inl (cT 1, 6, .inl t_isBrothOn)), (a_t_brothOn, .inl (cT 4, 6, .inr (.inr (.inl t_brothOn)))), (a_t_dramsOn, .inl (cT 3, 6, .inr (.inl t_dramsOn)))]) {o : Int32 × Int32 × Int32 × (Nat → Int32) × (Nat → UInt32) × (Nat → Int64)} (h : g_X12_casts t_cause t_causeDetail t_isBrothOn t_brothOn t_dramsOn p1 p2 = some o) (hP0 : va_P (dC, dI) vwCl XW Hh) (hD0 : va_D (fun _ => True) XW) : Met l yX12_casts (wA yX12_casts cX12_casts 3 (some .boolean)) ({ frames := 2, cells := 0, slots := 0, locals := 41 } : Room) (PK dC dI cT [.ref a_t, .int p1, .int p2] Hh) (va_Qi (fun x (_ : Unit) => x = o.1) (fun _ t => va_P (dC, dI) vwCl [(a_t, .inr (15, [.ref a_t_s, .ref a_t_f, .ref a_t_before, .ref a_t_beforeF, .ref a_t_aside, .ref a_t_asideF, .ref a_t_saved, .ref a_t_savedF, .int t_isSaved, .ref a_t_past, .ref a_t_pastF, .int t_pastMany, .int t_boiled, .int t_thrown, .ref a_t_refused, .ref a_t_text, .int t_length, .int t_error, .ref a_t_signs, .ref a_t_numbers, .int t_tokens, .int t_spoons, .int t_mostSpoons, .ref a_t_row, .ref a_t_isBrothOn, .ref a_t_dramsOn, .ref a_t_brothOn, .int o.2.1, .int o.2.2.1, .ref a_t_lowOn, .ref a_t_highOn, .ref a_t_lowStored, .ref a_t_highStored, .ref a_t_isBrothStored, .int t_storeMany, .ref a_t_step, .ref a_t_stepF, .ref a_t_line, .int t_lineMany])), (a_t_isBrothOn, .inl (cT 1, 6, .inl o.2.2.2.1)), (a_t_brothOn, .inl (cT 4, 6, .inr (.inr (.inl o.2.2.2.2.1)))), (a_t_dramsOn, .inl (cT 3, 6, .inr (.inl o.2.2.2.2.2)))] t.heap) (va_A XW Hh.size)) 0 0 (va_A XW Hh.size) := by
  subst eX
  refine Met.ofW (cc := cX12_casts) (maxL := 3) (ret := (some .boolean)) (by decide) rfl ?_
  intro p e s m args below meth c s₁ B hml hv
  obtain ⟨rfl, hH, hK⟩ := hv
  subst hH
  have hx := B.exec
  have hb := B.bytes
  have hr := B.returns
  have hta : ∀ w ∈ ALLW, w.before [.ref a_t, .int p1, .int p2].toArray s = true := fun w hw => atoms_spec (ws := wA yX12_casts cX12_casts 3 (some .boolean)) B.pre w (List.mem_cons_of_mem _ hw)
  have hown : s.vm.findClass RX12 = some m.cls := findClass_of_methodNamed B.named
  have hlocks := B.notSynchronized
  have hD := hD0.self (sz := s.heap.size)
  generalize hAe : va_A [(a_t, .inr (15, [.ref a_t_s, .ref a_t_f, .ref a_t_before, .ref a_t_beforeF, .ref a_t_aside, .ref a_t_asideF, .ref a_t_saved, .ref a_t_savedF, .int t_isSaved, .ref a_t_past, .ref a_t_pastF, .int t_pastMany, .int t_boiled, .int t_thrown, .ref a_t_refused, .ref a_t_text, .int t_length, .int t_error, .ref a_t_signs, .ref a_t_numbers, .int t_tokens, .int t_spoons, .int t_mostSpoons, .ref a_t_row, .ref a_t_isBrothOn, .ref a_t_dramsOn, .ref a_t_brothOn, .int t_cause, .int t_causeDetail, .ref a_t_lowOn, .ref a_t_highOn, .ref a_t_lowStored, .ref a_t_highStored, .ref a_t_isBrothStored, .int t_storeMany, .ref a_t_step, .ref a_t_stepF, .ref a_t_line, .int t_lineMany])), (a_t_isBrothOn, .inl (cT 1, 6, .inl t_isBrothOn)), (a_t_brothOn, .inl (cT 4, 6, .inr (.inr (.inl t_brothOn)))), (a_t_dramsOn, .inl (cT 3, 6, .inr (.inl t_dramsOn)))] s.heap.size = A at hD ⊢
  have hP := hP0
  have hA : ∀ q : Nat, s.heap.size ≤ q → A q := fun q h => by rw [← hAe]; exact Or.inr h
  have hS : va_S A s.heap s.heap [] := va_S.rf
  have hl := lv_entry [.ref a_t, .int p1, .int p2] (n := 3) (Nat.le_of_ble_eq_true rfl)
  rw [lg_entry_eq]
  generalize (lg_sl [.ref a_t, .int p1, .int p2] ++ List.replicate (3 - (lg_sl [.ref a_t, .int p1, .int p2]).length) Slot.unset).toArray = ls at hl ⊢
  have hl : lv_has ls 3 [(0, .ref a_t), (1, .int p1), (2, .int p2)] := hl
  obtain ⟨Q, hQ⟩ : ∃ Q, Q = MQ below (va_Qi (fun x (_ : Unit) => x = o.1) (fun _ t => va_P (dC, dI) vwCl [(a_t, .inr (15, [.ref a_t_s, .ref a_t_f, .ref a_t_before, .ref a_t_beforeF, .ref a_t_aside, .ref a_t_asideF, .ref a_t_saved, .ref a_t_savedF, .int t_isSaved, .ref a_t_past, .ref a_t_pastF, .int t_pastMany, .int t_boiled, .int t_thrown, .ref a_t_refused, .ref a_t_text, .int t_length, .int t_error, .ref a_t_signs, .ref a_t_numbers, .int t_tokens, .int t_spoons, .int t_mostSpoons, .ref a_t_row, .ref a_t_isBrothOn, .ref a_t_dramsOn, .ref a_t_brothOn, .int o.2.1, .int o.2.2.1, .ref a_t_lowOn, .ref a_t_highOn, .ref a_t_lowStored, .ref a_t_highStored, .ref a_t_isBrothStored, .int t_storeMany, .ref a_t_step, .ref a_t_stepF, .ref a_t_line, .int t_lineMany])), (a_t_isBrothOn, .inl (cT 1, 6, .inl o.2.2.2.1)), (a_t_brothOn, .inl (cT 4, 6, .inr (.inr (.inl o.2.2.2.2.1)))), (a_t_dramsOn, .inl (cT 3, 6, .inr (.inl o.2.2.2.2.2)))] t.heap) A) [.ref a_t, .int p1, .int p2].toArray s 0 0 A := ⟨_, rfl⟩
  rw [← hQ]
  have wB_86 : ∀ (t_brothOn_86 : Nat → UInt32) (t_dramsOn_86 : Nat → Int64) (s2_86 : Int32) (H : Heap) (locs : List Loc) (ls : Array Slot), g_X12_casts_b86 t_cause t_causeDetail t_isBrothOn p2 t_brothOn_86 t_dramsOn_86 s2_86 = some o → va_P (dC, dI) vwCl [(a_t, .inr (15, [.ref a_t_s, .ref a_t_f, .ref a_t_before, .ref a_t_beforeF, .ref a_t_aside, .ref a_t_asideF, .ref a_t_saved, .ref a_t_savedF, .int t_isSaved, .ref a_t_past, .ref a_t_pastF, .int t_pastMany, .int t_boiled, .int t_thrown, .ref a_t_refused, .ref a_t_text, .int t_length, .int t_error, .ref a_t_signs, .ref a_t_numbers, .int t_tokens, .int t_spoons, .int t_mostSpoons, .ref a_t_row, .ref a_t_isBrothOn, .ref a_t_dramsOn, .ref a_t_brothOn, .int t_cause, .int t_causeDetail, .ref a_t_lowOn, .ref a_t_highOn, .ref a_t_lowStored, .ref a_t_highStored, .ref a_t_isBrothStored, .int t_storeMany, .ref a_t_step, .ref a_t_stepF, .ref a_t_line, .int t_lineMany])), (a_t_isBrothOn, .inl (cT 1, 6, .inl t_isBrothOn)), (a_t_brothOn, .inl (cT 4, 6, .inr (.inr (.inl t_brothOn_86)))), (a_t_dramsOn, .inl (cT 3, 6, .inr (.inl t_dramsOn_86)))] H → va_D A [(a_t, .inr (15, [.ref a_t_s, .ref a_t_f, .ref a_t_before, .ref a_t_beforeF, .ref a_t_aside, .ref a_t_asideF, .ref a_t_saved, .ref a_t_savedF, .int t_isSaved, .ref a_t_past, .ref a_t_pastF, .int t_pastMany, .int t_boiled, .int t_thrown, .ref a_t_refused, .ref a_t_text, .int t_length, .int t_error, .ref a_t_signs, .ref a_t_numbers, .int t_tokens, .int t_spoons, .int t_mostSpoons, .ref a_t_row, .ref a_t_isBrothOn, .ref a_t_dramsOn, .ref a_t_brothOn, .int t_cause, .int t_causeDetail, .ref a_t_lowOn, .ref a_t_highOn, .ref a_t_lowStored, .ref a_t_highStored, .ref a_t_isBrothStored, .int t_storeMany, .ref a_t_step, .ref a_t_stepF, .ref a_t_line, .int t_lineMany])), (a_t_isBrothOn, .inl (cT 1, 6, .inl t_isBrothOn)), (a_t_brothOn, .inl (cT 4, 6, .inr (.inr (.inl t_brothOn_86)))), (a_t_dramsOn, .inl (cT 3, 6, .inr (.inl t_dramsOn_86)))] → va_S A s.heap H locs → lv_has ls 3 [] → W p l e ({ frames := 2, cells := 0, slots := 0, locals := 41 } : Room) s m [.ref a_t, .int p1, .int p2].toArray below meth c H locs 0 0 Q (F0 m 86 ls [.int s2_86, .int p2, .ref a_t_isBrothOn]) := by
    intro t_brothOn_86 t_dramsOn_86 s2_86 H locs ls h hP hD hS hl
    unfold g_X12_casts_b86 at h
    obtain ⟨hc, h⟩ := gc_some h
    refine va_zast hx hb hK hP hD hS 1 1 rfl rfl (inb_in hc) dX12_casts_86 (fun H locs hP hD hS => ?_)
    have hP : va_P (dC, dI) vwCl [(a_t, .inr (15, [.ref a_t_s, .ref a_t_f, .ref a_t_before, .ref a_t_beforeF, .ref a_t_aside, .ref a_t_asideF, .ref a_t_saved, .ref a_t_savedF, .int t_isSaved, .ref a_t_past, .ref a_t_pastF, .int t_pastMany, .int t_boiled, .int t_thrown, .ref a_t_refused, .ref a_t_text, .int t_length, .int t_error, .ref a_t_signs, .ref a_t_numbers, .int t_tokens, .int t_spoons, .int t_mostSpoons, .ref a_t_row, .ref a_t_isBrothOn, .ref a_t_dramsOn, .ref a_t_brothOn, .int t_cause, .int t_causeDetail, .ref a_t_lowOn, .ref a_t_highOn, .ref a_t_lowStored, .ref a_t_highStored, .ref a_t_isBrothStored, .int t_storeMany, .ref a_t_step, .ref a_t_stepF, .ref a_t_line, .int t_lineMany])), (a_t_isBrothOn, .inl (cT 1, 6, .inl (upd t_isBrothOn p2.toNatClampNeg (vp_nar .boolean s2_86)))), (a_t_brothOn, .inl (cT 4, 6, .inr (.inr (.inl t_brothOn_86)))), (a_t_dramsOn, .inl (cT 3, 6, .inr (.inl t_dramsOn_86)))] H := hP
    have hD : va_D A [(a_t, .inr (15, [.ref a_t_s, .ref a_t_f, .ref a_t_before, .ref a_t_beforeF, .ref a_t_aside, .ref a_t_asideF, .ref a_t_saved, .ref a_t_savedF, .int t_isSaved, .ref a_t_past, .ref a_t_pastF, .int t_pastMany, .int t_boiled, .int t_thrown, .ref a_t_refused, .ref a_t_text, .int t_length, .int t_error, .ref a_t_signs, .ref a_t_numbers, .int t_tokens, .int t_spoons, .int t_mostSpoons, .ref a_t_row, .ref a_t_isBrothOn, .ref a_t_dramsOn, .ref a_t_brothOn, .int t_cause, .int t_causeDetail, .ref a_t_lowOn, .ref a_t_highOn, .ref a_t_lowStored, .ref a_t_highStored, .ref a_t_isBrothStored, .int t_storeMany, .ref a_t_step, .ref a_t_stepF, .ref a_t_line, .int t_lineMany])), (a_t_isBrothOn, .inl (cT 1, 6, .inl (upd t_isBrothOn p2.toNatClampNeg (vp_nar .boolean s2_86)))), (a_t_brothOn, .inl (cT 4, 6, .inr (.inr (.inl t_brothOn_86)))), (a_t_dramsOn, .inl (cT 3, 6, .inr (.inl t_dramsOn_86)))] := hD
    refine lv_iconst (v := 0) hx hb dX12_casts_87 (by decide) ?_
    have ho := Option.some.inj h
    rw [hQ]
    exact W.zret (ty := .boolean) (v := 0) hx hb hr rfl (fun t ht hW => ⟨⟨0, (), rfl, by rw [← ho], by show va_P (dC, dI) vwCl _ t.heap; rw [ht, ← ho]; exact hP⟩, hS.F ht⟩) hS.2.2 dX12_casts_88
  have wB_70 : ∀ (t_brothOn_70 : Nat → UInt32) (t_dramsOn_70 : Nat → Int64) (H : Heap) (locs : List Loc) (ls : Array Slot), g_X12_casts_b70 t_cause t_causeDetail t_isBrothOn p1 p2 t_brothOn_70 t_dramsOn_70 = some o → va_P (dC, dI) vwCl [(a_t, .inr (15, [.ref a_t_s, .ref a_t_f, .ref a_t_before, .ref a_t_beforeF, .ref a_t_aside, .ref a_t_asideF, .ref a_t_saved, .ref a_t_savedF, .int t_isSaved, .ref a_t_past, .ref a_t_pastF, .int t_pastMany, .int t_boiled, .int t_thrown, .ref a_t_refused, .ref a_t_text, .int t_length, .int t_error, .ref a_t_signs, .ref a_t_numbers, .int t_tokens, .int t_spoons, .int t_mostSpoons, .ref a_t_row, .ref a_t_isBrothOn, .ref a_t_dramsOn, .ref a_t_brothOn, .int t_cause, .int t_causeDetail, .ref a_t_lowOn, .ref a_t_highOn, .ref a_t_lowStored, .ref a_t_highStored, .ref a_t_isBrothStored, .int t_storeMany, .ref a_t_step, .ref a_t_stepF, .ref a_t_line, .int t_lineMany])), (a_t_isBrothOn, .inl (cT 1, 6, .inl t_isBrothOn)), (a_t_brothOn, .inl (cT 4, 6, .inr (.inr (.inl t_brothOn_70)))), (a_t_dramsOn, .inl (cT 3, 6, .inr (.inl t_dramsOn_70)))] H → va_D A [(a_t, .inr (15, [.ref a_t_s, .ref a_t_f, .ref a_t_before, .ref a_t_beforeF, .ref a_t_aside, .ref a_t_asideF, .ref a_t_saved, .ref a_t_savedF, .int t_isSaved, .ref a_t_past, .ref a_t_pastF, .int t_pastMany, .int t_boiled, .int t_thrown, .ref a_t_refused, .ref a_t_text, .int t_length, .int t_error, .ref a_t_signs, .ref a_t_numbers, .int t_tokens, .int t_spoons, .int t_mostSpoons, .ref a_t_row, .ref a_t_isBrothOn, .ref a_t_dramsOn, .ref a_t_brothOn, .int t_cause, .int t_causeDetail, .ref a_t_lowOn, .ref a_t_highOn, .ref a_t_lowStored, .ref a_t_highStored, .ref a_t_isBrothStored, .int t_storeMany, .ref a_t_step, .ref a_t_stepF, .ref a_t_line, .int t_lineMany])), (a_t_isBrothOn, .inl (cT 1, 6, .inl t_isBrothOn)), (a_t_brothOn, .inl (cT 4, 6, .inr (.inr (.inl t_brothOn_70)))), (a_t_dramsOn, .inl (cT 3, 6, .inr (.inl t_dramsOn_70)))] → va_S A s.heap H locs → lv_has ls 3 [(0, .ref a_t), (1, .int p1), (2, .int p2)] → W p l e ({ frames := 2, cells := 0, slots := 0, locals := 41 } : Room) s m [.ref a_t, .int p1, .int p2].toArray below meth c H locs 0 0 Q (F0 m 70 ls []) := by
    intro t_brothOn_70 t_dramsOn_70 H locs ls h hP hD hS hl
    unfold g_X12_casts_b70 at h
    refine lv_aload_n hx hb dX12_casts_70 rfl (lv_at hl 0 rfl) ?_
    refine va_get (D := (dC, dI)) (ci := 15) (v := .ref a_t_isBrothOn) (C := RX12) (T := TX12) (N := 39) hx hb hta inX12w hown hK hP 0 rfl rfl 24 (by decide) (hta _ lk_X12_61) (fun _ h9 => h9) rfl dX12_casts_71 ?_
    refine lv_iload_n hx hb dX12_casts_74 rfl (lv_at hl 2 rfl) ?_
    refine lv_iload_n hx hb dX12_casts_75 rfl (lv_at hl 1 rfl) ?_
    refine lv_bipush (v := 126) hx hb dX12_casts_76 (by decide) ?_
    refine lv_icmp_ne (tgt := 85) hx hb dX12_casts_78 (by decide) (fun c0 => ?_) (fun c0 => ?_)
    · have h := (if_neg c0).symm.trans h
      refine lv_iconst (v := 0) hx hb dX12_casts_85 (by decide) ?_
      exact wB_86 t_brothOn_70 t_dramsOn_70 0 _ _ _ h hP hD hS (lv_sub hl [] rfl)
    · have h := (if_pos c0).symm.trans h
      refine lv_iconst (v := 1) hx hb dX12_casts_81 (by decide) ?_
      refine lv_goto (tgt := 86) hx hb dX12_casts_82 (by decide) ?_
      exact wB_86 t_brothOn_70 t_dramsOn_70 1 _ _ _ h hP hD hS (lv_sub hl [] rfl)
  have wB_17 : ∀ (s0_17 : Int32) (s1_17 : Int32) (H : Heap) (locs : List Loc) (ls : Array Slot), g_X12_casts_b17 t_cause t_causeDetail t_isBrothOn t_brothOn t_dramsOn p1 p2 s0_17 s1_17 = some o → va_P (dC, dI) vwCl [(a_t, .inr (15, [.ref a_t_s, .ref a_t_f, .ref a_t_before, .ref a_t_beforeF, .ref a_t_aside, .ref a_t_asideF, .ref a_t_saved, .ref a_t_savedF, .int t_isSaved, .ref a_t_past, .ref a_t_pastF, .int t_pastMany, .int t_boiled, .int t_thrown, .ref a_t_refused, .ref a_t_text, .int t_length, .int t_error, .ref a_t_signs, .ref a_t_numbers, .int t_tokens, .int t_spoons, .int t_mostSpoons, .ref a_t_row, .ref a_t_isBrothOn, .ref a_t_dramsOn, .ref a_t_brothOn, .int t_cause, .int t_causeDetail, .ref a_t_lowOn, .ref a_t_highOn, .ref a_t_lowStored, .ref a_t_highStored, .ref a_t_isBrothStored, .int t_storeMany, .ref a_t_step, .ref a_t_stepF, .ref a_t_line, .int t_lineMany])), (a_t_isBrothOn, .inl (cT 1, 6, .inl t_isBrothOn)), (a_t_brothOn, .inl (cT 4, 6, .inr (.inr (.inl t_brothOn)))), (a_t_dramsOn, .inl (cT 3, 6, .inr (.inl t_dramsOn)))] H → va_D A [(a_t, .inr (15, [.ref a_t_s, .ref a_t_f, .ref a_t_before, .ref a_t_beforeF, .ref a_t_aside, .ref a_t_asideF, .ref a_t_saved, .ref a_t_savedF, .int t_isSaved, .ref a_t_past, .ref a_t_pastF, .int t_pastMany, .int t_boiled, .int t_thrown, .ref a_t_refused, .ref a_t_text, .int t_length, .int t_error, .ref a_t_signs, .ref a_t_numbers, .int t_tokens, .int t_spoons, .int t_mostSpoons, .ref a_t_row, .ref a_t_isBrothOn, .ref a_t_dramsOn, .ref a_t_brothOn, .int t_cause, .int t_causeDetail, .ref a_t_lowOn, .ref a_t_highOn, .ref a_t_lowStored, .ref a_t_highStored, .ref a_t_isBrothStored, .int t_storeMany, .ref a_t_step, .ref a_t_stepF, .ref a_t_line, .int t_lineMany])), (a_t_isBrothOn, .inl (cT 1, 6, .inl t_isBrothOn)), (a_t_brothOn, .inl (cT 4, 6, .inr (.inr (.inl t_brothOn)))), (a_t_dramsOn, .inl (cT 3, 6, .inr (.inl t_dramsOn)))] → va_S A s.heap H locs → lv_has ls 3 [(0, .ref a_t), (1, .int p1), (2, .int p2)] → W p l e ({ frames := 2, cells := 0, slots := 0, locals := 41 } : Room) s m [.ref a_t, .int p1, .int p2].toArray below meth c H locs 0 0 Q (F0 m 17 ls [.int s1_17, .int s0_17]) := by
    intro s0_17 s1_17 H locs ls h hP hD hS hl
    unfold g_X12_casts_b17 at h
    refine lv_icmp_eq (tgt := 28) hx hb dX12_casts_17 (by decide) (fun c0 => ?_) (fun c0 => ?_)
    · have h := (if_pos c0).symm.trans h
      refine lv_iload_n hx hb dX12_casts_28 rfl (lv_at hl 1 rfl) ?_
      refine lv_bipush (v := 33) hx hb dX12_casts_29 (by decide) ?_
      refine lv_icmp_ne (tgt := 53) hx hb dX12_casts_31 (by decide) (fun c0 => ?_) (fun c0 => ?_)
      · have h := (if_neg c0).symm.trans h
        refine lv_aload_n hx hb dX12_casts_53 rfl (lv_at hl 0 rfl) ?_
        refine va_get (D := (dC, dI)) (ci := 15) (v := .ref a_t_brothOn) (C := RX12) (T := TX12) (N := 39) hx hb hta inX12w hown hK hP 0 rfl rfl 26 (by decide) (hta _ lk_X12_69) (fun _ h9 => h9) rfl dX12_casts_54 ?_
        refine lv_iload_n hx hb dX12_casts_57 rfl (lv_at hl 2 rfl) ?_
        refine lv_aload_n hx hb dX12_casts_58 rfl (lv_at hl 0 rfl) ?_
        refine va_get (D := (dC, dI)) (ci := 15) (v := .ref a_t_dramsOn) (C := RX12) (T := TX12) (N := 39) hx hb hta inX12w hown hK hP 0 rfl rfl 25 (by decide) (hta _ lk_X12_65) (fun _ h9 => h9) rfl dX12_casts_59 ?_
        refine lv_iload_n hx hb dX12_casts_62 rfl (lv_at hl 2 rfl) ?_
        obtain ⟨hc, h⟩ := gc_some h
        refine va_lald hx hb hK hP 3 3 rfl rfl (inb_in hc) dX12_casts_63 ?_
        refine lv_l2i hx hb dX12_casts_64 rfl ?_
        refine lv_i2f hx hb dX12_casts_65 ?_
        obtain ⟨r1, hq, h⟩ := gb_some h
        refine crF (va_runS (As := [.float (FP.i2f ((t_dramsOn p2.toNatClampNeg).toInt32))]) (rest := [.int p2, .ref a_t_brothOn]) ⟨hx, hb, hml, hown, hta⟩ (c_X12_held l dC dI cT hq) (cS hta lm_X12_244 md_X12_held ⟨(Nat.le_of_ble_eq_true rfl), (Nat.le_of_ble_eq_true rfl)⟩) ⟨fbK, fun U hU hW => ⟨rfl, hU, va_K.moved hW.alike hK⟩⟩ rfl rfl hl.1 rfl (lv_room (Nat.le_of_ble_eq_true rfl)) dX12_casts_66 ⟨(Nat.le_of_ble_eq_true rfl), (Nat.le_of_ble_eq_true rfl)⟩) hS hA (fun locs hS => ?_)
        obtain ⟨hc, h⟩ := gc_some h
        refine va_fast hx hb hK hP hD hS 2 4 rfl rfl (inb_in hc) dX12_casts_69 (fun H locs hP hD hS => ?_)
        have hP : va_P (dC, dI) vwCl [(a_t, .inr (15, [.ref a_t_s, .ref a_t_f, .ref a_t_before, .ref a_t_beforeF, .ref a_t_aside, .ref a_t_asideF, .ref a_t_saved, .ref a_t_savedF, .int t_isSaved, .ref a_t_past, .ref a_t_pastF, .int t_pastMany, .int t_boiled, .int t_thrown, .ref a_t_refused, .ref a_t_text, .int t_length, .int t_error, .ref a_t_signs, .ref a_t_numbers, .int t_tokens, .int t_spoons, .int t_mostSpoons, .ref a_t_row, .ref a_t_isBrothOn, .ref a_t_dramsOn, .ref a_t_brothOn, .int t_cause, .int t_causeDetail, .ref a_t_lowOn, .ref a_t_highOn, .ref a_t_lowStored, .ref a_t_highStored, .ref a_t_isBrothStored, .int t_storeMany, .ref a_t_step, .ref a_t_stepF, .ref a_t_line, .int t_lineMany])), (a_t_isBrothOn, .inl (cT 1, 6, .inl t_isBrothOn)), (a_t_brothOn, .inl (cT 4, 6, .inr (.inr (.inl (vf_upd t_brothOn p2.toNatClampNeg r1))))), (a_t_dramsOn, .inl (cT 3, 6, .inr (.inl t_dramsOn)))] H := hP
        have hD : va_D A [(a_t, .inr (15, [.ref a_t_s, .ref a_t_f, .ref a_t_before, .ref a_t_beforeF, .ref a_t_aside, .ref a_t_asideF, .ref a_t_saved, .ref a_t_savedF, .int t_isSaved, .ref a_t_past, .ref a_t_pastF, .int t_pastMany, .int t_boiled, .int t_thrown, .ref a_t_refused, .ref a_t_text, .int t_length, .int t_error, .ref a_t_signs, .ref a_t_numbers, .int t_tokens, .int t_spoons, .int t_mostSpoons, .ref a_t_row, .ref a_t_isBrothOn, .ref a_t_dramsOn, .ref a_t_brothOn, .int t_cause, .int t_causeDetail, .ref a_t_lowOn, .ref a_t_highOn, .ref a_t_lowStored, .ref a_t_highStored, .ref a_t_isBrothStored, .int t_storeMany, .ref a_t_step, .ref a_t_stepF, .ref a_t_line, .int t_lineMany])), (a_t_isBrothOn, .inl (cT 1, 6, .inl t_isBrothOn)), (a_t_brothOn, .inl (cT 4, 6, .inr (.inr (.inl (vf_upd t_brothOn p2.toNatClampNeg r1))))), (a_t_dramsOn, .inl (cT 3, 6, .inr (.inl t_dramsOn)))] := hD
        exact wB_70 (vf_upd t_brothOn p2.toNatClampNeg r1) t_dramsOn _ _ _ h hP hD hS (lv_sub hl [0, 1, 2] rfl)
      · have h := (if_pos c0).symm.trans h
        refine lv_aload_n hx hb dX12_casts_34 rfl (lv_at hl 0 rfl) ?_
        refine va_get (D := (dC, dI)) (ci := 15) (v := .ref a_t_dramsOn) (C := RX12) (T := TX12) (N := 39) hx hb hta inX12w hown hK hP 0 rfl rfl 25 (by decide) (hta _ lk_X12_65) (fun _ h9 => h9) rfl dX12_casts_35 ?_
        refine lv_iload_n hx hb dX12_casts_38 rfl (lv_at hl 2 rfl) ?_
        refine lv_aload_n hx hb dX12_casts_39 rfl (lv_at hl 0 rfl) ?_
        refine va_get (D := (dC, dI)) (ci := 15) (v := .ref a_t_brothOn) (C := RX12) (T := TX12) (N := 39) hx hb hta inX12w hown hK hP 0 rfl rfl 26 (by decide) (hta _ lk_X12_69) (fun _ h9 => h9) rfl dX12_casts_40 ?_
        refine lv_iload_n hx hb dX12_casts_43 rfl (lv_at hl 2 rfl) ?_
        obtain ⟨hc, h⟩ := gc_some h
        refine va_fald hx hb hK hP 2 4 rfl rfl (inb_in hc) dX12_casts_44 ?_
        obtain ⟨r2, hq, h⟩ := gb_some h
        refine crI (va_runS (As := [.float (t_brothOn p2.toNatClampNeg)]) (rest := [.int p2, .ref a_t_dramsOn]) ⟨hx, hb, hml, hown, hta⟩ (c_X12_cut l dC dI cT hq) (cS hta lm_X12_254 md_X12_cut ⟨(Nat.le_of_ble_eq_true rfl), (Nat.le_of_ble_eq_true rfl)⟩) ⟨fbK, fun U hU hW => ⟨rfl, hU, va_K.moved hW.alike hK⟩⟩ rfl rfl hl.1 rfl (lv_room (Nat.le_of_ble_eq_true rfl)) dX12_casts_45 ⟨(Nat.le_of_ble_eq_true rfl), (Nat.le_of_ble_eq_true rfl)⟩) hS hA (fun locs hS => ?_)
        refine lv_i2l hx hb dX12_casts_48 rfl ?_
        obtain ⟨hc, h⟩ := gc_some h
        refine va_last hx hb hK hP hD hS 3 3 rfl rfl (inb_in hc) dX12_casts_49 (fun H locs hP hD hS => ?_)
        have hP : va_P (dC, dI) vwCl [(a_t, .inr (15, [.ref a_t_s, .ref a_t_f, .ref a_t_before, .ref a_t_beforeF, .ref a_t_aside, .ref a_t_asideF, .ref a_t_saved, .ref a_t_savedF, .int t_isSaved, .ref a_t_past, .ref a_t_pastF, .int t_pastMany, .int t_boiled, .int t_thrown, .ref a_t_refused, .ref a_t_text, .int t_length, .int t_error, .ref a_t_signs, .ref a_t_numbers, .int t_tokens, .int t_spoons, .int t_mostSpoons, .ref a_t_row, .ref a_t_isBrothOn, .ref a_t_dramsOn, .ref a_t_brothOn, .int t_cause, .int t_causeDetail, .ref a_t_lowOn, .ref a_t_highOn, .ref a_t_lowStored, .ref a_t_highStored, .ref a_t_isBrothStored, .int t_storeMany, .ref a_t_step, .ref a_t_stepF, .ref a_t_line, .int t_lineMany])), (a_t_isBrothOn, .inl (cT 1, 6, .inl t_isBrothOn)), (a_t_brothOn, .inl (cT 4, 6, .inr (.inr (.inl t_brothOn)))), (a_t_dramsOn, .inl (cT 3, 6, .inr (.inl (vp_updL t_dramsOn p2.toNatClampNeg r2.toInt64))))] H := hP
        have hD : va_D A [(a_t, .inr (15, [.ref a_t_s, .ref a_t_f, .ref a_t_before, .ref a_t_beforeF, .ref a_t_aside, .ref a_t_asideF, .ref a_t_saved, .ref a_t_savedF, .int t_isSaved, .ref a_t_past, .ref a_t_pastF, .int t_pastMany, .int t_boiled, .int t_thrown, .ref a_t_refused, .ref a_t_text, .int t_length, .int t_error, .ref a_t_signs, .ref a_t_numbers, .int t_tokens, .int t_spoons, .int t_mostSpoons, .ref a_t_row, .ref a_t_isBrothOn, .ref a_t_dramsOn, .ref a_t_brothOn, .int t_cause, .int t_causeDetail, .ref a_t_lowOn, .ref a_t_highOn, .ref a_t_lowStored, .ref a_t_highStored, .ref a_t_isBrothStored, .int t_storeMany, .ref a_t_step, .ref a_t_stepF, .ref a_t_line, .int t_lineMany])), (a_t_isBrothOn, .inl (cT 1, 6, .inl t_isBrothOn)), (a_t_brothOn, .inl (cT 4, 6, .inr (.inr (.inl t_brothOn)))), (a_t_dramsOn, .inl (cT 3, 6, .inr (.inl (vp_updL t_dramsOn p2.toNatClampNeg r2.toInt64))))] := hD
        refine lv_goto (tgt := 70) hx hb dX12_casts_50 (by decide) ?_
        exact wB_70 t_brothOn (vp_updL t_dramsOn p2.toNatClampNeg r2.toInt64) _ _ _ h hP hD hS (lv_sub hl [0, 1, 2] rfl)
    · have h := (if_neg c0).symm.trans h
      refine lv_aload_n hx hb dX12_casts_20 rfl (lv_at hl 0 rfl) ?_
      refine lv_bipush (v := 7) hx hb dX12_casts_21 (by decide) ?_
      refine lv_iconst (v := -1) hx hb dX12_casts_23 (by decide) ?_
      obtain ⟨r3, hq, h⟩ := gb_some h
      refine cxI (X2 := [(a_t, .inr (15, [.ref a_t_s, .ref a_t_f, .ref a_t_before, .ref a_t_beforeF, .ref a_t_aside, .ref a_t_asideF, .ref a_t_saved, .ref a_t_savedF, .int t_isSaved, .ref a_t_past, .ref a_t_pastF, .int t_pastMany, .int t_boiled, .int t_thrown, .ref a_t_refused, .ref a_t_text, .int t_length, .int t_error, .ref a_t_signs, .ref a_t_numbers, .int t_tokens, .int t_spoons, .int t_mostSpoons, .ref a_t_row, .ref a_t_isBrothOn, .ref a_t_dramsOn, .ref a_t_brothOn, .int r3.2.1, .int r3.2.2, .ref a_t_lowOn, .ref a_t_highOn, .ref a_t_lowStored, .ref a_t_highStored, .ref a_t_isBrothStored, .int t_storeMany, .ref a_t_step, .ref a_t_stepF, .ref a_t_line, .int t_lineMany])), (a_t_isBrothOn, .inl (cT 1, 6, .inl t_isBrothOn)), (a_t_brothOn, .inl (cT 4, 6, .inr (.inr (.inl t_brothOn)))), (a_t_dramsOn, .inl (cT 3, 6, .inr (.inl t_dramsOn)))]) (va_runV (As := [.int 7, .int (-1)]) (rest := []) ⟨hx, hb, hml, hown, hta⟩ (c_X12_boilsBy l dC dI cT rfl hq (hP.sub (ws' := [(a_t, .inr (15, [.ref a_t_s, .ref a_t_f, .ref a_t_before, .ref a_t_beforeF, .ref a_t_aside, .ref a_t_asideF, .ref a_t_saved, .ref a_t_savedF, .int t_isSaved, .ref a_t_past, .ref a_t_pastF, .int t_pastMany, .int t_boiled, .int t_thrown, .ref a_t_refused, .ref a_t_text, .int t_length, .int t_error, .ref a_t_signs, .ref a_t_numbers, .int t_tokens, .int t_spoons, .int t_mostSpoons, .ref a_t_row, .ref a_t_isBrothOn, .ref a_t_dramsOn, .ref a_t_brothOn, .int t_cause, .int t_causeDetail, .ref a_t_lowOn, .ref a_t_highOn, .ref a_t_lowStored, .ref a_t_highStored, .ref a_t_isBrothStored, .int t_storeMany, .ref a_t_step, .ref a_t_stepF, .ref a_t_line, .int t_lineMany]))]) [0] rfl) (ds hD [0] (by decide) rfl)) (cV hta lm_X12_241 md_X12_boilsBy ⟨(Nat.le_of_ble_eq_true rfl), (Nat.le_of_ble_eq_true rfl)⟩) ⟨fbK, va_recv hK hP (ci := 15) (q0 := 0) rfl rfl, fun U hU hW => ⟨rfl, hU, va_K.moved hW.alike hK⟩⟩ rfl rfl hl.1 rfl (lv_room (Nat.le_of_ble_eq_true rfl)) dX12_casts_24 ⟨(Nat.le_of_ble_eq_true rfl), (Nat.le_of_ble_eq_true rfl)⟩) hS hA hP hD [0] rfl [.inl 0, .inr 1, .inr 2, .inr 3] rfl rfl rfl (fun H locs hP hD hS => ?_)
      obtain ⟨hc, h⟩ := gc_some h
      have ho := Option.some.inj h
      rw [hQ]
      exact W.zret (ty := .boolean) (v := r3.1) hx hb hr (bo_n hc) (fun t ht hW => ⟨⟨r3.1, (), rfl, by rw [← ho], by show va_P (dC, dI) vwCl _ t.heap; rw [ht, ← ho]; exact hP⟩, hS.F ht⟩) hS.2.2 dX12_casts_27
  unfold g_X12_casts at h
  refine lv_aload_n hx hb dX12_casts_0 rfl (lv_at hl 0 rfl) ?_
  refine va_get (D := (dC, dI)) (ci := 15) (v := .ref a_t_isBrothOn) (C := RX12) (T := TX12) (N := 39) hx hb hta inX12w hown hK hP 0 rfl rfl 24 (by decide) (hta _ lk_X12_61) (fun _ h9 => h9) rfl dX12_casts_1 ?_
  refine lv_iload_n hx hb dX12_casts_4 rfl (lv_at hl 2 rfl) ?_
  obtain ⟨hc, h⟩ := gc_some h
  refine va_zald hx hb hK hP 1 1 rfl rfl (inb_in hc) dX12_casts_5 ?_
  refine lv_iload_n hx hb dX12_casts_6 rfl (lv_at hl 1 rfl) ?_
  refine lv_bipush (v := 33) hx hb dX12_casts_7 (by decide) ?_
  refine lv_icmp_ne (tgt := 16) hx hb dX12_casts_9 (by decide) (fun c0 => ?_) (fun c0 => ?_)
  · have h := (if_neg c0).symm.trans h
    refine lv_iconst (v := 0) hx hb dX12_casts_16 (by decide) ?_
    exact wB_17 (t_isBrothOn p2.toNatClampNeg) 0 _ _ _ h hP hD hS (lv_sub hl [0, 1, 2] rfl)
  · have h := (if_pos c0).symm.trans h
    refine lv_iconst (v := 1) hx hb dX12_casts_12 (by decide) ?_
    refine lv_goto (tgt := 17) hx hb dX12_casts_13 (by decide) ?_
    exact wB_17 (t_isBrothOn p2.toNatClampNeg) 1 _ _ _ h hP hD hS (lv_sub hl [0, 1, 2] rfl)
set_option maxHeartbeats 4000000 in
set_option maxRecDepth 100000 in
theorem c_X12_stores (l : Launch) (dC : Nat → ClassId) (dI : Nat → Nat → Nat) (cT : Nat → ClassId) {Hh : Heap} {a_t : Nat} {a_t_isBrothOn : Nat} {a_t_s : Nat} {a_t_dramsOn : Nat} {a_t_f : Nat} {a_t_brothOn : Nat} {a_t_before : Nat} {a_t_beforeF : Nat} {a_t_aside : Nat} {a_t_asideF : Nat} {a_t_saved : Nat} {a_t_savedF : Nat} {a_t_past : Nat} {a_t_pastF : Nat} {a_t_refused : Nat} {a_t_text : Nat} {a_t_signs : Nat} {a_t_numbers : Nat} {a_t_row : Nat} {a_t_lowOn : Nat} {a_t_highOn : Nat} {a_t_lowStored : Nat} {a_t_highStored : Nat} {a_t_isBrothStored : Nat} {a_t_step : Nat} {a_t_stepF : Nat} {a_t_line : Nat} {t_cause : Int32} {t_causeDetail : Int32} {t_isBrothOn : Nat → Int32} {t_s : Nat → Int32} {t_dramsOn : Nat → Int64} {t_f : Nat → UInt32} {t_brothOn : Nat → UInt32} {p1 : Int32} {p2 : Int32} {t_isSaved : Int32} {t_pastMany : Int32} {t_boiled : Int32} {t_thrown : Int32} {t_length : Int32} {t_error : Int32} {t_tokens : Int32} {t_spoons : Int32} {t_mostSpoons : Int32} {t_storeMany : Int32} {t_lineMany : Int32} {XW : va_W} (eX : XW = [(a_t, .inr (15, [.ref a_t_s, .ref a_t_f, .ref a_t_before, .ref a_t_beforeF, .ref a_t_aside, .ref a_t_asideF, .ref a_t_saved, .ref a_t_savedF, .int t_isSaved, .ref a_t_past, .ref a_t_pastF, .int t_pastMany, .int t_boiled, .int t_thrown, .ref a_t_refused, .ref a_t_text, .int t_length, .int t_error, .ref a_t_signs, .ref a_t_numbers, .int t_tokens, .int t_spoons, .int t_mostSpoons, .ref a_t_row, .ref a_t_isBrothOn, .ref a_t_dramsOn, .ref a_t_brothOn, .int t_cause, .int t_causeDetail, .ref a_t_lowOn, .ref a_t_highOn, .ref a_t_lowStored, .ref a_t_highStored, .ref a_t_isBrothStored, .int t_storeMany, .ref a_t_step, .ref a_t_stepF, .ref a_t_line, .int t_lineMany])), (a_t_s, .inl (cT 0, 282, .inl t_s)), (a_t_f, .inl (cT 4, 6, .inr (.inr (.inl t_f))))]) {o : Int32 × Int32 × Int32 × (Nat → Int32) × (Nat → UInt32)} (h : g_X12_stores t_cause t_causeDetail t_isBrothOn t_s t_dramsOn t_f t_brothOn p1 p2 = some o) (hP0 : va_P (dC, dI) vwCl XW Hh) (hR0 : va_P (dC, dI) vwCl [(a_t_isBrothOn, .inl (cT 1, 6, .inl t_isBrothOn)), (a_t_dramsOn, .inl (cT 3, 6, .inr (.inl t_dramsOn))), (a_t_brothOn, .inl (cT 4, 6, .inr (.inr (.inl t_brothOn))))] Hh) (hD0 : va_D (fun _ => True) XW) (hN0 : ∀ (k : Nat) (q : Nat × va_E), ([(a_t_isBrothOn, .inl (cT 1, 6, .inl t_isBrothOn)), (a_t_dramsOn, .inl (cT 3, 6, .inr (.inl t_dramsOn))), (a_t_brothOn, .inl (cT 4, 6, .inr (.inr (.inl t_brothOn))))] : va_W)[k]? = some q → ¬ va_A XW Hh.size q.1) : Met l yX12_stores (wA yX12_stores cX12_stores 3 (some .boolean)) ({ frames := 2, cells := 0, slots := 0, locals := 48 } : Room) (PK dC dI cT [.ref a_t, .int p1, .int p2] Hh) (va_Qi (fun x (_ : Unit) => x = o.1) (fun _ t => va_P (dC, dI) vwCl [(a_t, .inr (15, [.ref a_t_s, .ref a_t_f, .ref a_t_before, .ref a_t_beforeF, .ref a_t_aside, .ref a_t_asideF, .ref a_t_saved, .ref a_t_savedF, .int t_isSaved, .ref a_t_past, .ref a_t_pastF, .int t_pastMany, .int t_boiled, .int t_thrown, .ref a_t_refused, .ref a_t_text, .int t_length, .int t_error, .ref a_t_signs, .ref a_t_numbers, .int t_tokens, .int t_spoons, .int t_mostSpoons, .ref a_t_row, .ref a_t_isBrothOn, .ref a_t_dramsOn, .ref a_t_brothOn, .int o.2.1, .int o.2.2.1, .ref a_t_lowOn, .ref a_t_highOn, .ref a_t_lowStored, .ref a_t_highStored, .ref a_t_isBrothStored, .int t_storeMany, .ref a_t_step, .ref a_t_stepF, .ref a_t_line, .int t_lineMany])), (a_t_s, .inl (cT 0, 282, .inl o.2.2.2.1)), (a_t_f, .inl (cT 4, 6, .inr (.inr (.inl o.2.2.2.2))))] t.heap) (va_A XW Hh.size)) 0 0 (va_A XW Hh.size) := by
  subst eX
  refine Met.ofW (cc := cX12_stores) (maxL := 3) (ret := (some .boolean)) (by decide) rfl ?_
  intro p e s m args below meth c s₁ B hml hv
  obtain ⟨rfl, hH, hK⟩ := hv
  subst hH
  have hx := B.exec
  have hb := B.bytes
  have hr := B.returns
  have hta : ∀ w ∈ ALLW, w.before [.ref a_t, .int p1, .int p2].toArray s = true := fun w hw => atoms_spec (ws := wA yX12_stores cX12_stores 3 (some .boolean)) B.pre w (List.mem_cons_of_mem _ hw)
  have hown : s.vm.findClass RX12 = some m.cls := findClass_of_methodNamed B.named
  have hlocks := B.notSynchronized
  have hD := hD0.self (sz := s.heap.size)
  have hNA := hN0
  generalize hAe : va_A [(a_t, .inr (15, [.ref a_t_s, .ref a_t_f, .ref a_t_before, .ref a_t_beforeF, .ref a_t_aside, .ref a_t_asideF, .ref a_t_saved, .ref a_t_savedF, .int t_isSaved, .ref a_t_past, .ref a_t_pastF, .int t_pastMany, .int t_boiled, .int t_thrown, .ref a_t_refused, .ref a_t_text, .int t_length, .int t_error, .ref a_t_signs, .ref a_t_numbers, .int t_tokens, .int t_spoons, .int t_mostSpoons, .ref a_t_row, .ref a_t_isBrothOn, .ref a_t_dramsOn, .ref a_t_brothOn, .int t_cause, .int t_causeDetail, .ref a_t_lowOn, .ref a_t_highOn, .ref a_t_lowStored, .ref a_t_highStored, .ref a_t_isBrothStored, .int t_storeMany, .ref a_t_step, .ref a_t_stepF, .ref a_t_line, .int t_lineMany])), (a_t_s, .inl (cT 0, 282, .inl t_s)), (a_t_f, .inl (cT 4, 6, .inr (.inr (.inl t_f))))] s.heap.size = A at hD hNA ⊢
  have hP := hP0
  have hA : ∀ q : Nat, s.heap.size ≤ q → A q := fun q h => by rw [← hAe]; exact Or.inr h
  have hS : va_S A s.heap s.heap [] := va_S.rf
  have hl := lv_entry [.ref a_t, .int p1, .int p2] (n := 3) (Nat.le_of_ble_eq_true rfl)
  rw [lg_entry_eq]
  generalize (lg_sl [.ref a_t, .int p1, .int p2] ++ List.replicate (3 - (lg_sl [.ref a_t, .int p1, .int p2]).length) Slot.unset).toArray = ls at hl ⊢
  have hl : lv_has ls 3 [(0, .ref a_t), (1, .int p1), (2, .int p2)] := hl
  obtain ⟨Q, hQ⟩ : ∃ Q, Q = MQ below (va_Qi (fun x (_ : Unit) => x = o.1) (fun _ t => va_P (dC, dI) vwCl [(a_t, .inr (15, [.ref a_t_s, .ref a_t_f, .ref a_t_before, .ref a_t_beforeF, .ref a_t_aside, .ref a_t_asideF, .ref a_t_saved, .ref a_t_savedF, .int t_isSaved, .ref a_t_past, .ref a_t_pastF, .int t_pastMany, .int t_boiled, .int t_thrown, .ref a_t_refused, .ref a_t_text, .int t_length, .int t_error, .ref a_t_signs, .ref a_t_numbers, .int t_tokens, .int t_spoons, .int t_mostSpoons, .ref a_t_row, .ref a_t_isBrothOn, .ref a_t_dramsOn, .ref a_t_brothOn, .int o.2.1, .int o.2.2.1, .ref a_t_lowOn, .ref a_t_highOn, .ref a_t_lowStored, .ref a_t_highStored, .ref a_t_isBrothStored, .int t_storeMany, .ref a_t_step, .ref a_t_stepF, .ref a_t_line, .int t_lineMany])), (a_t_s, .inl (cT 0, 282, .inl o.2.2.2.1)), (a_t_f, .inl (cT 4, 6, .inr (.inr (.inl o.2.2.2.2))))] t.heap) A) [.ref a_t, .int p1, .int p2].toArray s 0 0 A := ⟨_, rfl⟩
  rw [← hQ]
  have wB_108 : ∀ (t_s_108 : Nat → Int32) (s2_108 : UInt32) (H : Heap) (locs : List Loc) (ls : Array Slot), g_X12_stores_b108 t_cause t_causeDetail t_f p1 t_s_108 s2_108 = some o → va_P (dC, dI) vwCl [(a_t, .inr (15, [.ref a_t_s, .ref a_t_f, .ref a_t_before, .ref a_t_beforeF, .ref a_t_aside, .ref a_t_asideF, .ref a_t_saved, .ref a_t_savedF, .int t_isSaved, .ref a_t_past, .ref a_t_pastF, .int t_pastMany, .int t_boiled, .int t_thrown, .ref a_t_refused, .ref a_t_text, .int t_length, .int t_error, .ref a_t_signs, .ref a_t_numbers, .int t_tokens, .int t_spoons, .int t_mostSpoons, .ref a_t_row, .ref a_t_isBrothOn, .ref a_t_dramsOn, .ref a_t_brothOn, .int t_cause, .int t_causeDetail, .ref a_t_lowOn, .ref a_t_highOn, .ref a_t_lowStored, .ref a_t_highStored, .ref a_t_isBrothStored, .int t_storeMany, .ref a_t_step, .ref a_t_stepF, .ref a_t_line, .int t_lineMany])), (a_t_s, .inl (cT 0, 282, .inl t_s_108)), (a_t_f, .inl (cT 4, 6, .inr (.inr (.inl t_f))))] H → va_D A [(a_t, .inr (15, [.ref a_t_s, .ref a_t_f, .ref a_t_before, .ref a_t_beforeF, .ref a_t_aside, .ref a_t_asideF, .ref a_t_saved, .ref a_t_savedF, .int t_isSaved, .ref a_t_past, .ref a_t_pastF, .int t_pastMany, .int t_boiled, .int t_thrown, .ref a_t_refused, .ref a_t_text, .int t_length, .int t_error, .ref a_t_signs, .ref a_t_numbers, .int t_tokens, .int t_spoons, .int t_mostSpoons, .ref a_t_row, .ref a_t_isBrothOn, .ref a_t_dramsOn, .ref a_t_brothOn, .int t_cause, .int t_causeDetail, .ref a_t_lowOn, .ref a_t_highOn, .ref a_t_lowStored, .ref a_t_highStored, .ref a_t_isBrothStored, .int t_storeMany, .ref a_t_step, .ref a_t_stepF, .ref a_t_line, .int t_lineMany])), (a_t_s, .inl (cT 0, 282, .inl t_s_108)), (a_t_f, .inl (cT 4, 6, .inr (.inr (.inl t_f))))] → va_S A s.heap H locs → lv_has ls 3 [(0, .ref a_t), (1, .int p1)] → W p l e ({ frames := 2, cells := 0, slots := 0, locals := 48 } : Room) s m [.ref a_t, .int p1, .int p2].toArray below meth c H locs 0 0 Q (F0 m 108 ls [.float s2_108, .int p1, .ref a_t_f]) := by
    intro t_s_108 s2_108 H locs ls h hP hD hS hl
    unfold g_X12_stores_b108 at h
    obtain ⟨hc, h⟩ := gc_some h
    refine va_fast hx hb hK hP hD hS 2 4 rfl rfl (inb_in hc) dX12_stores_108 (fun H locs hP hD hS => ?_)
    have hP : va_P (dC, dI) vwCl [(a_t, .inr (15, [.ref a_t_s, .ref a_t_f, .ref a_t_before, .ref a_t_beforeF, .ref a_t_aside, .ref a_t_asideF, .ref a_t_saved, .ref a_t_savedF, .int t_isSaved, .ref a_t_past, .ref a_t_pastF, .int t_pastMany, .int t_boiled, .int t_thrown, .ref a_t_refused, .ref a_t_text, .int t_length, .int t_error, .ref a_t_signs, .ref a_t_numbers, .int t_tokens, .int t_spoons, .int t_mostSpoons, .ref a_t_row, .ref a_t_isBrothOn, .ref a_t_dramsOn, .ref a_t_brothOn, .int t_cause, .int t_causeDetail, .ref a_t_lowOn, .ref a_t_highOn, .ref a_t_lowStored, .ref a_t_highStored, .ref a_t_isBrothStored, .int t_storeMany, .ref a_t_step, .ref a_t_stepF, .ref a_t_line, .int t_lineMany])), (a_t_s, .inl (cT 0, 282, .inl t_s_108)), (a_t_f, .inl (cT 4, 6, .inr (.inr (.inl (vf_upd t_f p1.toNatClampNeg s2_108)))))] H := hP
    have hD : va_D A [(a_t, .inr (15, [.ref a_t_s, .ref a_t_f, .ref a_t_before, .ref a_t_beforeF, .ref a_t_aside, .ref a_t_asideF, .ref a_t_saved, .ref a_t_savedF, .int t_isSaved, .ref a_t_past, .ref a_t_pastF, .int t_pastMany, .int t_boiled, .int t_thrown, .ref a_t_refused, .ref a_t_text, .int t_length, .int t_error, .ref a_t_signs, .ref a_t_numbers, .int t_tokens, .int t_spoons, .int t_mostSpoons, .ref a_t_row, .ref a_t_isBrothOn, .ref a_t_dramsOn, .ref a_t_brothOn, .int t_cause, .int t_causeDetail, .ref a_t_lowOn, .ref a_t_highOn, .ref a_t_lowStored, .ref a_t_highStored, .ref a_t_isBrothStored, .int t_storeMany, .ref a_t_step, .ref a_t_stepF, .ref a_t_line, .int t_lineMany])), (a_t_s, .inl (cT 0, 282, .inl t_s_108)), (a_t_f, .inl (cT 4, 6, .inr (.inr (.inl (vf_upd t_f p1.toNatClampNeg s2_108)))))] := hD
    refine lv_aload_n hx hb dX12_stores_109 rfl (lv_at hl 0 rfl) ?_
    refine lv_iload_n hx hb dX12_stores_110 rfl (lv_at hl 1 rfl) ?_
    refine lv_iconst (v := 4) hx hb dX12_stores_111 (by decide) ?_
    refine lv_aload_n hx hb dX12_stores_112 rfl (lv_at hl 0 rfl) ?_
    refine lv_iload_n hx hb dX12_stores_113 rfl (lv_at hl 1 rfl) ?_
    refine lv_iconst (v := 4) hx hb dX12_stores_114 (by decide) ?_
    obtain ⟨r5, hq, h⟩ := gb_some h
    refine crI (va_runV (As := [.int p1, .int 4]) (rest := [.int 4, .int p1, .ref a_t]) ⟨hx, hb, hml, hown, hta⟩ (c_X12_of l dC dI cT hq (hP.sub (ws' := [(a_t, .inr (15, [.ref a_t_s, .ref a_t_f, .ref a_t_before, .ref a_t_beforeF, .ref a_t_aside, .ref a_t_asideF, .ref a_t_saved, .ref a_t_savedF, .int t_isSaved, .ref a_t_past, .ref a_t_pastF, .int t_pastMany, .int t_boiled, .int t_thrown, .ref a_t_refused, .ref a_t_text, .int t_length, .int t_error, .ref a_t_signs, .ref a_t_numbers, .int t_tokens, .int t_spoons, .int t_mostSpoons, .ref a_t_row, .ref a_t_isBrothOn, .ref a_t_dramsOn, .ref a_t_brothOn, .int t_cause, .int t_causeDetail, .ref a_t_lowOn, .ref a_t_highOn, .ref a_t_lowStored, .ref a_t_highStored, .ref a_t_isBrothStored, .int t_storeMany, .ref a_t_step, .ref a_t_stepF, .ref a_t_line, .int t_lineMany])), (a_t_s, .inl (cT 0, 282, .inl t_s_108))]) [0, 1] rfl)) (cV hta lm_X12_116 md_X12_of ⟨(Nat.le_of_ble_eq_true rfl), (Nat.le_of_ble_eq_true rfl)⟩) ⟨fbK, va_recv hK hP (ci := 15) (q0 := 0) rfl rfl, fun U hU hW => ⟨rfl, hU, va_K.moved hW.alike hK⟩⟩ rfl rfl hl.1 rfl (lv_room (Nat.le_of_ble_eq_true rfl)) dX12_stores_115 ⟨(Nat.le_of_ble_eq_true rfl), (Nat.le_of_ble_eq_true rfl)⟩) hS hA (fun locs hS => ?_)
    refine lv_iconst (v := 1) hx hb dX12_stores_118 (by decide) ?_
    refine lv_iadd hx hb dX12_stores_119 ?_
    obtain ⟨r6, hq, h⟩ := gb_some h
    refine cxV (X2 := [(a_t, .inr (15, [.ref a_t_s, .ref a_t_f, .ref a_t_before, .ref a_t_beforeF, .ref a_t_aside, .ref a_t_asideF, .ref a_t_saved, .ref a_t_savedF, .int t_isSaved, .ref a_t_past, .ref a_t_pastF, .int t_pastMany, .int t_boiled, .int t_thrown, .ref a_t_refused, .ref a_t_text, .int t_length, .int t_error, .ref a_t_signs, .ref a_t_numbers, .int t_tokens, .int t_spoons, .int t_mostSpoons, .ref a_t_row, .ref a_t_isBrothOn, .ref a_t_dramsOn, .ref a_t_brothOn, .int t_cause, .int t_causeDetail, .ref a_t_lowOn, .ref a_t_highOn, .ref a_t_lowStored, .ref a_t_highStored, .ref a_t_isBrothStored, .int t_storeMany, .ref a_t_step, .ref a_t_stepF, .ref a_t_line, .int t_lineMany])), (a_t_s, .inl (cT 0, 282, .inl r6)), (a_t_f, .inl (cT 4, 6, .inr (.inr (.inl (vf_upd t_f p1.toNatClampNeg s2_108)))))]) (va_runV (As := [.int p1, .int 4, .int (r5 + 1)]) (rest := []) ⟨hx, hb, hml, hown, hta⟩ (c_X12_sets l dC dI cT hq (hP.sub (ws' := [(a_t_s, .inl (cT 0, 282, .inl t_s_108))]) [1] rfl) (hP.sub (ws' := [(a_t, .inr (15, [.ref a_t_s, .ref a_t_f, .ref a_t_before, .ref a_t_beforeF, .ref a_t_aside, .ref a_t_asideF, .ref a_t_saved, .ref a_t_savedF, .int t_isSaved, .ref a_t_past, .ref a_t_pastF, .int t_pastMany, .int t_boiled, .int t_thrown, .ref a_t_refused, .ref a_t_text, .int t_length, .int t_error, .ref a_t_signs, .ref a_t_numbers, .int t_tokens, .int t_spoons, .int t_mostSpoons, .ref a_t_row, .ref a_t_isBrothOn, .ref a_t_dramsOn, .ref a_t_brothOn, .int t_cause, .int t_causeDetail, .ref a_t_lowOn, .ref a_t_highOn, .ref a_t_lowStored, .ref a_t_highStored, .ref a_t_isBrothStored, .int t_storeMany, .ref a_t_step, .ref a_t_stepF, .ref a_t_line, .int t_lineMany]))]) [0] rfl) (ds hD [1] (by decide) rfl) (nac hP hD [1] rfl (va_free hD hS hA [1] rfl) na_nil [.inr 0] rfl rfl)) (cV hta lm_X12_126 md_X12_sets ⟨(Nat.le_of_ble_eq_true rfl), (Nat.le_of_ble_eq_true rfl)⟩) ⟨fbK, va_recv hK hP (ci := 15) (q0 := 0) rfl rfl, fun U hU hW => ⟨rfl, hU, va_K.moved hW.alike hK⟩⟩ rfl rfl hl.1 rfl (lv_room (Nat.le_of_ble_eq_true rfl)) dX12_stores_120 ⟨(Nat.le_of_ble_eq_true rfl), (Nat.le_of_ble_eq_true rfl)⟩) hS hA hP hD [1] rfl [.inr 0, .inl 0, .inr 2] rfl rfl rfl (fun H locs hP hD hS => ?_)
    refine lv_aload_n hx hb dX12_stores_123 rfl (lv_at hl 0 rfl) ?_
    refine va_get (D := (dC, dI)) (ci := 15) (v := .ref a_t_s) (C := RX12) (T := TX12) (N := 39) hx hb hta inX12w hown hK hP 0 rfl rfl 0 (by decide) (hta _ lk_X12_9) (fun _ h9 => h9) rfl dX12_stores_124 ?_
    refine lv_iconst (v := 3) hx hb dX12_stores_127 (by decide) ?_
    refine lv_dup2_11 hx hb dX12_stores_128 rfl rfl ?_
    obtain ⟨hc, h⟩ := gc_some h
    refine va_iald hx hb hK hP 1 0 rfl rfl (inb_in hc) dX12_stores_129 ?_
    refine lv_iconst (v := 1) hx hb dX12_stores_130 (by decide) ?_
    refine lv_iadd hx hb dX12_stores_131 ?_
    obtain ⟨hc, h⟩ := gc_some h
    refine va_iast hx hb hK hP hD hS 1 0 rfl rfl (inb_in hc) dX12_stores_132 (fun H locs hP hD hS => ?_)
    have hP : va_P (dC, dI) vwCl [(a_t, .inr (15, [.ref a_t_s, .ref a_t_f, .ref a_t_before, .ref a_t_beforeF, .ref a_t_aside, .ref a_t_asideF, .ref a_t_saved, .ref a_t_savedF, .int t_isSaved, .ref a_t_past, .ref a_t_pastF, .int t_pastMany, .int t_boiled, .int t_thrown, .ref a_t_refused, .ref a_t_text, .int t_length, .int t_error, .ref a_t_signs, .ref a_t_numbers, .int t_tokens, .int t_spoons, .int t_mostSpoons, .ref a_t_row, .ref a_t_isBrothOn, .ref a_t_dramsOn, .ref a_t_brothOn, .int t_cause, .int t_causeDetail, .ref a_t_lowOn, .ref a_t_highOn, .ref a_t_lowStored, .ref a_t_highStored, .ref a_t_isBrothStored, .int t_storeMany, .ref a_t_step, .ref a_t_stepF, .ref a_t_line, .int t_lineMany])), (a_t_s, .inl (cT 0, 282, .inl (upd r6 (3 : Int32).toNatClampNeg ((r6 (3 : Int32).toNatClampNeg) + 1)))), (a_t_f, .inl (cT 4, 6, .inr (.inr (.inl (vf_upd t_f p1.toNatClampNeg s2_108)))))] H := hP
    have hD : va_D A [(a_t, .inr (15, [.ref a_t_s, .ref a_t_f, .ref a_t_before, .ref a_t_beforeF, .ref a_t_aside, .ref a_t_asideF, .ref a_t_saved, .ref a_t_savedF, .int t_isSaved, .ref a_t_past, .ref a_t_pastF, .int t_pastMany, .int t_boiled, .int t_thrown, .ref a_t_refused, .ref a_t_text, .int t_length, .int t_error, .ref a_t_signs, .ref a_t_numbers, .int t_tokens, .int t_spoons, .int t_mostSpoons, .ref a_t_row, .ref a_t_isBrothOn, .ref a_t_dramsOn, .ref a_t_brothOn, .int t_cause, .int t_causeDetail, .ref a_t_lowOn, .ref a_t_highOn, .ref a_t_lowStored, .ref a_t_highStored, .ref a_t_isBrothStored, .int t_storeMany, .ref a_t_step, .ref a_t_stepF, .ref a_t_line, .int t_lineMany])), (a_t_s, .inl (cT 0, 282, .inl (upd r6 (3 : Int32).toNatClampNeg ((r6 (3 : Int32).toNatClampNeg) + 1)))), (a_t_f, .inl (cT 4, 6, .inr (.inr (.inl (vf_upd t_f p1.toNatClampNeg s2_108)))))] := hD
    refine lv_iconst (v := 0) hx hb dX12_stores_133 (by decide) ?_
    have ho := Option.some.inj h
    rw [hQ]
    exact W.zret (ty := .boolean) (v := 0) hx hb hr rfl (fun t ht hW => ⟨⟨0, (), rfl, by rw [← ho], by show va_P (dC, dI) vwCl _ t.heap; rw [ht, ← ho]; exact hP⟩, hS.F ht⟩) hS.2.2 dX12_stores_134
  have wB_81 : ∀ (s3_81 : Int32) (H : Heap) (locs : List Loc) (ls : Array Slot), g_X12_stores_b81 t_cause t_causeDetail t_isBrothOn t_s t_f t_brothOn p1 p2 s3_81 = some o → va_P (dC, dI) vwCl [(a_t, .inr (15, [.ref a_t_s, .ref a_t_f, .ref a_t_before, .ref a_t_beforeF, .ref a_t_aside, .ref a_t_asideF, .ref a_t_saved, .ref a_t_savedF, .int t_isSaved, .ref a_t_past, .ref a_t_pastF, .int t_pastMany, .int t_boiled, .int t_thrown, .ref a_t_refused, .ref a_t_text, .int t_length, .int t_error, .ref a_t_signs, .ref a_t_numbers, .int t_tokens, .int t_spoons, .int t_mostSpoons, .ref a_t_row, .ref a_t_isBrothOn, .ref a_t_dramsOn, .ref a_t_brothOn, .int t_cause, .int t_causeDetail, .ref a_t_lowOn, .ref a_t_highOn, .ref a_t_lowStored, .ref a_t_highStored, .ref a_t_isBrothStored, .int t_storeMany, .ref a_t_step, .ref a_t_stepF, .ref a_t_line, .int t_lineMany])), (a_t_s, .inl (cT 0, 282, .inl t_s)), (a_t_f, .inl (cT 4, 6, .inr (.inr (.inl t_f))))] H → va_D A [(a_t, .inr (15, [.ref a_t_s, .ref a_t_f, .ref a_t_before, .ref a_t_beforeF, .ref a_t_aside, .ref a_t_asideF, .ref a_t_saved, .ref a_t_savedF, .int t_isSaved, .ref a_t_past, .ref a_t_pastF, .int t_pastMany, .int t_boiled, .int t_thrown, .ref a_t_refused, .ref a_t_text, .int t_length, .int t_error, .ref a_t_signs, .ref a_t_numbers, .int t_tokens, .int t_spoons, .int t_mostSpoons, .ref a_t_row, .ref a_t_isBrothOn, .ref a_t_dramsOn, .ref a_t_brothOn, .int t_cause, .int t_causeDetail, .ref a_t_lowOn, .ref a_t_highOn, .ref a_t_lowStored, .ref a_t_highStored, .ref a_t_isBrothStored, .int t_storeMany, .ref a_t_step, .ref a_t_stepF, .ref a_t_line, .int t_lineMany])), (a_t_s, .inl (cT 0, 282, .inl t_s)), (a_t_f, .inl (cT 4, 6, .inr (.inr (.inl t_f))))] → va_S A s.heap H locs → lv_has ls 3 [(0, .ref a_t), (1, .int p1), (2, .int p2)] → W p l e ({ frames := 2, cells := 0, slots := 0, locals := 48 } : Room) s m [.ref a_t, .int p1, .int p2].toArray below meth c H locs 0 0 Q (F0 m 81 ls [.int s3_81, .int 3, .int p1, .ref a_t]) := by
    intro s3_81 H locs ls h hP hD hS hl
    unfold g_X12_stores_b81 at h
    obtain ⟨r7, hq, h⟩ := gb_some h
    refine cxV (X2 := [(a_t, .inr (15, [.ref a_t_s, .ref a_t_f, .ref a_t_before, .ref a_t_beforeF, .ref a_t_aside, .ref a_t_asideF, .ref a_t_saved, .ref a_t_savedF, .int t_isSaved, .ref a_t_past, .ref a_t_pastF, .int t_pastMany, .int t_boiled, .int t_thrown, .ref a_t_refused, .ref a_t_text, .int t_length, .int t_error, .ref a_t_signs, .ref a_t_numbers, .int t_tokens, .int t_spoons, .int t_mostSpoons, .ref a_t_row, .ref a_t_isBrothOn, .ref a_t_dramsOn, .ref a_t_brothOn, .int t_cause, .int t_causeDetail, .ref a_t_lowOn, .ref a_t_highOn, .ref a_t_lowStored, .ref a_t_highStored, .ref a_t_isBrothStored, .int t_storeMany, .ref a_t_step, .ref a_t_stepF, .ref a_t_line, .int t_lineMany])), (a_t_s, .inl (cT 0, 282, .inl r7)), (a_t_f, .inl (cT 4, 6, .inr (.inr (.inl t_f))))]) (va_runV (As := [.int p1, .int 3, .int s3_81]) (rest := []) ⟨hx, hb, hml, hown, hta⟩ (c_X12_sets l dC dI cT hq (hP.sub (ws' := [(a_t_s, .inl (cT 0, 282, .inl t_s))]) [1] rfl) (hP.sub (ws' := [(a_t, .inr (15, [.ref a_t_s, .ref a_t_f, .ref a_t_before, .ref a_t_beforeF, .ref a_t_aside, .ref a_t_asideF, .ref a_t_saved, .ref a_t_savedF, .int t_isSaved, .ref a_t_past, .ref a_t_pastF, .int t_pastMany, .int t_boiled, .int t_thrown, .ref a_t_refused, .ref a_t_text, .int t_length, .int t_error, .ref a_t_signs, .ref a_t_numbers, .int t_tokens, .int t_spoons, .int t_mostSpoons, .ref a_t_row, .ref a_t_isBrothOn, .ref a_t_dramsOn, .ref a_t_brothOn, .int t_cause, .int t_causeDetail, .ref a_t_lowOn, .ref a_t_highOn, .ref a_t_lowStored, .ref a_t_highStored, .ref a_t_isBrothStored, .int t_storeMany, .ref a_t_step, .ref a_t_stepF, .ref a_t_line, .int t_lineMany]))]) [0] rfl) (ds hD [1] (by decide) rfl) (nac hP hD [1] rfl (va_free hD hS hA [1] rfl) na_nil [.inr 0] rfl rfl)) (cV hta lm_X12_126 md_X12_sets ⟨(Nat.le_of_ble_eq_true rfl), (Nat.le_of_ble_eq_true rfl)⟩) ⟨fbK, va_recv hK hP (ci := 15) (q0 := 0) rfl rfl, fun U hU hW => ⟨rfl, hU, va_K.moved hW.alike hK⟩⟩ rfl rfl hl.1 rfl (lv_room (Nat.le_of_ble_eq_true rfl)) dX12_stores_81 ⟨(Nat.le_of_ble_eq_true rfl), (Nat.le_of_ble_eq_true rfl)⟩) hS hA hP hD [1] rfl [.inr 0, .inl 0, .inr 2] rfl rfl rfl (fun H locs hP hD hS => ?_)
    refine lv_aload_n hx hb dX12_stores_84 rfl (lv_at hl 0 rfl) ?_
    refine va_get (D := (dC, dI)) (ci := 15) (v := .ref a_t_f) (C := RX12) (T := TX12) (N := 39) hx hb hta inX12w hown hK hP 0 rfl rfl 1 (by decide) (hta _ lk_X12_13) (fun _ h9 => h9) rfl dX12_stores_85 ?_
    refine lv_iload_n hx hb dX12_stores_88 rfl (lv_at hl 1 rfl) ?_
    refine lv_aload_n hx hb dX12_stores_89 rfl (lv_at hl 0 rfl) ?_
    refine va_get (D := (dC, dI)) (ci := 15) (v := .ref a_t_isBrothOn) (C := RX12) (T := TX12) (N := 39) hx hb hta inX12w hown hK hP 0 rfl rfl 24 (by decide) (hta _ lk_X12_61) (fun _ h9 => h9) rfl dX12_stores_90 ?_
    refine lv_iload_n hx hb dX12_stores_93 rfl (lv_at hl 2 rfl) ?_
    obtain ⟨hc, h⟩ := gc_some h
    refine va_zald hx hb hK (rk hR0 hNA hS) 0 1 rfl rfl (inb_in hc) dX12_stores_94 ?_
    refine lv_if_eq (tgt := 107) hx hb dX12_stores_95 (by decide) (fun c0 => ?_) (fun c0 => ?_)
    · have h := (if_pos c0).symm.trans h
      refine lv_fconst0 hx hb dX12_stores_107 ?_
      exact wB_108 r7 FP.fconst0 _ _ _ h hP hD hS (lv_sub hl [0, 1] rfl)
    · have h := (if_neg c0).symm.trans h
      refine lv_aload_n hx hb dX12_stores_98 rfl (lv_at hl 0 rfl) ?_
      refine va_get (D := (dC, dI)) (ci := 15) (v := .ref a_t_brothOn) (C := RX12) (T := TX12) (N := 39) hx hb hta inX12w hown hK hP 0 rfl rfl 26 (by decide) (hta _ lk_X12_69) (fun _ h9 => h9) rfl dX12_stores_99 ?_
      refine lv_iload_n hx hb dX12_stores_102 rfl (lv_at hl 2 rfl) ?_
      obtain ⟨hc, h⟩ := gc_some h
      refine va_fald hx hb hK (rk hR0 hNA hS) 2 4 rfl rfl (inb_in hc) dX12_stores_103 ?_
      refine lv_goto (tgt := 108) hx hb dX12_stores_104 (by decide) ?_
      exact wB_108 r7 (t_brothOn p2.toNatClampNeg) _ _ _ h hP hD hS (lv_sub hl [0, 1] rfl)
  have wB_58 : ∀ (H : Heap) (locs : List Loc) (ls : Array Slot), g_X12_stores_b58 t_cause t_causeDetail t_isBrothOn t_s t_dramsOn t_f t_brothOn p1 p2 = some o → va_P (dC, dI) vwCl [(a_t, .inr (15, [.ref a_t_s, .ref a_t_f, .ref a_t_before, .ref a_t_beforeF, .ref a_t_aside, .ref a_t_asideF, .ref a_t_saved, .ref a_t_savedF, .int t_isSaved, .ref a_t_past, .ref a_t_pastF, .int t_pastMany, .int t_boiled, .int t_thrown, .ref a_t_refused, .ref a_t_text, .int t_length, .int t_error, .ref a_t_signs, .ref a_t_numbers, .int t_tokens, .int t_spoons, .int t_mostSpoons, .ref a_t_row, .ref a_t_isBrothOn, .ref a_t_dramsOn, .ref a_t_brothOn, .int t_cause, .int t_causeDetail, .ref a_t_lowOn, .ref a_t_highOn, .ref a_t_lowStored, .ref a_t_highStored, .ref a_t_isBrothStored, .int t_storeMany, .ref a_t_step, .ref a_t_stepF, .ref a_t_line, .int t_lineMany])), (a_t_s, .inl (cT 0, 282, .inl t_s)), (a_t_f, .inl (cT 4, 6, .inr (.inr (.inl t_f))))] H → va_D A [(a_t, .inr (15, [.ref a_t_s, .ref a_t_f, .ref a_t_before, .ref a_t_beforeF, .ref a_t_aside, .ref a_t_asideF, .ref a_t_saved, .ref a_t_savedF, .int t_isSaved, .ref a_t_past, .ref a_t_pastF, .int t_pastMany, .int t_boiled, .int t_thrown, .ref a_t_refused, .ref a_t_text, .int t_length, .int t_error, .ref a_t_signs, .ref a_t_numbers, .int t_tokens, .int t_spoons, .int t_mostSpoons, .ref a_t_row, .ref a_t_isBrothOn, .ref a_t_dramsOn, .ref a_t_brothOn, .int t_cause, .int t_causeDetail, .ref a_t_lowOn, .ref a_t_highOn, .ref a_t_lowStored, .ref a_t_highStored, .ref a_t_isBrothStored, .int t_storeMany, .ref a_t_step, .ref a_t_stepF, .ref a_t_line, .int t_lineMany])), (a_t_s, .inl (cT 0, 282, .inl t_s)), (a_t_f, .inl (cT 4, 6, .inr (.inr (.inl t_f))))] → va_S A s.heap H locs → lv_has ls 3 [(0, .ref a_t), (1, .int p1), (2, .int p2)] → W p l e ({ frames := 2, cells := 0, slots := 0, locals := 48 } : Room) s m [.ref a_t, .int p1, .int p2].toArray below meth c H locs 0 0 Q (F0 m 58 ls []) := by
    intro H locs ls h hP hD hS hl
    unfold g_X12_stores_b58 at h
    refine lv_aload_n hx hb dX12_stores_58 rfl (lv_at hl 0 rfl) ?_
    refine lv_iload_n hx hb dX12_stores_59 rfl (lv_at hl 1 rfl) ?_
    refine lv_iconst (v := 3) hx hb dX12_stores_60 (by decide) ?_
    refine lv_aload_n hx hb dX12_stores_61 rfl (lv_at hl 0 rfl) ?_
    refine va_get (D := (dC, dI)) (ci := 15) (v := .ref a_t_isBrothOn) (C := RX12) (T := TX12) (N := 39) hx hb hta inX12w hown hK hP 0 rfl rfl 24 (by decide) (hta _ lk_X12_61) (fun _ h9 => h9) rfl dX12_stores_62 ?_
    refine lv_iload_n hx hb dX12_stores_65 rfl (lv_at hl 2 rfl) ?_
    obtain ⟨hc, h⟩ := gc_some h
    refine va_zald hx hb hK (rk hR0 hNA hS) 0 1 rfl rfl (inb_in hc) dX12_stores_66 ?_
    refine lv_if_eq (tgt := 74) hx hb dX12_stores_67 (by decide) (fun c0 => ?_) (fun c0 => ?_)
    · have h := (if_pos c0).symm.trans h
      refine lv_aload_n hx hb dX12_stores_74 rfl (lv_at hl 0 rfl) ?_
      refine va_get (D := (dC, dI)) (ci := 15) (v := .ref a_t_dramsOn) (C := RX12) (T := TX12) (N := 39) hx hb hta inX12w hown hK hP 0 rfl rfl 25 (by decide) (hta _ lk_X12_65) (fun _ h9 => h9) rfl dX12_stores_75 ?_
      refine lv_iload_n hx hb dX12_stores_78 rfl (lv_at hl 2 rfl) ?_
      obtain ⟨hc, h⟩ := gc_some h
      refine va_lald hx hb hK (rk hR0 hNA hS) 1 3 rfl rfl (inb_in hc) dX12_stores_79 ?_
      refine lv_l2i hx hb dX12_stores_80 rfl ?_
      exact wB_81 ((t_dramsOn p2.toNatClampNeg).toInt32) _ _ _ h hP hD hS (lv_sub hl [0, 1, 2] rfl)
    · have h := (if_neg c0).symm.trans h
      refine lv_iconst (v := 0) hx hb dX12_stores_70 (by decide) ?_
      refine lv_goto (tgt := 81) hx hb dX12_stores_71 (by decide) ?_
      exact wB_81 0 _ _ _ h hP hD hS (lv_sub hl [0, 1, 2] rfl)
  unfold g_X12_stores at h
  refine lv_aload_n hx hb dX12_stores_0 rfl (lv_at hl 0 rfl) ?_
  refine va_get (D := (dC, dI)) (ci := 15) (v := .ref a_t_isBrothOn) (C := RX12) (T := TX12) (N := 39) hx hb hta inX12w hown hK hP 0 rfl rfl 24 (by decide) (hta _ lk_X12_61) (fun _ h9 => h9) rfl dX12_stores_1 ?_
  refine lv_iload_n hx hb dX12_stores_4 rfl (lv_at hl 2 rfl) ?_
  obtain ⟨hc, h⟩ := gc_some h
  refine va_zald hx hb hK (rk hR0 hNA hS) 0 1 rfl rfl (inb_in hc) dX12_stores_5 ?_
  refine lv_aload_n hx hb dX12_stores_6 rfl (lv_at hl 0 rfl) ?_
  refine lv_iload_n hx hb dX12_stores_7 rfl (lv_at hl 1 rfl) ?_
  obtain ⟨r1, hq, h⟩ := gb_some h
  refine crI (va_runV (As := [.int p1]) (rest := [.int (t_isBrothOn p2.toNatClampNeg)]) ⟨hx, hb, hml, hown, hta⟩ (c_X12_isBroth l dC dI cT hq (hP.sub (ws' := [(a_t, .inr (15, [.ref a_t_s, .ref a_t_f, .ref a_t_before, .ref a_t_beforeF, .ref a_t_aside, .ref a_t_asideF, .ref a_t_saved, .ref a_t_savedF, .int t_isSaved, .ref a_t_past, .ref a_t_pastF, .int t_pastMany, .int t_boiled, .int t_thrown, .ref a_t_refused, .ref a_t_text, .int t_length, .int t_error, .ref a_t_signs, .ref a_t_numbers, .int t_tokens, .int t_spoons, .int t_mostSpoons, .ref a_t_row, .ref a_t_isBrothOn, .ref a_t_dramsOn, .ref a_t_brothOn, .int t_cause, .int t_causeDetail, .ref a_t_lowOn, .ref a_t_highOn, .ref a_t_lowStored, .ref a_t_highStored, .ref a_t_isBrothStored, .int t_storeMany, .ref a_t_step, .ref a_t_stepF, .ref a_t_line, .int t_lineMany])), (a_t_s, .inl (cT 0, 282, .inl t_s))]) [0, 1] rfl)) (cV hta lm_X12_160 md_X12_isBroth ⟨(Nat.le_of_ble_eq_true rfl), (Nat.le_of_ble_eq_true rfl)⟩) ⟨fbK, va_recv hK hP (ci := 15) (q0 := 0) rfl rfl, fun U hU hW => ⟨rfl, hU, va_K.moved hW.alike hK⟩⟩ rfl rfl hl.1 rfl (lv_room (Nat.le_of_ble_eq_true rfl)) dX12_stores_8 ⟨(Nat.le_of_ble_eq_true rfl), (Nat.le_of_ble_eq_true rfl)⟩) hS hA (fun locs hS => ?_)
  refine lv_icmp_eq (tgt := 22) hx hb dX12_stores_11 (by decide) (fun c0 => ?_) (fun c0 => ?_)
  · have h := (if_pos c0).symm.trans h
    refine lv_aload_n hx hb dX12_stores_22 rfl (lv_at hl 0 rfl) ?_
    refine va_get (D := (dC, dI)) (ci := 15) (v := .ref a_t_isBrothOn) (C := RX12) (T := TX12) (N := 39) hx hb hta inX12w hown hK hP 0 rfl rfl 24 (by decide) (hta _ lk_X12_61) (fun _ h9 => h9) rfl dX12_stores_23 ?_
    refine lv_iload_n hx hb dX12_stores_26 rfl (lv_at hl 2 rfl) ?_
    obtain ⟨hc, h⟩ := gc_some h
    refine va_zald hx hb hK (rk hR0 hNA hS) 0 1 rfl rfl (inb_in hc) dX12_stores_27 ?_
    refine lv_if_ne (tgt := 58) hx hb dX12_stores_28 (by decide) (fun c0 => ?_) (fun c0 => ?_)
    · have h := (if_neg c0).symm.trans h
      exact wB_58 _ _ _ h hP hD hS (lv_sub hl [0, 1, 2] rfl)
    · have h := (if_pos c0).symm.trans h
      refine lv_aload_n hx hb dX12_stores_31 rfl (lv_at hl 0 rfl) ?_
      refine lv_iload_n hx hb dX12_stores_32 rfl (lv_at hl 1 rfl) ?_
      refine lv_aload_n hx hb dX12_stores_33 rfl (lv_at hl 0 rfl) ?_
      refine va_get (D := (dC, dI)) (ci := 15) (v := .ref a_t_dramsOn) (C := RX12) (T := TX12) (N := 39) hx hb hta inX12w hown hK hP 0 rfl rfl 25 (by decide) (hta _ lk_X12_65) (fun _ h9 => h9) rfl dX12_stores_34 ?_
      refine lv_iload_n hx hb dX12_stores_37 rfl (lv_at hl 2 rfl) ?_
      obtain ⟨hc, h⟩ := gc_some h
      refine va_lald hx hb hK (rk hR0 hNA hS) 1 3 rfl rfl (inb_in hc) dX12_stores_38 ?_
      obtain ⟨r2, hq, h⟩ := gb_some h
      refine crI (va_runV (As := [.int p1, .long (t_dramsOn p2.toNatClampNeg)]) (rest := []) ⟨hx, hb, hml, hown, hta⟩ (c_X12_holds l dC dI cT hq (hP.sub (ws' := [(a_t, .inr (15, [.ref a_t_s, .ref a_t_f, .ref a_t_before, .ref a_t_beforeF, .ref a_t_aside, .ref a_t_asideF, .ref a_t_saved, .ref a_t_savedF, .int t_isSaved, .ref a_t_past, .ref a_t_pastF, .int t_pastMany, .int t_boiled, .int t_thrown, .ref a_t_refused, .ref a_t_text, .int t_length, .int t_error, .ref a_t_signs, .ref a_t_numbers, .int t_tokens, .int t_spoons, .int t_mostSpoons, .ref a_t_row, .ref a_t_isBrothOn, .ref a_t_dramsOn, .ref a_t_brothOn, .int t_cause, .int t_causeDetail, .ref a_t_lowOn, .ref a_t_highOn, .ref a_t_lowStored, .ref a_t_highStored, .ref a_t_isBrothStored, .int t_storeMany, .ref a_t_step, .ref a_t_stepF, .ref a_t_line, .int t_lineMany])), (a_t_s, .inl (cT 0, 282, .inl t_s))]) [0, 1] rfl)) (cV hta lm_X12_163 md_X12_holds ⟨(Nat.le_of_ble_eq_true rfl), (Nat.le_of_ble_eq_true rfl)⟩) ⟨fbK, va_recv hK hP (ci := 15) (q0 := 0) rfl rfl, fun U hU hW => ⟨rfl, hU, va_K.moved hW.alike hK⟩⟩ rfl rfl hl.1 rfl (lv_room (Nat.le_of_ble_eq_true rfl)) dX12_stores_39 ⟨(Nat.le_of_ble_eq_true rfl), (Nat.le_of_ble_eq_true rfl)⟩) hS hA (fun locs hS => ?_)
      refine lv_if_ne (tgt := 58) hx hb dX12_stores_42 (by decide) (fun c0 => ?_) (fun c0 => ?_)
      · have h := (if_neg c0).symm.trans h
        exact wB_58 _ _ _ h hP hD hS (lv_sub hl [0, 1, 2] rfl)
      · have h := (if_pos c0).symm.trans h
        refine lv_aload_n hx hb dX12_stores_45 rfl (lv_at hl 0 rfl) ?_
        refine lv_iconst (v := 3) hx hb dX12_stores_46 (by decide) ?_
        refine lv_aload_n hx hb dX12_stores_47 rfl (lv_at hl 0 rfl) ?_
        refine va_get (D := (dC, dI)) (ci := 15) (v := .ref a_t_dramsOn) (C := RX12) (T := TX12) (N := 39) hx hb hta inX12w hown hK hP 0 rfl rfl 25 (by decide) (hta _ lk_X12_65) (fun _ h9 => h9) rfl dX12_stores_48 ?_
        refine lv_iload_n hx hb dX12_stores_51 rfl (lv_at hl 2 rfl) ?_
        obtain ⟨hc, h⟩ := gc_some h
        refine va_lald hx hb hK (rk hR0 hNA hS) 1 3 rfl rfl (inb_in hc) dX12_stores_52 ?_
        refine lv_l2i hx hb dX12_stores_53 rfl ?_
        obtain ⟨r3, hq, h⟩ := gb_some h
        refine cxI (X2 := [(a_t, .inr (15, [.ref a_t_s, .ref a_t_f, .ref a_t_before, .ref a_t_beforeF, .ref a_t_aside, .ref a_t_asideF, .ref a_t_saved, .ref a_t_savedF, .int t_isSaved, .ref a_t_past, .ref a_t_pastF, .int t_pastMany, .int t_boiled, .int t_thrown, .ref a_t_refused, .ref a_t_text, .int t_length, .int t_error, .ref a_t_signs, .ref a_t_numbers, .int t_tokens, .int t_spoons, .int t_mostSpoons, .ref a_t_row, .ref a_t_isBrothOn, .ref a_t_dramsOn, .ref a_t_brothOn, .int r3.2.1, .int r3.2.2, .ref a_t_lowOn, .ref a_t_highOn, .ref a_t_lowStored, .ref a_t_highStored, .ref a_t_isBrothStored, .int t_storeMany, .ref a_t_step, .ref a_t_stepF, .ref a_t_line, .int t_lineMany])), (a_t_s, .inl (cT 0, 282, .inl t_s)), (a_t_f, .inl (cT 4, 6, .inr (.inr (.inl t_f))))]) (va_runV (As := [.int 3, .int ((t_dramsOn p2.toNatClampNeg).toInt32)]) (rest := []) ⟨hx, hb, hml, hown, hta⟩ (c_X12_boilsBy l dC dI cT rfl hq (hP.sub (ws' := [(a_t, .inr (15, [.ref a_t_s, .ref a_t_f, .ref a_t_before, .ref a_t_beforeF, .ref a_t_aside, .ref a_t_asideF, .ref a_t_saved, .ref a_t_savedF, .int t_isSaved, .ref a_t_past, .ref a_t_pastF, .int t_pastMany, .int t_boiled, .int t_thrown, .ref a_t_refused, .ref a_t_text, .int t_length, .int t_error, .ref a_t_signs, .ref a_t_numbers, .int t_tokens, .int t_spoons, .int t_mostSpoons, .ref a_t_row, .ref a_t_isBrothOn, .ref a_t_dramsOn, .ref a_t_brothOn, .int t_cause, .int t_causeDetail, .ref a_t_lowOn, .ref a_t_highOn, .ref a_t_lowStored, .ref a_t_highStored, .ref a_t_isBrothStored, .int t_storeMany, .ref a_t_step, .ref a_t_stepF, .ref a_t_line, .int t_lineMany]))]) [0] rfl) (ds hD [0] (by decide) rfl)) (cV hta lm_X12_241 md_X12_boilsBy ⟨(Nat.le_of_ble_eq_true rfl), (Nat.le_of_ble_eq_true rfl)⟩) ⟨fbK, va_recv hK hP (ci := 15) (q0 := 0) rfl rfl, fun U hU hW => ⟨rfl, hU, va_K.moved hW.alike hK⟩⟩ rfl rfl hl.1 rfl (lv_room (Nat.le_of_ble_eq_true rfl)) dX12_stores_54 ⟨(Nat.le_of_ble_eq_true rfl), (Nat.le_of_ble_eq_true rfl)⟩) hS hA hP hD [0] rfl [.inl 0, .inr 1, .inr 2] rfl rfl rfl (fun H locs hP hD hS => ?_)
        obtain ⟨hc, h⟩ := gc_some h
        have ho := Option.some.inj h
        rw [hQ]
        exact W.zret (ty := .boolean) (v := r3.1) hx hb hr (bo_n hc) (fun t ht hW => ⟨⟨r3.1, (), rfl, by rw [← ho], by show va_P (dC, dI) vwCl _ t.heap; rw [ht, ← ho]; exact hP⟩, hS.F ht⟩) hS.2.2 dX12_stores_57
  · have h := (if_neg c0).symm.trans h
    refine lv_aload_n hx hb dX12_stores_14 rfl (lv_at hl 0 rfl) ?_
    refine lv_bipush (v := 7) hx hb dX12_stores_15 (by decide) ?_
    refine lv_iload_n hx hb dX12_stores_17 rfl (lv_at hl 1 rfl) ?_
    obtain ⟨r4, hq, h⟩ := gb_some h
    refine cxI (X2 := [(a_t, .inr (15, [.ref a_t_s, .ref a_t_f, .ref a_t_before, .ref a_t_beforeF, .ref a_t_aside, .ref a_t_asideF, .ref a_t_saved, .ref a_t_savedF, .int t_isSaved, .ref a_t_past, .ref a_t_pastF, .int t_pastMany, .int t_boiled, .int t_thrown, .ref a_t_refused, .ref a_t_text, .int t_length, .int t_error, .ref a_t_signs, .ref a_t_numbers, .int t_tokens, .int t_spoons, .int t_mostSpoons, .ref a_t_row, .ref a_t_isBrothOn, .ref a_t_dramsOn, .ref a_t_brothOn, .int r4.2.1, .int r4.2.2, .ref a_t_lowOn, .ref a_t_highOn, .ref a_t_lowStored, .ref a_t_highStored, .ref a_t_isBrothStored, .int t_storeMany, .ref a_t_step, .ref a_t_stepF, .ref a_t_line, .int t_lineMany])), (a_t_s, .inl (cT 0, 282, .inl t_s)), (a_t_f, .inl (cT 4, 6, .inr (.inr (.inl t_f))))]) (va_runV (As := [.int 7, .int p1]) (rest := []) ⟨hx, hb, hml, hown, hta⟩ (c_X12_boilsBy l dC dI cT rfl hq (hP.sub (ws' := [(a_t, .inr (15, [.ref a_t_s, .ref a_t_f, .ref a_t_before, .ref a_t_beforeF, .ref a_t_aside, .ref a_t_asideF, .ref a_t_saved, .ref a_t_savedF, .int t_isSaved, .ref a_t_past, .ref a_t_pastF, .int t_pastMany, .int t_boiled, .int t_thrown, .ref a_t_refused, .ref a_t_text, .int t_length, .int t_error, .ref a_t_signs, .ref a_t_numbers, .int t_tokens, .int t_spoons, .int t_mostSpoons, .ref a_t_row, .ref a_t_isBrothOn, .ref a_t_dramsOn, .ref a_t_brothOn, .int t_cause, .int t_causeDetail, .ref a_t_lowOn, .ref a_t_highOn, .ref a_t_lowStored, .ref a_t_highStored, .ref a_t_isBrothStored, .int t_storeMany, .ref a_t_step, .ref a_t_stepF, .ref a_t_line, .int t_lineMany]))]) [0] rfl) (ds hD [0] (by decide) rfl)) (cV hta lm_X12_241 md_X12_boilsBy ⟨(Nat.le_of_ble_eq_true rfl), (Nat.le_of_ble_eq_true rfl)⟩) ⟨fbK, va_recv hK hP (ci := 15) (q0 := 0) rfl rfl, fun U hU hW => ⟨rfl, hU, va_K.moved hW.alike hK⟩⟩ rfl rfl hl.1 rfl (lv_room (Nat.le_of_ble_eq_true rfl)) dX12_stores_18 ⟨(Nat.le_of_ble_eq_true rfl), (Nat.le_of_ble_eq_true rfl)⟩) hS hA hP hD [0] rfl [.inl 0, .inr 1, .inr 2] rfl rfl rfl (fun H locs hP hD hS => ?_)
    obtain ⟨hc, h⟩ := gc_some h
    have ho := Option.some.inj h
    rw [hQ]
    exact W.zret (ty := .boolean) (v := r4.1) hx hb hr (bo_n hc) (fun t ht hW => ⟨⟨r4.1, (), rfl, by rw [← ho], by show va_P (dC, dI) vwCl _ t.heap; rw [ht, ← ho]; exact hP⟩, hS.F ht⟩) hS.2.2 dX12_stores_21
set_option maxHeartbeats 4000000 in
set_option maxRecDepth 100000 in
theorem c_X12_does (l : Launch) (dC : Nat → ClassId) (dI : Nat → Nat → Nat) (cT : Nat → ClassId) {Hh : Heap} {a_t : Nat} {a_t_signs : Nat} {a_t_numbers : Nat} {a_t_isBrothOn : Nat} {a_t_s : Nat} {a_t_dramsOn : Nat} {a_t_f : Nat} {a_t_brothOn : Nat} {a_t_before : Nat} {a_t_beforeF : Nat} {a_t_aside : Nat} {a_t_asideF : Nat} {a_t_saved : Nat} {a_t_savedF : Nat} {a_t_past : Nat} {a_t_pastF : Nat} {a_t_refused : Nat} {a_t_text : Nat} {a_t_row : Nat} {a_t_lowOn : Nat} {a_t_highOn : Nat} {a_t_lowStored : Nat} {a_t_highStored : Nat} {a_t_isBrothStored : Nat} {a_t_step : Nat} {a_t_stepF : Nat} {a_t_line : Nat} {t_cause : Int32} {t_causeDetail : Int32} {t_signs : Nat → Int32} {t_numbers : Nat → Int32} {t_isBrothOn : Nat → Int32} {t_s : Nat → Int32} {t_dramsOn : Nat → Int64} {t_f : Nat → UInt32} {t_brothOn : Nat → UInt32} {p1 : Int32} {p2 : Int32} {t_isSaved : Int32} {t_pastMany : Int32} {t_boiled : Int32} {t_thrown : Int32} {t_length : Int32} {t_error : Int32} {t_tokens : Int32} {t_spoons : Int32} {t_mostSpoons : Int32} {t_storeMany : Int32} {t_lineMany : Int32} {XW : va_W} (eX : XW = [(a_t, .inr (15, [.ref a_t_s, .ref a_t_f, .ref a_t_before, .ref a_t_beforeF, .ref a_t_aside, .ref a_t_asideF, .ref a_t_saved, .ref a_t_savedF, .int t_isSaved, .ref a_t_past, .ref a_t_pastF, .int t_pastMany, .int t_boiled, .int t_thrown, .ref a_t_refused, .ref a_t_text, .int t_length, .int t_error, .ref a_t_signs, .ref a_t_numbers, .int t_tokens, .int t_spoons, .int t_mostSpoons, .ref a_t_row, .ref a_t_isBrothOn, .ref a_t_dramsOn, .ref a_t_brothOn, .int t_cause, .int t_causeDetail, .ref a_t_lowOn, .ref a_t_highOn, .ref a_t_lowStored, .ref a_t_highStored, .ref a_t_isBrothStored, .int t_storeMany, .ref a_t_step, .ref a_t_stepF, .ref a_t_line, .int t_lineMany])), (a_t_isBrothOn, .inl (cT 1, 6, .inl t_isBrothOn)), (a_t_s, .inl (cT 0, 282, .inl t_s)), (a_t_dramsOn, .inl (cT 3, 6, .inr (.inl t_dramsOn))), (a_t_f, .inl (cT 4, 6, .inr (.inr (.inl t_f)))), (a_t_brothOn, .inl (cT 4, 6, .inr (.inr (.inl t_brothOn))))]) {o : Int32 × Int32 × Int32 × (Nat → Int32) × (Nat → Int32) × (Nat → Int64) × (Nat → UInt32) × (Nat → UInt32)} (h : g_X12_does t_cause t_causeDetail t_signs t_numbers t_isBrothOn t_s t_dramsOn t_f t_brothOn p1 p2 = some o) (hP0 : va_P (dC, dI) vwCl XW Hh) (hR0 : va_P (dC, dI) vwCl [(a_t_signs, .inl (cT 2, 60, .inl t_signs)), (a_t_numbers, .inl (cT 0, 60, .inl t_numbers))] Hh) (hD0 : va_D (fun _ => True) XW) (hN0 : ∀ (k : Nat) (q : Nat × va_E), ([(a_t_signs, .inl (cT 2, 60, .inl t_signs)), (a_t_numbers, .inl (cT 0, 60, .inl t_numbers))] : va_W)[k]? = some q → ¬ va_A XW Hh.size q.1) : Met l yX12_does (wA yX12_does cX12_does 5 (some .boolean)) ({ frames := 3, cells := 0, slots := 0, locals := 70 } : Room) (PK dC dI cT [.ref a_t, .int p1, .int p2] Hh) (va_Qi (fun x (_ : Unit) => x = o.1) (fun _ t => va_P (dC, dI) vwCl [(a_t, .inr (15, [.ref a_t_s, .ref a_t_f, .ref a_t_before, .ref a_t_beforeF, .ref a_t_aside, .ref a_t_asideF, .ref a_t_saved, .ref a_t_savedF, .int t_isSaved, .ref a_t_past, .ref a_t_pastF, .int t_pastMany, .int t_boiled, .int t_thrown, .ref a_t_refused, .ref a_t_text, .int t_length, .int t_error, .ref a_t_signs, .ref a_t_numbers, .int t_tokens, .int t_spoons, .int t_mostSpoons, .ref a_t_row, .ref a_t_isBrothOn, .ref a_t_dramsOn, .ref a_t_brothOn, .int o.2.1, .int o.2.2.1, .ref a_t_lowOn, .ref a_t_highOn, .ref a_t_lowStored, .ref a_t_highStored, .ref a_t_isBrothStored, .int t_storeMany, .ref a_t_step, .ref a_t_stepF, .ref a_t_line, .int t_lineMany])), (a_t_isBrothOn, .inl (cT 1, 6, .inl o.2.2.2.1)), (a_t_s, .inl (cT 0, 282, .inl o.2.2.2.2.1)), (a_t_dramsOn, .inl (cT 3, 6, .inr (.inl o.2.2.2.2.2.1))), (a_t_f, .inl (cT 4, 6, .inr (.inr (.inl o.2.2.2.2.2.2.1)))), (a_t_brothOn, .inl (cT 4, 6, .inr (.inr (.inl o.2.2.2.2.2.2.2))))] t.heap) (va_A XW Hh.size)) 0 0 (va_A XW Hh.size) := by
  subst eX
  refine Met.ofW (cc := cX12_does) (maxL := 5) (ret := (some .boolean)) (by decide) rfl ?_
  intro p e s m args below meth c s₁ B hml hv
  obtain ⟨rfl, hH, hK⟩ := hv
  subst hH
  have hx := B.exec
  have hb := B.bytes
  have hr := B.returns
  have hta : ∀ w ∈ ALLW, w.before [.ref a_t, .int p1, .int p2].toArray s = true := fun w hw => atoms_spec (ws := wA yX12_does cX12_does 5 (some .boolean)) B.pre w (List.mem_cons_of_mem _ hw)
  have hown : s.vm.findClass RX12 = some m.cls := findClass_of_methodNamed B.named
  have hlocks := B.notSynchronized
  have hD := hD0.self (sz := s.heap.size)
  have hNA := hN0
  generalize hAe : va_A [(a_t, .inr (15, [.ref a_t_s, .ref a_t_f, .ref a_t_before, .ref a_t_beforeF, .ref a_t_aside, .ref a_t_asideF, .ref a_t_saved, .ref a_t_savedF, .int t_isSaved, .ref a_t_past, .ref a_t_pastF, .int t_pastMany, .int t_boiled, .int t_thrown, .ref a_t_refused, .ref a_t_text, .int t_length, .int t_error, .ref a_t_signs, .ref a_t_numbers, .int t_tokens, .int t_spoons, .int t_mostSpoons, .ref a_t_row, .ref a_t_isBrothOn, .ref a_t_dramsOn, .ref a_t_brothOn, .int t_cause, .int t_causeDetail, .ref a_t_lowOn, .ref a_t_highOn, .ref a_t_lowStored, .ref a_t_highStored, .ref a_t_isBrothStored, .int t_storeMany, .ref a_t_step, .ref a_t_stepF, .ref a_t_line, .int t_lineMany])), (a_t_isBrothOn, .inl (cT 1, 6, .inl t_isBrothOn)), (a_t_s, .inl (cT 0, 282, .inl t_s)), (a_t_dramsOn, .inl (cT 3, 6, .inr (.inl t_dramsOn))), (a_t_f, .inl (cT 4, 6, .inr (.inr (.inl t_f)))), (a_t_brothOn, .inl (cT 4, 6, .inr (.inr (.inl t_brothOn))))] s.heap.size = A at hD hNA ⊢
  have hP := hP0
  have hA : ∀ q : Nat, s.heap.size ≤ q → A q := fun q h => by rw [← hAe]; exact Or.inr h
  have hS : va_S A s.heap s.heap [] := va_S.rf
  have hl := lv_entry [.ref a_t, .int p1, .int p2] (n := 5) (Nat.le_of_ble_eq_true rfl)
  rw [lg_entry_eq]
  generalize (lg_sl [.ref a_t, .int p1, .int p2] ++ List.replicate (5 - (lg_sl [.ref a_t, .int p1, .int p2]).length) Slot.unset).toArray = ls at hl ⊢
  have hl : lv_has ls 5 [(0, .ref a_t), (1, .int p1), (2, .int p2)] := hl
  obtain ⟨Q, hQ⟩ : ∃ Q, Q = MQ below (va_Qi (fun x (_ : Unit) => x = o.1) (fun _ t => va_P (dC, dI) vwCl [(a_t, .inr (15, [.ref a_t_s, .ref a_t_f, .ref a_t_before, .ref a_t_beforeF, .ref a_t_aside, .ref a_t_asideF, .ref a_t_saved, .ref a_t_savedF, .int t_isSaved, .ref a_t_past, .ref a_t_pastF, .int t_pastMany, .int t_boiled, .int t_thrown, .ref a_t_refused, .ref a_t_text, .int t_length, .int t_error, .ref a_t_signs, .ref a_t_numbers, .int t_tokens, .int t_spoons, .int t_mostSpoons, .ref a_t_row, .ref a_t_isBrothOn, .ref a_t_dramsOn, .ref a_t_brothOn, .int o.2.1, .int o.2.2.1, .ref a_t_lowOn, .ref a_t_highOn, .ref a_t_lowStored, .ref a_t_highStored, .ref a_t_isBrothStored, .int t_storeMany, .ref a_t_step, .ref a_t_stepF, .ref a_t_line, .int t_lineMany])), (a_t_isBrothOn, .inl (cT 1, 6, .inl o.2.2.2.1)), (a_t_s, .inl (cT 0, 282, .inl o.2.2.2.2.1)), (a_t_dramsOn, .inl (cT 3, 6, .inr (.inl o.2.2.2.2.2.1))), (a_t_f, .inl (cT 4, 6, .inr (.inr (.inl o.2.2.2.2.2.2.1)))), (a_t_brothOn, .inl (cT 4, 6, .inr (.inr (.inl o.2.2.2.2.2.2.2))))] t.heap) A) [.ref a_t, .int p1, .int p2].toArray s 0 0 A := ⟨_, rfl⟩
  rw [← hQ]
  have wB_154 : ∀ (H : Heap) (locs : List Loc) (ls : Array Slot), g_X12_does_b154 t_cause t_causeDetail t_signs t_isBrothOn t_s t_dramsOn t_f t_brothOn p1 p2 = some o → va_P (dC, dI) vwCl [(a_t, .inr (15, [.ref a_t_s, .ref a_t_f, .ref a_t_before, .ref a_t_beforeF, .ref a_t_aside, .ref a_t_asideF, .ref a_t_saved, .ref a_t_savedF, .int t_isSaved, .ref a_t_past, .ref a_t_pastF, .int t_pastMany, .int t_boiled, .int t_thrown, .ref a_t_refused, .ref a_t_text, .int t_length, .int t_error, .ref a_t_signs, .ref a_t_numbers, .int t_tokens, .int t_spoons, .int t_mostSpoons, .ref a_t_row, .ref a_t_isBrothOn, .ref a_t_dramsOn, .ref a_t_brothOn, .int t_cause, .int t_causeDetail, .ref a_t_lowOn, .ref a_t_highOn, .ref a_t_lowStored, .ref a_t_highStored, .ref a_t_isBrothStored, .int t_storeMany, .ref a_t_step, .ref a_t_stepF, .ref a_t_line, .int t_lineMany])), (a_t_isBrothOn, .inl (cT 1, 6, .inl t_isBrothOn)), (a_t_s, .inl (cT 0, 282, .inl t_s)), (a_t_dramsOn, .inl (cT 3, 6, .inr (.inl t_dramsOn))), (a_t_f, .inl (cT 4, 6, .inr (.inr (.inl t_f)))), (a_t_brothOn, .inl (cT 4, 6, .inr (.inr (.inl t_brothOn))))] H → va_D A [(a_t, .inr (15, [.ref a_t_s, .ref a_t_f, .ref a_t_before, .ref a_t_beforeF, .ref a_t_aside, .ref a_t_asideF, .ref a_t_saved, .ref a_t_savedF, .int t_isSaved, .ref a_t_past, .ref a_t_pastF, .int t_pastMany, .int t_boiled, .int t_thrown, .ref a_t_refused, .ref a_t_text, .int t_length, .int t_error, .ref a_t_signs, .ref a_t_numbers, .int t_tokens, .int t_spoons, .int t_mostSpoons, .ref a_t_row, .ref a_t_isBrothOn, .ref a_t_dramsOn, .ref a_t_brothOn, .int t_cause, .int t_causeDetail, .ref a_t_lowOn, .ref a_t_highOn, .ref a_t_lowStored, .ref a_t_highStored, .ref a_t_isBrothStored, .int t_storeMany, .ref a_t_step, .ref a_t_stepF, .ref a_t_line, .int t_lineMany])), (a_t_isBrothOn, .inl (cT 1, 6, .inl t_isBrothOn)), (a_t_s, .inl (cT 0, 282, .inl t_s)), (a_t_dramsOn, .inl (cT 3, 6, .inr (.inl t_dramsOn))), (a_t_f, .inl (cT 4, 6, .inr (.inr (.inl t_f)))), (a_t_brothOn, .inl (cT 4, 6, .inr (.inr (.inl t_brothOn))))] → va_S A s.heap H locs → lv_has ls 5 [(0, .ref a_t), (1, .int p1), (2, .int p2)] → W p l e ({ frames := 3, cells := 0, slots := 0, locals := 70 } : Room) s m [.ref a_t, .int p1, .int p2].toArray below meth c H locs 0 0 Q (F0 m 154 ls []) := by
    intro H locs ls h hP hD hS hl
    unfold g_X12_does_b154 at h
    refine lv_aload_n hx hb dX12_does_154 rfl (lv_at hl 0 rfl) ?_
    refine lv_aload_n hx hb dX12_does_155 rfl (lv_at hl 0 rfl) ?_
    refine va_get (D := (dC, dI)) (ci := 15) (v := .ref a_t_signs) (C := RX12) (T := TX12) (N := 39) hx hb hta inX12w hown hK hP 0 rfl rfl 18 (by decide) (hta _ lk_X12_52) (fun _ h9 => h9) rfl dX12_does_156 ?_
    refine lv_iload_n hx hb dX12_does_159 rfl (lv_at hl 1 rfl) ?_
    obtain ⟨hc, h⟩ := gc_some h
    refine va_cald hx hb hK (rk hR0 hNA hS) 0 2 rfl rfl (inb_in hc) dX12_does_160 ?_
    refine lv_iload_n hx hb dX12_does_161 rfl (lv_at hl 2 rfl) ?_
    refine lv_iconst (v := 1) hx hb dX12_does_162 (by decide) ?_
    refine lv_isub hx hb dX12_does_163 ?_
    obtain ⟨r5, hq, h⟩ := gb_some h
    refine cxI (X2 := [(a_t, .inr (15, [.ref a_t_s, .ref a_t_f, .ref a_t_before, .ref a_t_beforeF, .ref a_t_aside, .ref a_t_asideF, .ref a_t_saved, .ref a_t_savedF, .int t_isSaved, .ref a_t_past, .ref a_t_pastF, .int t_pastMany, .int t_boiled, .int t_thrown, .ref a_t_refused, .ref a_t_text, .int t_length, .int t_error, .ref a_t_signs, .ref a_t_numbers, .int t_tokens, .int t_spoons, .int t_mostSpoons, .ref a_t_row, .ref a_t_isBrothOn, .ref a_t_dramsOn, .ref a_t_brothOn, .int r5.2.1, .int r5.2.2.1, .ref a_t_lowOn, .ref a_t_highOn, .ref a_t_lowStored, .ref a_t_highStored, .ref a_t_isBrothStored, .int t_storeMany, .ref a_t_step, .ref a_t_stepF, .ref a_t_line, .int t_lineMany])), (a_t_isBrothOn, .inl (cT 1, 6, .inl r5.2.2.2.1)), (a_t_s, .inl (cT 0, 282, .inl t_s)), (a_t_dramsOn, .inl (cT 3, 6, .inr (.inl r5.2.2.2.2.2))), (a_t_f, .inl (cT 4, 6, .inr (.inr (.inl t_f)))), (a_t_brothOn, .inl (cT 4, 6, .inr (.inr (.inl r5.2.2.2.2.1))))]) (va_runV (As := [.int (t_signs p1.toNatClampNeg), .int (p2 - 1)]) (rest := []) ⟨hx, hb, hml, hown, hta⟩ (c_X12_casts l dC dI cT rfl hq (hP.sub (ws' := [(a_t, .inr (15, [.ref a_t_s, .ref a_t_f, .ref a_t_before, .ref a_t_beforeF, .ref a_t_aside, .ref a_t_asideF, .ref a_t_saved, .ref a_t_savedF, .int t_isSaved, .ref a_t_past, .ref a_t_pastF, .int t_pastMany, .int t_boiled, .int t_thrown, .ref a_t_refused, .ref a_t_text, .int t_length, .int t_error, .ref a_t_signs, .ref a_t_numbers, .int t_tokens, .int t_spoons, .int t_mostSpoons, .ref a_t_row, .ref a_t_isBrothOn, .ref a_t_dramsOn, .ref a_t_brothOn, .int t_cause, .int t_causeDetail, .ref a_t_lowOn, .ref a_t_highOn, .ref a_t_lowStored, .ref a_t_highStored, .ref a_t_isBrothStored, .int t_storeMany, .ref a_t_step, .ref a_t_stepF, .ref a_t_line, .int t_lineMany])), (a_t_isBrothOn, .inl (cT 1, 6, .inl t_isBrothOn)), (a_t_brothOn, .inl (cT 4, 6, .inr (.inr (.inl t_brothOn)))), (a_t_dramsOn, .inl (cT 3, 6, .inr (.inl t_dramsOn)))]) [0, 1, 5, 3] rfl) (ds hD [0, 1, 5, 3] (by decide) rfl)) (cV hta lm_X12_263 md_X12_casts ⟨(Nat.le_of_ble_eq_true rfl), (Nat.le_of_ble_eq_true rfl)⟩) ⟨fbK, va_recv hK hP (ci := 15) (q0 := 0) rfl rfl, fun U hU hW => ⟨rfl, hU, va_K.moved hW.alike hK⟩⟩ rfl rfl hl.1 rfl (lv_room (Nat.le_of_ble_eq_true rfl)) dX12_does_164 ⟨(Nat.le_of_ble_eq_true rfl), (Nat.le_of_ble_eq_true rfl)⟩) hS hA hP hD [0, 1, 5, 3] rfl [.inl 0, .inl 1, .inr 2, .inl 3, .inr 4, .inl 2] rfl rfl rfl (fun H locs hP hD hS => ?_)
    obtain ⟨hc, h⟩ := gc_some h
    have ho := Option.some.inj h
    rw [hQ]
    exact W.zret (ty := .boolean) (v := r5.1) hx hb hr (bo_n hc) (fun t ht hW => ⟨⟨r5.1, (), rfl, by rw [← ho], by show va_P (dC, dI) vwCl _ t.heap; rw [ht, ← ho]; exact hP⟩, hS.F ht⟩) hS.2.2 dX12_does_167
  have wB_98 : ∀ (t_dramsOn_98 : Nat → Int64) (t_isBrothOn_98 : Nat → Int32) (s2_98 : UInt32) (H : Heap) (locs : List Loc) (ls : Array Slot), g_X12_does_b98 t_cause t_causeDetail t_s t_f t_brothOn p2 t_dramsOn_98 t_isBrothOn_98 s2_98 = some o → va_P (dC, dI) vwCl [(a_t, .inr (15, [.ref a_t_s, .ref a_t_f, .ref a_t_before, .ref a_t_beforeF, .ref a_t_aside, .ref a_t_asideF, .ref a_t_saved, .ref a_t_savedF, .int t_isSaved, .ref a_t_past, .ref a_t_pastF, .int t_pastMany, .int t_boiled, .int t_thrown, .ref a_t_refused, .ref a_t_text, .int t_length, .int t_error, .ref a_t_signs, .ref a_t_numbers, .int t_tokens, .int t_spoons, .int t_mostSpoons, .ref a_t_row, .ref a_t_isBrothOn, .ref a_t_dramsOn, .ref a_t_brothOn, .int t_cause, .int t_causeDetail, .ref a_t_lowOn, .ref a_t_highOn, .ref a_t_lowStored, .ref a_t_highStored, .ref a_t_isBrothStored, .int t_storeMany, .ref a_t_step, .ref a_t_stepF, .ref a_t_line, .int t_lineMany])), (a_t_isBrothOn, .inl (cT 1, 6, .inl t_isBrothOn_98)), (a_t_s, .inl (cT 0, 282, .inl t_s)), (a_t_dramsOn, .inl (cT 3, 6, .inr (.inl t_dramsOn_98))), (a_t_f, .inl (cT 4, 6, .inr (.inr (.inl t_f)))), (a_t_brothOn, .inl (cT 4, 6, .inr (.inr (.inl t_brothOn))))] H → va_D A [(a_t, .inr (15, [.ref a_t_s, .ref a_t_f, .ref a_t_before, .ref a_t_beforeF, .ref a_t_aside, .ref a_t_asideF, .ref a_t_saved, .ref a_t_savedF, .int t_isSaved, .ref a_t_past, .ref a_t_pastF, .int t_pastMany, .int t_boiled, .int t_thrown, .ref a_t_refused, .ref a_t_text, .int t_length, .int t_error, .ref a_t_signs, .ref a_t_numbers, .int t_tokens, .int t_spoons, .int t_mostSpoons, .ref a_t_row, .ref a_t_isBrothOn, .ref a_t_dramsOn, .ref a_t_brothOn, .int t_cause, .int t_causeDetail, .ref a_t_lowOn, .ref a_t_highOn, .ref a_t_lowStored, .ref a_t_highStored, .ref a_t_isBrothStored, .int t_storeMany, .ref a_t_step, .ref a_t_stepF, .ref a_t_line, .int t_lineMany])), (a_t_isBrothOn, .inl (cT 1, 6, .inl t_isBrothOn_98)), (a_t_s, .inl (cT 0, 282, .inl t_s)), (a_t_dramsOn, .inl (cT 3, 6, .inr (.inl t_dramsOn_98))), (a_t_f, .inl (cT 4, 6, .inr (.inr (.inl t_f)))), (a_t_brothOn, .inl (cT 4, 6, .inr (.inr (.inl t_brothOn))))] → va_S A s.heap H locs → lv_has ls 5 [] → W p l e ({ frames := 3, cells := 0, slots := 0, locals := 70 } : Room) s m [.ref a_t, .int p1, .int p2].toArray below meth c H locs 0 0 Q (F0 m 98 ls [.float s2_98, .int p2, .ref a_t_brothOn]) := by
    intro t_dramsOn_98 t_isBrothOn_98 s2_98 H locs ls h hP hD hS hl
    unfold g_X12_does_b98 at h
    obtain ⟨hc, h⟩ := gc_some h
    refine va_fast hx hb hK hP hD hS 5 4 rfl rfl (inb_in hc) dX12_does_98 (fun H locs hP hD hS => ?_)
    have hP : va_P (dC, dI) vwCl [(a_t, .inr (15, [.ref a_t_s, .ref a_t_f, .ref a_t_before, .ref a_t_beforeF, .ref a_t_aside, .ref a_t_asideF, .ref a_t_saved, .ref a_t_savedF, .int t_isSaved, .ref a_t_past, .ref a_t_pastF, .int t_pastMany, .int t_boiled, .int t_thrown, .ref a_t_refused, .ref a_t_text, .int t_length, .int t_error, .ref a_t_signs, .ref a_t_numbers, .int t_tokens, .int t_spoons, .int t_mostSpoons, .ref a_t_row, .ref a_t_isBrothOn, .ref a_t_dramsOn, .ref a_t_brothOn, .int t_cause, .int t_causeDetail, .ref a_t_lowOn, .ref a_t_highOn, .ref a_t_lowStored, .ref a_t_highStored, .ref a_t_isBrothStored, .int t_storeMany, .ref a_t_step, .ref a_t_stepF, .ref a_t_line, .int t_lineMany])), (a_t_isBrothOn, .inl (cT 1, 6, .inl t_isBrothOn_98)), (a_t_s, .inl (cT 0, 282, .inl t_s)), (a_t_dramsOn, .inl (cT 3, 6, .inr (.inl t_dramsOn_98))), (a_t_f, .inl (cT 4, 6, .inr (.inr (.inl t_f)))), (a_t_brothOn, .inl (cT 4, 6, .inr (.inr (.inl (vf_upd t_brothOn p2.toNatClampNeg s2_98)))))] H := hP
    have hD : va_D A [(a_t, .inr (15, [.ref a_t_s, .ref a_t_f, .ref a_t_before, .ref a_t_beforeF, .ref a_t_aside, .ref a_t_asideF, .ref a_t_saved, .ref a_t_savedF, .int t_isSaved, .ref a_t_past, .ref a_t_pastF, .int t_pastMany, .int t_boiled, .int t_thrown, .ref a_t_refused, .ref a_t_text, .int t_length, .int t_error, .ref a_t_signs, .ref a_t_numbers, .int t_tokens, .int t_spoons, .int t_mostSpoons, .ref a_t_row, .ref a_t_isBrothOn, .ref a_t_dramsOn, .ref a_t_brothOn, .int t_cause, .int t_causeDetail, .ref a_t_lowOn, .ref a_t_highOn, .ref a_t_lowStored, .ref a_t_highStored, .ref a_t_isBrothStored, .int t_storeMany, .ref a_t_step, .ref a_t_stepF, .ref a_t_line, .int t_lineMany])), (a_t_isBrothOn, .inl (cT 1, 6, .inl t_isBrothOn_98)), (a_t_s, .inl (cT 0, 282, .inl t_s)), (a_t_dramsOn, .inl (cT 3, 6, .inr (.inl t_dramsOn_98))), (a_t_f, .inl (cT 4, 6, .inr (.inr (.inl t_f)))), (a_t_brothOn, .inl (cT 4, 6, .inr (.inr (.inl (vf_upd t_brothOn p2.toNatClampNeg s2_98)))))] := hD
    refine lv_iconst (v := 0) hx hb dX12_does_99 (by decide) ?_
    have ho := Option.some.inj h
    rw [hQ]
    exact W.zret (ty := .boolean) (v := 0) hx hb hr rfl (fun t ht hW => ⟨⟨0, (), rfl, by rw [← ho], by show va_P (dC, dI) vwCl _ t.heap; rw [ht, ← ho]; exact hP⟩, hS.F ht⟩) hS.2.2 dX12_does_100
  have wB_77 : ∀ (t_isBrothOn_77 : Nat → Int32) (x3_77 : Int32) (x4_77 : Int32) (s2_77 : Int64) (H : Heap) (locs : List Loc) (ls : Array Slot), g_X12_does_b77 t_cause t_causeDetail t_s t_dramsOn t_f t_brothOn p2 t_isBrothOn_77 x3_77 x4_77 s2_77 = some o → va_P (dC, dI) vwCl [(a_t, .inr (15, [.ref a_t_s, .ref a_t_f, .ref a_t_before, .ref a_t_beforeF, .ref a_t_aside, .ref a_t_asideF, .ref a_t_saved, .ref a_t_savedF, .int t_isSaved, .ref a_t_past, .ref a_t_pastF, .int t_pastMany, .int t_boiled, .int t_thrown, .ref a_t_refused, .ref a_t_text, .int t_length, .int t_error, .ref a_t_signs, .ref a_t_numbers, .int t_tokens, .int t_spoons, .int t_mostSpoons, .ref a_t_row, .ref a_t_isBrothOn, .ref a_t_dramsOn, .ref a_t_brothOn, .int t_cause, .int t_causeDetail, .ref a_t_lowOn, .ref a_t_highOn, .ref a_t_lowStored, .ref a_t_highStored, .ref a_t_isBrothStored, .int t_storeMany, .ref a_t_step, .ref a_t_stepF, .ref a_t_line, .int t_lineMany])), (a_t_isBrothOn, .inl (cT 1, 6, .inl t_isBrothOn_77)), (a_t_s, .inl (cT 0, 282, .inl t_s)), (a_t_dramsOn, .inl (cT 3, 6, .inr (.inl t_dramsOn))), (a_t_f, .inl (cT 4, 6, .inr (.inr (.inl t_f)))), (a_t_brothOn, .inl (cT 4, 6, .inr (.inr (.inl t_brothOn))))] H → va_D A [(a_t, .inr (15, [.ref a_t_s, .ref a_t_f, .ref a_t_before, .ref a_t_beforeF, .ref a_t_aside, .ref a_t_asideF, .ref a_t_saved, .ref a_t_savedF, .int t_isSaved, .ref a_t_past, .ref a_t_pastF, .int t_pastMany, .int t_boiled, .int t_thrown, .ref a_t_refused, .ref a_t_text, .int t_length, .int t_error, .ref a_t_signs, .ref a_t_numbers, .int t_tokens, .int t_spoons, .int t_mostSpoons, .ref a_t_row, .ref a_t_isBrothOn, .ref a_t_dramsOn, .ref a_t_brothOn, .int t_cause, .int t_causeDetail, .ref a_t_lowOn, .ref a_t_highOn, .ref a_t_lowStored, .ref a_t_highStored, .ref a_t_isBrothStored, .int t_storeMany, .ref a_t_step, .ref a_t_stepF, .ref a_t_line, .int t_lineMany])), (a_t_isBrothOn, .inl (cT 1, 6, .inl t_isBrothOn_77)), (a_t_s, .inl (cT 0, 282, .inl t_s)), (a_t_dramsOn, .inl (cT 3, 6, .inr (.inl t_dramsOn))), (a_t_f, .inl (cT 4, 6, .inr (.inr (.inl t_f)))), (a_t_brothOn, .inl (cT 4, 6, .inr (.inr (.inl t_brothOn))))] → va_S A s.heap H locs → lv_has ls 5 [(0, .ref a_t), (2, .int p2), (3, .int x3_77), (4, .int x4_77)] → W p l e ({ frames := 3, cells := 0, slots := 0, locals := 70 } : Room) s m [.ref a_t, .int p1, .int p2].toArray below meth c H locs 0 0 Q (F0 m 77 ls [.long s2_77, .int p2, .ref a_t_dramsOn]) := by
    intro t_isBrothOn_77 x3_77 x4_77 s2_77 H locs ls h hP hD hS hl
    unfold g_X12_does_b77 at h
    obtain ⟨hc, h⟩ := gc_some h
    refine va_last hx hb hK hP hD hS 3 3 rfl rfl (inb_in hc) dX12_does_77 (fun H locs hP hD hS => ?_)
    have hP : va_P (dC, dI) vwCl [(a_t, .inr (15, [.ref a_t_s, .ref a_t_f, .ref a_t_before, .ref a_t_beforeF, .ref a_t_aside, .ref a_t_asideF, .ref a_t_saved, .ref a_t_savedF, .int t_isSaved, .ref a_t_past, .ref a_t_pastF, .int t_pastMany, .int t_boiled, .int t_thrown, .ref a_t_refused, .ref a_t_text, .int t_length, .int t_error, .ref a_t_signs, .ref a_t_numbers, .int t_tokens, .int t_spoons, .int t_mostSpoons, .ref a_t_row, .ref a_t_isBrothOn, .ref a_t_dramsOn, .ref a_t_brothOn, .int t_cause, .int t_causeDetail, .ref a_t_lowOn, .ref a_t_highOn, .ref a_t_lowStored, .ref a_t_highStored, .ref a_t_isBrothStored, .int t_storeMany, .ref a_t_step, .ref a_t_stepF, .ref a_t_line, .int t_lineMany])), (a_t_isBrothOn, .inl (cT 1, 6, .inl t_isBrothOn_77)), (a_t_s, .inl (cT 0, 282, .inl t_s)), (a_t_dramsOn, .inl (cT 3, 6, .inr (.inl (vp_updL t_dramsOn p2.toNatClampNeg s2_77)))), (a_t_f, .inl (cT 4, 6, .inr (.inr (.inl t_f)))), (a_t_brothOn, .inl (cT 4, 6, .inr (.inr (.inl t_brothOn))))] H := hP
    have hD : va_D A [(a_t, .inr (15, [.ref a_t_s, .ref a_t_f, .ref a_t_before, .ref a_t_beforeF, .ref a_t_aside, .ref a_t_asideF, .ref a_t_saved, .ref a_t_savedF, .int t_isSaved, .ref a_t_past, .ref a_t_pastF, .int t_pastMany, .int t_boiled, .int t_thrown, .ref a_t_refused, .ref a_t_text, .int t_length, .int t_error, .ref a_t_signs, .ref a_t_numbers, .int t_tokens, .int t_spoons, .int t_mostSpoons, .ref a_t_row, .ref a_t_isBrothOn, .ref a_t_dramsOn, .ref a_t_brothOn, .int t_cause, .int t_causeDetail, .ref a_t_lowOn, .ref a_t_highOn, .ref a_t_lowStored, .ref a_t_highStored, .ref a_t_isBrothStored, .int t_storeMany, .ref a_t_step, .ref a_t_stepF, .ref a_t_line, .int t_lineMany])), (a_t_isBrothOn, .inl (cT 1, 6, .inl t_isBrothOn_77)), (a_t_s, .inl (cT 0, 282, .inl t_s)), (a_t_dramsOn, .inl (cT 3, 6, .inr (.inl (vp_updL t_dramsOn p2.toNatClampNeg s2_77)))), (a_t_f, .inl (cT 4, 6, .inr (.inr (.inl t_f)))), (a_t_brothOn, .inl (cT 4, 6, .inr (.inr (.inl t_brothOn))))] := hD
    refine lv_aload_n hx hb dX12_does_78 rfl (lv_at hl 0 rfl) ?_
    refine va_get (D := (dC, dI)) (ci := 15) (v := .ref a_t_brothOn) (C := RX12) (T := TX12) (N := 39) hx hb hta inX12w hown hK hP 0 rfl rfl 26 (by decide) (hta _ lk_X12_69) (fun _ h9 => h9) rfl dX12_does_79 ?_
    refine lv_iload_n hx hb dX12_does_82 rfl (lv_at hl 1 rfl) ?_
    refine lv_iload_n hx hb dX12_does_83 rfl (lv_at hl 2 rfl) ?_
    refine lv_if_eq (tgt := 97) hx hb dX12_does_84 (by decide) (fun c0 => ?_) (fun c0 => ?_)
    · have h := (if_pos c0).symm.trans h
      refine lv_fconst0 hx hb dX12_does_97 ?_
      exact wB_98 (vp_updL t_dramsOn p2.toNatClampNeg s2_77) t_isBrothOn_77 FP.fconst0 _ _ _ h hP hD hS (lv_sub hl [] rfl)
    · have h := (if_neg c0).symm.trans h
      refine lv_aload_n hx hb dX12_does_87 rfl (lv_at hl 0 rfl) ?_
      refine va_get (D := (dC, dI)) (ci := 15) (v := .ref a_t_f) (C := RX12) (T := TX12) (N := 39) hx hb hta inX12w hown hK hP 0 rfl rfl 1 (by decide) (hta _ lk_X12_13) (fun _ h9 => h9) rfl dX12_does_88 ?_
      refine lv_iload hx hb dX12_does_91 (lv_at hl 3 rfl) ?_
      obtain ⟨hc, h⟩ := gc_some h
      refine va_fald hx hb hK hP 4 4 rfl rfl (inb_in hc) dX12_does_93 ?_
      refine lv_goto (tgt := 98) hx hb dX12_does_94 (by decide) ?_
      exact wB_98 (vp_updL t_dramsOn p2.toNatClampNeg s2_77) t_isBrothOn_77 (t_f x4_77.toNatClampNeg) _ _ _ h hP hD hS (lv_sub hl [] rfl)
  have wB_53 : ∀ (x3_53 : Int32) (x4_53 : Int32) (s2_53 : Int32) (H : Heap) (locs : List Loc) (ls : Array Slot), g_X12_does_b53 t_cause t_causeDetail t_isBrothOn t_s t_dramsOn t_f t_brothOn p2 x3_53 x4_53 s2_53 = some o → va_P (dC, dI) vwCl [(a_t, .inr (15, [.ref a_t_s, .ref a_t_f, .ref a_t_before, .ref a_t_beforeF, .ref a_t_aside, .ref a_t_asideF, .ref a_t_saved, .ref a_t_savedF, .int t_isSaved, .ref a_t_past, .ref a_t_pastF, .int t_pastMany, .int t_boiled, .int t_thrown, .ref a_t_refused, .ref a_t_text, .int t_length, .int t_error, .ref a_t_signs, .ref a_t_numbers, .int t_tokens, .int t_spoons, .int t_mostSpoons, .ref a_t_row, .ref a_t_isBrothOn, .ref a_t_dramsOn, .ref a_t_brothOn, .int t_cause, .int t_causeDetail, .ref a_t_lowOn, .ref a_t_highOn, .ref a_t_lowStored, .ref a_t_highStored, .ref a_t_isBrothStored, .int t_storeMany, .ref a_t_step, .ref a_t_stepF, .ref a_t_line, .int t_lineMany])), (a_t_isBrothOn, .inl (cT 1, 6, .inl t_isBrothOn)), (a_t_s, .inl (cT 0, 282, .inl t_s)), (a_t_dramsOn, .inl (cT 3, 6, .inr (.inl t_dramsOn))), (a_t_f, .inl (cT 4, 6, .inr (.inr (.inl t_f)))), (a_t_brothOn, .inl (cT 4, 6, .inr (.inr (.inl t_brothOn))))] H → va_D A [(a_t, .inr (15, [.ref a_t_s, .ref a_t_f, .ref a_t_before, .ref a_t_beforeF, .ref a_t_aside, .ref a_t_asideF, .ref a_t_saved, .ref a_t_savedF, .int t_isSaved, .ref a_t_past, .ref a_t_pastF, .int t_pastMany, .int t_boiled, .int t_thrown, .ref a_t_refused, .ref a_t_text, .int t_length, .int t_error, .ref a_t_signs, .ref a_t_numbers, .int t_tokens, .int t_spoons, .int t_mostSpoons, .ref a_t_row, .ref a_t_isBrothOn, .ref a_t_dramsOn, .ref a_t_brothOn, .int t_cause, .int t_causeDetail, .ref a_t_lowOn, .ref a_t_highOn, .ref a_t_lowStored, .ref a_t_highStored, .ref a_t_isBrothStored, .int t_storeMany, .ref a_t_step, .ref a_t_stepF, .ref a_t_line, .int t_lineMany])), (a_t_isBrothOn, .inl (cT 1, 6, .inl t_isBrothOn)), (a_t_s, .inl (cT 0, 282, .inl t_s)), (a_t_dramsOn, .inl (cT 3, 6, .inr (.inl t_dramsOn))), (a_t_f, .inl (cT 4, 6, .inr (.inr (.inl t_f)))), (a_t_brothOn, .inl (cT 4, 6, .inr (.inr (.inl t_brothOn))))] → va_S A s.heap H locs → lv_has ls 5 [(0, .ref a_t), (2, .int p2), (3, .int x3_53), (4, .int x4_53)] → W p l e ({ frames := 3, cells := 0, slots := 0, locals := 70 } : Room) s m [.ref a_t, .int p1, .int p2].toArray below meth c H locs 0 0 Q (F0 m 53 ls [.int s2_53, .int p2, .ref a_t_isBrothOn]) := by
    intro x3_53 x4_53 s2_53 H locs ls h hP hD hS hl
    unfold g_X12_does_b53 at h
    obtain ⟨hc, h⟩ := gc_some h
    refine va_zast hx hb hK hP hD hS 1 1 rfl rfl (inb_in hc) dX12_does_53 (fun H locs hP hD hS => ?_)
    have hP : va_P (dC, dI) vwCl [(a_t, .inr (15, [.ref a_t_s, .ref a_t_f, .ref a_t_before, .ref a_t_beforeF, .ref a_t_aside, .ref a_t_asideF, .ref a_t_saved, .ref a_t_savedF, .int t_isSaved, .ref a_t_past, .ref a_t_pastF, .int t_pastMany, .int t_boiled, .int t_thrown, .ref a_t_refused, .ref a_t_text, .int t_length, .int t_error, .ref a_t_signs, .ref a_t_numbers, .int t_tokens, .int t_spoons, .int t_mostSpoons, .ref a_t_row, .ref a_t_isBrothOn, .ref a_t_dramsOn, .ref a_t_brothOn, .int t_cause, .int t_causeDetail, .ref a_t_lowOn, .ref a_t_highOn, .ref a_t_lowStored, .ref a_t_highStored, .ref a_t_isBrothStored, .int t_storeMany, .ref a_t_step, .ref a_t_stepF, .ref a_t_line, .int t_lineMany])), (a_t_isBrothOn, .inl (cT 1, 6, .inl (upd t_isBrothOn p2.toNatClampNeg (vp_nar .boolean s2_53)))), (a_t_s, .inl (cT 0, 282, .inl t_s)), (a_t_dramsOn, .inl (cT 3, 6, .inr (.inl t_dramsOn))), (a_t_f, .inl (cT 4, 6, .inr (.inr (.inl t_f)))), (a_t_brothOn, .inl (cT 4, 6, .inr (.inr (.inl t_brothOn))))] H := hP
    have hD : va_D A [(a_t, .inr (15, [.ref a_t_s, .ref a_t_f, .ref a_t_before, .ref a_t_beforeF, .ref a_t_aside, .ref a_t_asideF, .ref a_t_saved, .ref a_t_savedF, .int t_isSaved, .ref a_t_past, .ref a_t_pastF, .int t_pastMany, .int t_boiled, .int t_thrown, .ref a_t_refused, .ref a_t_text, .int t_length, .int t_error, .ref a_t_signs, .ref a_t_numbers, .int t_tokens, .int t_spoons, .int t_mostSpoons, .ref a_t_row, .ref a_t_isBrothOn, .ref a_t_dramsOn, .ref a_t_brothOn, .int t_cause, .int t_causeDetail, .ref a_t_lowOn, .ref a_t_highOn, .ref a_t_lowStored, .ref a_t_highStored, .ref a_t_isBrothStored, .int t_storeMany, .ref a_t_step, .ref a_t_stepF, .ref a_t_line, .int t_lineMany])), (a_t_isBrothOn, .inl (cT 1, 6, .inl (upd t_isBrothOn p2.toNatClampNeg (vp_nar .boolean s2_53)))), (a_t_s, .inl (cT 0, 282, .inl t_s)), (a_t_dramsOn, .inl (cT 3, 6, .inr (.inl t_dramsOn))), (a_t_f, .inl (cT 4, 6, .inr (.inr (.inl t_f)))), (a_t_brothOn, .inl (cT 4, 6, .inr (.inr (.inl t_brothOn))))] := hD
    refine lv_aload_n hx hb dX12_does_54 rfl (lv_at hl 0 rfl) ?_
    refine va_get (D := (dC, dI)) (ci := 15) (v := .ref a_t_dramsOn) (C := RX12) (T := TX12) (N := 39) hx hb hta inX12w hown hK hP 0 rfl rfl 25 (by decide) (hta _ lk_X12_65) (fun _ h9 => h9) rfl dX12_does_55 ?_
    refine lv_iload_n hx hb dX12_does_58 rfl (lv_at hl 1 rfl) ?_
    refine lv_iload_n hx hb dX12_does_59 rfl (lv_at hl 2 rfl) ?_
    refine lv_if_eq (tgt := 74) hx hb dX12_does_60 (by decide) (fun c0 => ?_) (fun c0 => ?_)
    · have h := (if_pos c0).symm.trans h
      refine lv_iload hx hb dX12_does_74 (lv_at hl 3 rfl) ?_
      refine lv_i2l hx hb dX12_does_76 rfl ?_
      exact wB_77 (upd t_isBrothOn p2.toNatClampNeg (vp_nar .boolean s2_53)) x3_53 x4_53 x4_53.toInt64 _ _ _ h hP hD hS (lv_sub hl [0, 1, 2, 3] rfl)
    · have h := (if_neg c0).symm.trans h
      refine lv_aload_n hx hb dX12_does_63 rfl (lv_at hl 0 rfl) ?_
      refine lv_iload hx hb dX12_does_64 (lv_at hl 3 rfl) ?_
      refine lv_iconst (v := 3) hx hb dX12_does_66 (by decide) ?_
      obtain ⟨r6, hq, h⟩ := gb_some h
      refine crI (va_runV (As := [.int x4_53, .int 3]) (rest := [.int p2, .ref a_t_dramsOn]) ⟨hx, hb, hml, hown, hta⟩ (c_X12_of l dC dI cT hq (hP.sub (ws' := [(a_t, .inr (15, [.ref a_t_s, .ref a_t_f, .ref a_t_before, .ref a_t_beforeF, .ref a_t_aside, .ref a_t_asideF, .ref a_t_saved, .ref a_t_savedF, .int t_isSaved, .ref a_t_past, .ref a_t_pastF, .int t_pastMany, .int t_boiled, .int t_thrown, .ref a_t_refused, .ref a_t_text, .int t_length, .int t_error, .ref a_t_signs, .ref a_t_numbers, .int t_tokens, .int t_spoons, .int t_mostSpoons, .ref a_t_row, .ref a_t_isBrothOn, .ref a_t_dramsOn, .ref a_t_brothOn, .int t_cause, .int t_causeDetail, .ref a_t_lowOn, .ref a_t_highOn, .ref a_t_lowStored, .ref a_t_highStored, .ref a_t_isBrothStored, .int t_storeMany, .ref a_t_step, .ref a_t_stepF, .ref a_t_line, .int t_lineMany])), (a_t_s, .inl (cT 0, 282, .inl t_s))]) [0, 2] rfl)) (cV hta lm_X12_116 md_X12_of ⟨(Nat.le_of_ble_eq_true rfl), (Nat.le_of_ble_eq_true rfl)⟩) ⟨fbK, va_recv hK hP (ci := 15) (q0 := 0) rfl rfl, fun U hU hW => ⟨rfl, hU, va_K.moved hW.alike hK⟩⟩ rfl rfl hl.1 rfl (lv_room (Nat.le_of_ble_eq_true rfl)) dX12_does_67 ⟨(Nat.le_of_ble_eq_true rfl), (Nat.le_of_ble_eq_true rfl)⟩) hS hA (fun locs hS => ?_)
      refine lv_i2l hx hb dX12_does_70 rfl ?_
      refine lv_goto (tgt := 77) hx hb dX12_does_71 (by decide) ?_
      exact wB_77 (upd t_isBrothOn p2.toNatClampNeg (vp_nar .boolean s2_53)) x3_53 x4_53 r6.toInt64 _ _ _ h hP hD hS (lv_sub hl [0, 1, 2, 3] rfl)
  have wB_52 : ∀ (x3_52 : Int32) (x4_52 : Int32) (H : Heap) (locs : List Loc) (ls : Array Slot), g_X12_does_b52 t_cause t_causeDetail t_isBrothOn t_s t_dramsOn t_f t_brothOn p2 x3_52 x4_52 = some o → va_P (dC, dI) vwCl [(a_t, .inr (15, [.ref a_t_s, .ref a_t_f, .ref a_t_before, .ref a_t_beforeF, .ref a_t_aside, .ref a_t_asideF, .ref a_t_saved, .ref a_t_savedF, .int t_isSaved, .ref a_t_past, .ref a_t_pastF, .int t_pastMany, .int t_boiled, .int t_thrown, .ref a_t_refused, .ref a_t_text, .int t_length, .int t_error, .ref a_t_signs, .ref a_t_numbers, .int t_tokens, .int t_spoons, .int t_mostSpoons, .ref a_t_row, .ref a_t_isBrothOn, .ref a_t_dramsOn, .ref a_t_brothOn, .int t_cause, .int t_causeDetail, .ref a_t_lowOn, .ref a_t_highOn, .ref a_t_lowStored, .ref a_t_highStored, .ref a_t_isBrothStored, .int t_storeMany, .ref a_t_step, .ref a_t_stepF, .ref a_t_line, .int t_lineMany])), (a_t_isBrothOn, .inl (cT 1, 6, .inl t_isBrothOn)), (a_t_s, .inl (cT 0, 282, .inl t_s)), (a_t_dramsOn, .inl (cT 3, 6, .inr (.inl t_dramsOn))), (a_t_f, .inl (cT 4, 6, .inr (.inr (.inl t_f)))), (a_t_brothOn, .inl (cT 4, 6, .inr (.inr (.inl t_brothOn))))] H → va_D A [(a_t, .inr (15, [.ref a_t_s, .ref a_t_f, .ref a_t_before, .ref a_t_beforeF, .ref a_t_aside, .ref a_t_asideF, .ref a_t_saved, .ref a_t_savedF, .int t_isSaved, .ref a_t_past, .ref a_t_pastF, .int t_pastMany, .int t_boiled, .int t_thrown, .ref a_t_refused, .ref a_t_text, .int t_length, .int t_error, .ref a_t_signs, .ref a_t_numbers, .int t_tokens, .int t_spoons, .int t_mostSpoons, .ref a_t_row, .ref a_t_isBrothOn, .ref a_t_dramsOn, .ref a_t_brothOn, .int t_cause, .int t_causeDetail, .ref a_t_lowOn, .ref a_t_highOn, .ref a_t_lowStored, .ref a_t_highStored, .ref a_t_isBrothStored, .int t_storeMany, .ref a_t_step, .ref a_t_stepF, .ref a_t_line, .int t_lineMany])), (a_t_isBrothOn, .inl (cT 1, 6, .inl t_isBrothOn)), (a_t_s, .inl (cT 0, 282, .inl t_s)), (a_t_dramsOn, .inl (cT 3, 6, .inr (.inl t_dramsOn))), (a_t_f, .inl (cT 4, 6, .inr (.inr (.inl t_f)))), (a_t_brothOn, .inl (cT 4, 6, .inr (.inr (.inl t_brothOn))))] → va_S A s.heap H locs → lv_has ls 5 [(0, .ref a_t), (2, .int p2), (3, .int x3_52), (4, .int x4_52)] → W p l e ({ frames := 3, cells := 0, slots := 0, locals := 70 } : Room) s m [.ref a_t, .int p1, .int p2].toArray below meth c H locs 0 0 Q (F0 m 52 ls [.int p2, .ref a_t_isBrothOn]) := by
    intro x3_52 x4_52 H locs ls h hP hD hS hl
    unfold g_X12_does_b52 at h
    refine lv_iconst (v := 0) hx hb dX12_does_52 (by decide) ?_
    exact wB_53 x3_52 x4_52 0 _ _ _ h hP hD hS (lv_sub hl [0, 1, 2, 3] rfl)
  have wB_16 : ∀ (H : Heap) (locs : List Loc) (ls : Array Slot), g_X12_does_b16 t_cause t_causeDetail t_signs t_numbers t_isBrothOn t_s t_dramsOn t_f t_brothOn p1 p2 = some o → va_P (dC, dI) vwCl [(a_t, .inr (15, [.ref a_t_s, .ref a_t_f, .ref a_t_before, .ref a_t_beforeF, .ref a_t_aside, .ref a_t_asideF, .ref a_t_saved, .ref a_t_savedF, .int t_isSaved, .ref a_t_past, .ref a_t_pastF, .int t_pastMany, .int t_boiled, .int t_thrown, .ref a_t_refused, .ref a_t_text, .int t_length, .int t_error, .ref a_t_signs, .ref a_t_numbers, .int t_tokens, .int t_spoons, .int t_mostSpoons, .ref a_t_row, .ref a_t_isBrothOn, .ref a_t_dramsOn, .ref a_t_brothOn, .int t_cause, .int t_causeDetail, .ref a_t_lowOn, .ref a_t_highOn, .ref a_t_lowStored, .ref a_t_highStored, .ref a_t_isBrothStored, .int t_storeMany, .ref a_t_step, .ref a_t_stepF, .ref a_t_line, .int t_lineMany])), (a_t_isBrothOn, .inl (cT 1, 6, .inl t_isBrothOn)), (a_t_s, .inl (cT 0, 282, .inl t_s)), (a_t_dramsOn, .inl (cT 3, 6, .inr (.inl t_dramsOn))), (a_t_f, .inl (cT 4, 6, .inr (.inr (.inl t_f)))), (a_t_brothOn, .inl (cT 4, 6, .inr (.inr (.inl t_brothOn))))] H → va_D A [(a_t, .inr (15, [.ref a_t_s, .ref a_t_f, .ref a_t_before, .ref a_t_beforeF, .ref a_t_aside, .ref a_t_asideF, .ref a_t_saved, .ref a_t_savedF, .int t_isSaved, .ref a_t_past, .ref a_t_pastF, .int t_pastMany, .int t_boiled, .int t_thrown, .ref a_t_refused, .ref a_t_text, .int t_length, .int t_error, .ref a_t_signs, .ref a_t_numbers, .int t_tokens, .int t_spoons, .int t_mostSpoons, .ref a_t_row, .ref a_t_isBrothOn, .ref a_t_dramsOn, .ref a_t_brothOn, .int t_cause, .int t_causeDetail, .ref a_t_lowOn, .ref a_t_highOn, .ref a_t_lowStored, .ref a_t_highStored, .ref a_t_isBrothStored, .int t_storeMany, .ref a_t_step, .ref a_t_stepF, .ref a_t_line, .int t_lineMany])), (a_t_isBrothOn, .inl (cT 1, 6, .inl t_isBrothOn)), (a_t_s, .inl (cT 0, 282, .inl t_s)), (a_t_dramsOn, .inl (cT 3, 6, .inr (.inl t_dramsOn))), (a_t_f, .inl (cT 4, 6, .inr (.inr (.inl t_f)))), (a_t_brothOn, .inl (cT 4, 6, .inr (.inr (.inl t_brothOn))))] → va_S A s.heap H locs → lv_has ls 5 [(0, .ref a_t), (1, .int p1), (2, .int p2)] → W p l e ({ frames := 3, cells := 0, slots := 0, locals := 70 } : Room) s m [.ref a_t, .int p1, .int p2].toArray below meth c H locs 0 0 Q (F0 m 16 ls []) := by
    intro H locs ls h hP hD hS hl
    unfold g_X12_does_b16 at h
    refine lv_aload_n hx hb dX12_does_16 rfl (lv_at hl 0 rfl) ?_
    refine lv_iload_n hx hb dX12_does_17 rfl (lv_at hl 1 rfl) ?_
    obtain ⟨r7, hq, h⟩ := gb_some h
    refine crI (va_runV (As := [.int p1]) (rest := []) ⟨hx, hb, hml, hown, hta⟩ (c_X12_isLetter l dC dI cT hq ((va_P.app hP (rk hR0 hNA hS)).sub (ws' := [(a_t, .inr (15, [.ref a_t_s, .ref a_t_f, .ref a_t_before, .ref a_t_beforeF, .ref a_t_aside, .ref a_t_asideF, .ref a_t_saved, .ref a_t_savedF, .int t_isSaved, .ref a_t_past, .ref a_t_pastF, .int t_pastMany, .int t_boiled, .int t_thrown, .ref a_t_refused, .ref a_t_text, .int t_length, .int t_error, .ref a_t_signs, .ref a_t_numbers, .int t_tokens, .int t_spoons, .int t_mostSpoons, .ref a_t_row, .ref a_t_isBrothOn, .ref a_t_dramsOn, .ref a_t_brothOn, .int t_cause, .int t_causeDetail, .ref a_t_lowOn, .ref a_t_highOn, .ref a_t_lowStored, .ref a_t_highStored, .ref a_t_isBrothStored, .int t_storeMany, .ref a_t_step, .ref a_t_stepF, .ref a_t_line, .int t_lineMany])), (a_t_signs, .inl (cT 2, 60, .inl t_signs))]) [0, 6] rfl)) (cV hta lm_X12_223 md_X12_isLetter ⟨(Nat.le_of_ble_eq_true rfl), (Nat.le_of_ble_eq_true rfl)⟩) ⟨fbK, va_recv hK hP (ci := 15) (q0 := 0) rfl rfl, fun U hU hW => ⟨rfl, hU, va_K.moved hW.alike hK⟩⟩ rfl rfl hl.1 rfl (lv_room (Nat.le_of_ble_eq_true rfl)) dX12_does_18 ⟨(Nat.le_of_ble_eq_true rfl), (Nat.le_of_ble_eq_true rfl)⟩) hS hA (fun locs hS => ?_)
    refine lv_istore_n (lv' := [(3, .int r7), (0, .ref a_t), (1, .int p1), (2, .int p2)]) hx hb dX12_does_21 rfl hl (by decide) rfl (fun ls hl => ?_)
    refine lv_aload_n hx hb dX12_does_22 rfl (lv_at hl 1 rfl) ?_
    refine va_get (D := (dC, dI)) (ci := 15) (v := .ref a_t_numbers) (C := RX12) (T := TX12) (N := 39) hx hb hta inX12w hown hK hP 0 rfl rfl 19 (by decide) (hta _ lk_X12_55) (fun _ h9 => h9) rfl dX12_does_23 ?_
    refine lv_iload_n hx hb dX12_does_26 rfl (lv_at hl 2 rfl) ?_
    obtain ⟨hc, h⟩ := gc_some h
    refine va_iald hx hb hK (rk hR0 hNA hS) 1 0 rfl rfl (inb_in hc) dX12_does_27 ?_
    refine lv_topi (fun v8 e_v8 => ?_)
    have h := gl_use e_v8 h
    refine lv_istore (lv' := [(4, .int v8), (3, .int r7), (0, .ref a_t), (1, .int p1), (2, .int p2)]) hx hb dX12_does_28 hl (by decide) rfl (fun ls hl => ?_)
    refine lv_aload_n hx hb dX12_does_30 rfl (lv_at hl 2 rfl) ?_
    refine va_get (D := (dC, dI)) (ci := 15) (v := .ref a_t_isBrothOn) (C := RX12) (T := TX12) (N := 39) hx hb hta inX12w hown hK hP 0 rfl rfl 24 (by decide) (hta _ lk_X12_61) (fun _ h9 => h9) rfl dX12_does_31 ?_
    refine lv_iload_n hx hb dX12_does_34 rfl (lv_at hl 4 rfl) ?_
    refine lv_iload_n hx hb dX12_does_35 rfl (lv_at hl 1 rfl) ?_
    refine lv_if_eq (tgt := 52) hx hb dX12_does_36 (by decide) (fun c0 => ?_) (fun c0 => ?_)
    · have h := (if_pos c0).symm.trans h
      exact wB_52 r7 v8 _ _ _ h hP hD hS (lv_sub hl [2, 4, 1, 0] rfl)
    · have h := (if_neg c0).symm.trans h
      refine lv_aload_n hx hb dX12_does_39 rfl (lv_at hl 2 rfl) ?_
      refine lv_iload hx hb dX12_does_40 (lv_at hl 0 rfl) ?_
      obtain ⟨r9, hq, h⟩ := gb_some h
      refine crI (va_runV (As := [.int v8]) (rest := [.int p2, .ref a_t_isBrothOn]) ⟨hx, hb, hml, hown, hta⟩ (c_X12_isBroth l dC dI cT hq (hP.sub (ws' := [(a_t, .inr (15, [.ref a_t_s, .ref a_t_f, .ref a_t_before, .ref a_t_beforeF, .ref a_t_aside, .ref a_t_asideF, .ref a_t_saved, .ref a_t_savedF, .int t_isSaved, .ref a_t_past, .ref a_t_pastF, .int t_pastMany, .int t_boiled, .int t_thrown, .ref a_t_refused, .ref a_t_text, .int t_length, .int t_error, .ref a_t_signs, .ref a_t_numbers, .int t_tokens, .int t_spoons, .int t_mostSpoons, .ref a_t_row, .ref a_t_isBrothOn, .ref a_t_dramsOn, .ref a_t_brothOn, .int t_cause, .int t_causeDetail, .ref a_t_lowOn, .ref a_t_highOn, .ref a_t_lowStored, .ref a_t_highStored, .ref a_t_isBrothStored, .int t_storeMany, .ref a_t_step, .ref a_t_stepF, .ref a_t_line, .int t_lineMany])), (a_t_s, .inl (cT 0, 282, .inl t_s))]) [0, 2] rfl)) (cV hta lm_X12_160 md_X12_isBroth ⟨(Nat.le_of_ble_eq_true rfl), (Nat.le_of_ble_eq_true rfl)⟩) ⟨fbK, va_recv hK hP (ci := 15) (q0 := 0) rfl rfl, fun U hU hW => ⟨rfl, hU, va_K.moved hW.alike hK⟩⟩ rfl rfl hl.1 rfl (lv_room (Nat.le_of_ble_eq_true rfl)) dX12_does_42 ⟨(Nat.le_of_ble_eq_true rfl), (Nat.le_of_ble_eq_true rfl)⟩) hS hA (fun locs hS => ?_)
      refine lv_if_eq (tgt := 52) hx hb dX12_does_45 (by decide) (fun c0 => ?_) (fun c0 => ?_)
      · have h := (if_pos c0).symm.trans h
        exact wB_52 r7 v8 _ _ _ h hP hD hS (lv_sub hl [2, 4, 1, 0] rfl)
      · have h := (if_neg c0).symm.trans h
        refine lv_iconst (v := 1) hx hb dX12_does_48 (by decide) ?_
        refine lv_goto (tgt := 53) hx hb dX12_does_49 (by decide) ?_
        exact wB_53 r7 v8 1 _ _ _ h hP hD hS (lv_sub hl [2, 4, 1, 0] rfl)
  unfold g_X12_does at h
  refine lv_aload_n hx hb dX12_does_0 rfl (lv_at hl 0 rfl) ?_
  refine lv_iload_n hx hb dX12_does_1 rfl (lv_at hl 1 rfl) ?_
  obtain ⟨r1, hq, h⟩ := gb_some h
  refine crI (va_runV (As := [.int p1]) (rest := []) ⟨hx, hb, hml, hown, hta⟩ (c_X12_isLetter l dC dI cT hq ((va_P.app hP (rk hR0 hNA hS)).sub (ws' := [(a_t, .inr (15, [.ref a_t_s, .ref a_t_f, .ref a_t_before, .ref a_t_beforeF, .ref a_t_aside, .ref a_t_asideF, .ref a_t_saved, .ref a_t_savedF, .int t_isSaved, .ref a_t_past, .ref a_t_pastF, .int t_pastMany, .int t_boiled, .int t_thrown, .ref a_t_refused, .ref a_t_text, .int t_length, .int t_error, .ref a_t_signs, .ref a_t_numbers, .int t_tokens, .int t_spoons, .int t_mostSpoons, .ref a_t_row, .ref a_t_isBrothOn, .ref a_t_dramsOn, .ref a_t_brothOn, .int t_cause, .int t_causeDetail, .ref a_t_lowOn, .ref a_t_highOn, .ref a_t_lowStored, .ref a_t_highStored, .ref a_t_isBrothStored, .int t_storeMany, .ref a_t_step, .ref a_t_stepF, .ref a_t_line, .int t_lineMany])), (a_t_signs, .inl (cT 2, 60, .inl t_signs))]) [0, 6] rfl)) (cV hta lm_X12_223 md_X12_isLetter ⟨(Nat.le_of_ble_eq_true rfl), (Nat.le_of_ble_eq_true rfl)⟩) ⟨fbK, va_recv hK hP (ci := 15) (q0 := 0) rfl rfl, fun U hU hW => ⟨rfl, hU, va_K.moved hW.alike hK⟩⟩ rfl rfl hl.1 rfl (lv_room (Nat.le_of_ble_eq_true rfl)) dX12_does_2 ⟨(Nat.le_of_ble_eq_true rfl), (Nat.le_of_ble_eq_true rfl)⟩) hS hA (fun locs hS => ?_)
  refine lv_if_ne (tgt := 16) hx hb dX12_does_5 (by decide) (fun c0 => ?_) (fun c0 => ?_)
  · have h := (if_neg c0).symm.trans h
    exact wB_16 _ _ _ h hP hD hS (lv_sub hl [0, 1, 2] rfl)
  · have h := (if_pos c0).symm.trans h
    refine lv_aload_n hx hb dX12_does_8 rfl (lv_at hl 0 rfl) ?_
    refine lv_iload_n hx hb dX12_does_9 rfl (lv_at hl 1 rfl) ?_
    obtain ⟨r2, hq, h⟩ := gb_some h
    refine crI (va_runV (As := [.int p1]) (rest := []) ⟨hx, hb, hml, hown, hta⟩ (c_X12_isNumber l dC dI cT hq ((va_P.app hP (rk hR0 hNA hS)).sub (ws' := [(a_t, .inr (15, [.ref a_t_s, .ref a_t_f, .ref a_t_before, .ref a_t_beforeF, .ref a_t_aside, .ref a_t_asideF, .ref a_t_saved, .ref a_t_savedF, .int t_isSaved, .ref a_t_past, .ref a_t_pastF, .int t_pastMany, .int t_boiled, .int t_thrown, .ref a_t_refused, .ref a_t_text, .int t_length, .int t_error, .ref a_t_signs, .ref a_t_numbers, .int t_tokens, .int t_spoons, .int t_mostSpoons, .ref a_t_row, .ref a_t_isBrothOn, .ref a_t_dramsOn, .ref a_t_brothOn, .int t_cause, .int t_causeDetail, .ref a_t_lowOn, .ref a_t_highOn, .ref a_t_lowStored, .ref a_t_highStored, .ref a_t_isBrothStored, .int t_storeMany, .ref a_t_step, .ref a_t_stepF, .ref a_t_line, .int t_lineMany])), (a_t_signs, .inl (cT 2, 60, .inl t_signs))]) [0, 6] rfl)) (cV hta lm_X12_257 md_X12_isNumber ⟨(Nat.le_of_ble_eq_true rfl), (Nat.le_of_ble_eq_true rfl)⟩) ⟨fbK, va_recv hK hP (ci := 15) (q0 := 0) rfl rfl, fun U hU hW => ⟨rfl, hU, va_K.moved hW.alike hK⟩⟩ rfl rfl hl.1 rfl (lv_room (Nat.le_of_ble_eq_true rfl)) dX12_does_10 ⟨(Nat.le_of_ble_eq_true rfl), (Nat.le_of_ble_eq_true rfl)⟩) hS hA (fun locs hS => ?_)
    refine lv_if_eq (tgt := 101) hx hb dX12_does_13 (by decide) (fun c0 => ?_) (fun c0 => ?_)
    · have h := (if_pos c0).symm.trans h
      refine lv_aload_n hx hb dX12_does_101 rfl (lv_at hl 0 rfl) ?_
      refine va_get (D := (dC, dI)) (ci := 15) (v := .ref a_t_signs) (C := RX12) (T := TX12) (N := 39) hx hb hta inX12w hown hK hP 0 rfl rfl 18 (by decide) (hta _ lk_X12_52) (fun _ h9 => h9) rfl dX12_does_102 ?_
      refine lv_iload_n hx hb dX12_does_105 rfl (lv_at hl 1 rfl) ?_
      obtain ⟨hc, h⟩ := gc_some h
      refine va_cald hx hb hK (rk hR0 hNA hS) 0 2 rfl rfl (inb_in hc) dX12_does_106 ?_
      by_cases cs3 : (t_signs p1.toNatClampNeg) = 33
      · have h := (if_pos cs3).symm.trans h
        refine lv_lookup (tgt := 154) hx hb dX12_does_107 (by decide) (by first | (rw [cs3]; done) | (rw [cs3]; rfl)) (by decide) ?_
        exact wB_154 _ _ _ h hP hD hS (lv_sub hl [0, 1, 2] rfl)
      · have h := (if_neg cs3).symm.trans h
        by_cases cs2 : (t_signs p1.toNatClampNeg) = 61
        · have h := (if_pos cs2).symm.trans h
          refine lv_lookup (tgt := 140) hx hb dX12_does_107 (by decide) (by first | (rw [cs2]; done) | (rw [cs2]; rfl)) (by decide) ?_
          refine lv_aload_n hx hb dX12_does_140 rfl (lv_at hl 0 rfl) ?_
          refine lv_aload_n hx hb dX12_does_141 rfl (lv_at hl 0 rfl) ?_
          refine va_get (D := (dC, dI)) (ci := 15) (v := .ref a_t_numbers) (C := RX12) (T := TX12) (N := 39) hx hb hta inX12w hown hK hP 0 rfl rfl 19 (by decide) (hta _ lk_X12_55) (fun _ h9 => h9) rfl dX12_does_142 ?_
          refine lv_iload_n hx hb dX12_does_145 rfl (lv_at hl 1 rfl) ?_
          obtain ⟨hc, h⟩ := gc_some h
          refine va_iald hx hb hK (rk hR0 hNA hS) 1 0 rfl rfl (inb_in hc) dX12_does_146 ?_
          refine lv_iload_n hx hb dX12_does_147 rfl (lv_at hl 2 rfl) ?_
          refine lv_iconst (v := 1) hx hb dX12_does_148 (by decide) ?_
          refine lv_isub hx hb dX12_does_149 ?_
          obtain ⟨r3, hq, h⟩ := gb_some h
          refine cxI (X2 := [(a_t, .inr (15, [.ref a_t_s, .ref a_t_f, .ref a_t_before, .ref a_t_beforeF, .ref a_t_aside, .ref a_t_asideF, .ref a_t_saved, .ref a_t_savedF, .int t_isSaved, .ref a_t_past, .ref a_t_pastF, .int t_pastMany, .int t_boiled, .int t_thrown, .ref a_t_refused, .ref a_t_text, .int t_length, .int t_error, .ref a_t_signs, .ref a_t_numbers, .int t_tokens, .int t_spoons, .int t_mostSpoons, .ref a_t_row, .ref a_t_isBrothOn, .ref a_t_dramsOn, .ref a_t_brothOn, .int r3.2.1, .int r3.2.2.1, .ref a_t_lowOn, .ref a_t_highOn, .ref a_t_lowStored, .ref a_t_highStored, .ref a_t_isBrothStored, .int t_storeMany, .ref a_t_step, .ref a_t_stepF, .ref a_t_line, .int t_lineMany])), (a_t_isBrothOn, .inl (cT 1, 6, .inl t_isBrothOn)), (a_t_s, .inl (cT 0, 282, .inl r3.2.2.2.1)), (a_t_dramsOn, .inl (cT 3, 6, .inr (.inl t_dramsOn))), (a_t_f, .inl (cT 4, 6, .inr (.inr (.inl r3.2.2.2.2)))), (a_t_brothOn, .inl (cT 4, 6, .inr (.inr (.inl t_brothOn))))]) (va_runV (As := [.int (t_numbers p1.toNatClampNeg), .int (p2 - 1)]) (rest := []) ⟨hx, hb, hml, hown, hta⟩ (c_X12_stores l dC dI cT rfl hq (hP.sub (ws' := [(a_t, .inr (15, [.ref a_t_s, .ref a_t_f, .ref a_t_before, .ref a_t_beforeF, .ref a_t_aside, .ref a_t_asideF, .ref a_t_saved, .ref a_t_savedF, .int t_isSaved, .ref a_t_past, .ref a_t_pastF, .int t_pastMany, .int t_boiled, .int t_thrown, .ref a_t_refused, .ref a_t_text, .int t_length, .int t_error, .ref a_t_signs, .ref a_t_numbers, .int t_tokens, .int t_spoons, .int t_mostSpoons, .ref a_t_row, .ref a_t_isBrothOn, .ref a_t_dramsOn, .ref a_t_brothOn, .int t_cause, .int t_causeDetail, .ref a_t_lowOn, .ref a_t_highOn, .ref a_t_lowStored, .ref a_t_highStored, .ref a_t_isBrothStored, .int t_storeMany, .ref a_t_step, .ref a_t_stepF, .ref a_t_line, .int t_lineMany])), (a_t_s, .inl (cT 0, 282, .inl t_s)), (a_t_f, .inl (cT 4, 6, .inr (.inr (.inl t_f))))]) [0, 2, 4] rfl) (hP.sub (ws' := [(a_t_isBrothOn, .inl (cT 1, 6, .inl t_isBrothOn)), (a_t_dramsOn, .inl (cT 3, 6, .inr (.inl t_dramsOn))), (a_t_brothOn, .inl (cT 4, 6, .inr (.inr (.inl t_brothOn))))]) [1, 3, 5] rfl) (ds hD [0, 2, 4] (by decide) rfl) (nac hP hD [0, 2, 4] rfl (va_free hD hS hA [0, 2, 4] rfl) na_nil [.inr 1, .inr 3, .inr 5] rfl rfl)) (cV hta lm_X12_260 md_X12_stores ⟨(Nat.le_of_ble_eq_true rfl), (Nat.le_of_ble_eq_true rfl)⟩) ⟨fbK, va_recv hK hP (ci := 15) (q0 := 0) rfl rfl, fun U hU hW => ⟨rfl, hU, va_K.moved hW.alike hK⟩⟩ rfl rfl hl.1 rfl (lv_room (Nat.le_of_ble_eq_true rfl)) dX12_does_150 ⟨(Nat.le_of_ble_eq_true rfl), (Nat.le_of_ble_eq_true rfl)⟩) hS hA hP hD [0, 2, 4] rfl [.inl 0, .inr 1, .inl 1, .inr 3, .inl 2, .inr 5] rfl rfl rfl (fun H locs hP hD hS => ?_)
          obtain ⟨hc, h⟩ := gc_some h
          have ho := Option.some.inj h
          rw [hQ]
          exact W.zret (ty := .boolean) (v := r3.1) hx hb hr (bo_n hc) (fun t ht hW => ⟨⟨r3.1, (), rfl, by rw [← ho], by show va_P (dC, dI) vwCl _ t.heap; rw [ht, ← ho]; exact hP⟩, hS.F ht⟩) hS.2.2 dX12_does_153
        · have h := (if_neg cs2).symm.trans h
          by_cases cs1 : (t_signs p1.toNatClampNeg) = 126
          · have h := (if_pos cs1).symm.trans h
            refine lv_lookup (tgt := 154) hx hb dX12_does_107 (by decide) (by first | (rw [cs1]; done) | (rw [cs1]; rfl)) (by decide) ?_
            exact wB_154 _ _ _ h hP hD hS (lv_sub hl [0, 1, 2] rfl)
          · have h := (if_neg cs1).symm.trans h
            refine lv_lookup (tgt := 168) (off := 61) hx hb dX12_does_107 (by decide) (by show Op.lookupswitch.offset [(33, 47), (61, 33), (126, 47)] _ _ = _; first | (rw [lv_osw cs3 (a := 33) (by decide), lv_osw cs2 (a := 61) (by decide), lv_osw cs1 (a := 126) (by decide)]; done) | (rw [lv_osw cs3 (a := 33) (by decide), lv_osw cs2 (a := 61) (by decide), lv_osw cs1 (a := 126) (by decide)]; rfl)) (by decide) ?_
            refine lv_aload_n hx hb dX12_does_168 rfl (lv_at hl 0 rfl) ?_
            refine lv_aload_n hx hb dX12_does_169 rfl (lv_at hl 0 rfl) ?_
            refine va_get (D := (dC, dI)) (ci := 15) (v := .ref a_t_signs) (C := RX12) (T := TX12) (N := 39) hx hb hta inX12w hown hK hP 0 rfl rfl 18 (by decide) (hta _ lk_X12_52) (fun _ h9 => h9) rfl dX12_does_170 ?_
            refine lv_iload_n hx hb dX12_does_173 rfl (lv_at hl 1 rfl) ?_
            obtain ⟨hc, h⟩ := gc_some h
            refine va_cald hx hb hK (rk hR0 hNA hS) 0 2 rfl rfl (inb_in hc) dX12_does_174 ?_
            refine lv_iload_n hx hb dX12_does_175 rfl (lv_at hl 2 rfl) ?_
            refine lv_iconst (v := 1) hx hb dX12_does_176 (by decide) ?_
            refine lv_isub hx hb dX12_does_177 ?_
            obtain ⟨r4, hq, h⟩ := gb_some h
            refine cxI (X2 := [(a_t, .inr (15, [.ref a_t_s, .ref a_t_f, .ref a_t_before, .ref a_t_beforeF, .ref a_t_aside, .ref a_t_asideF, .ref a_t_saved, .ref a_t_savedF, .int t_isSaved, .ref a_t_past, .ref a_t_pastF, .int t_pastMany, .int t_boiled, .int t_thrown, .ref a_t_refused, .ref a_t_text, .int t_length, .int t_error, .ref a_t_signs, .ref a_t_numbers, .int t_tokens, .int t_spoons, .int t_mostSpoons, .ref a_t_row, .ref a_t_isBrothOn, .ref a_t_dramsOn, .ref a_t_brothOn, .int r4.2.1, .int r4.2.2.1, .ref a_t_lowOn, .ref a_t_highOn, .ref a_t_lowStored, .ref a_t_highStored, .ref a_t_isBrothStored, .int t_storeMany, .ref a_t_step, .ref a_t_stepF, .ref a_t_line, .int t_lineMany])), (a_t_isBrothOn, .inl (cT 1, 6, .inl t_isBrothOn)), (a_t_s, .inl (cT 0, 282, .inl t_s)), (a_t_dramsOn, .inl (cT 3, 6, .inr (.inl r4.2.2.2.1))), (a_t_f, .inl (cT 4, 6, .inr (.inr (.inl t_f)))), (a_t_brothOn, .inl (cT 4, 6, .inr (.inr (.inl r4.2.2.2.2))))]) (va_runV (As := [.int (t_signs p1.toNatClampNeg), .int (p2 - 1)]) (rest := []) ⟨hx, hb, hml, hown, hta⟩ (c_X12_reckons l dC dI cT rfl hq (hP.sub (ws' := [(a_t, .inr (15, [.ref a_t_s, .ref a_t_f, .ref a_t_before, .ref a_t_beforeF, .ref a_t_aside, .ref a_t_asideF, .ref a_t_saved, .ref a_t_savedF, .int t_isSaved, .ref a_t_past, .ref a_t_pastF, .int t_pastMany, .int t_boiled, .int t_thrown, .ref a_t_refused, .ref a_t_text, .int t_length, .int t_error, .ref a_t_signs, .ref a_t_numbers, .int t_tokens, .int t_spoons, .int t_mostSpoons, .ref a_t_row, .ref a_t_isBrothOn, .ref a_t_dramsOn, .ref a_t_brothOn, .int t_cause, .int t_causeDetail, .ref a_t_lowOn, .ref a_t_highOn, .ref a_t_lowStored, .ref a_t_highStored, .ref a_t_isBrothStored, .int t_storeMany, .ref a_t_step, .ref a_t_stepF, .ref a_t_line, .int t_lineMany])), (a_t_dramsOn, .inl (cT 3, 6, .inr (.inl t_dramsOn))), (a_t_brothOn, .inl (cT 4, 6, .inr (.inr (.inl t_brothOn))))]) [0, 3, 5] rfl) (hP.sub (ws' := [(a_t_isBrothOn, .inl (cT 1, 6, .inl t_isBrothOn))]) [1] rfl) (ds hD [0, 3, 5] (by decide) rfl) (nac hP hD [0, 3, 5] rfl (va_free hD hS hA [0, 3, 5] rfl) na_nil [.inr 1] rfl rfl)) (cV hta lm_X12_267 md_X12_reckons ⟨(Nat.le_of_ble_eq_true rfl), (Nat.le_of_ble_eq_true rfl)⟩) ⟨fbK, va_recv hK hP (ci := 15) (q0 := 0) rfl rfl, fun U hU hW => ⟨rfl, hU, va_K.moved hW.alike hK⟩⟩ rfl rfl hl.1 rfl (lv_room (Nat.le_of_ble_eq_true rfl)) dX12_does_178 ⟨(Nat.le_of_ble_eq_true rfl), (Nat.le_of_ble_eq_true rfl)⟩) hS hA hP hD [0, 3, 5] rfl [.inl 0, .inr 1, .inr 2, .inl 1, .inr 4, .inl 2] rfl rfl rfl (fun H locs hP hD hS => ?_)
            obtain ⟨hc, h⟩ := gc_some h
            have ho := Option.some.inj h
            rw [hQ]
            exact W.zret (ty := .boolean) (v := r4.1) hx hb hr (bo_n hc) (fun t ht hW => ⟨⟨r4.1, (), rfl, by rw [← ho], by show va_P (dC, dI) vwCl _ t.heap; rw [ht, ← ho]; exact hP⟩, hS.F ht⟩) hS.2.2 dX12_does_181
    · have h := (if_neg c0).symm.trans h
      exact wB_16 _ _ _ h hP hD hS (lv_sub hl [0, 1, 2] rfl)
