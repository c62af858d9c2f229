set_option maxHeartbeats 4000000 in
set_option maxRecDepth 100000 in
theorem c_X12_refuse (l : Launch) (dC : Nat → ClassId) (dI : Nat → Nat → Nat) (cT : Nat → ClassId) {Hh : Heap} {a_t : Nat} {a_t_refused : Nat} {a_t_s : Nat} {a_t_f : Nat} {a_t_before : Nat} {a_t_beforeF : Nat} {a_t_aside : Nat} {a_t_asideF : Nat} {a_t_saved : Nat} {a_t_savedF : Nat} {a_t_past : Nat} {a_t_pastF : Nat} {a_t_text : Nat} {a_t_signs : Nat} {a_t_numbers : Nat} {a_t_row : Nat} {a_t_isBrothOn : Nat} {a_t_dramsOn : Nat} {a_t_brothOn : Nat} {a_t_lowOn : Nat} {a_t_highOn : Nat} {a_t_lowStored : Nat} {a_t_highStored : Nat} {a_t_isBrothStored : Nat} {a_t_step : Nat} {a_t_stepF : Nat} {a_t_line : Nat} {t_thrown : Int32} {t_refused : Nat → Int32} {p1 : Int32} {p2 : Int32} {p3 : Int32} {t_isSaved : Int32} {t_pastMany : Int32} {t_boiled : Int32} {t_length : Int32} {t_error : Int32} {t_tokens : Int32} {t_spoons : Int32} {t_mostSpoons : Int32} {t_cause : Int32} {t_causeDetail : Int32} {t_storeMany : Int32} {t_lineMany : Int32} {XW : va_W} (eX : XW = [(a_t, .inr (15, [.ref a_t_s, .ref a_t_f, .ref a_t_before, .ref a_t_beforeF, .ref a_t_aside, .ref a_t_asideF, .ref a_t_saved, .ref a_t_savedF, .int t_isSaved, .ref a_t_past, .ref a_t_pastF, .int t_pastMany, .int t_boiled, .int t_thrown, .ref a_t_refused, .ref a_t_text, .int t_length, .int t_error, .ref a_t_signs, .ref a_t_numbers, .int t_tokens, .int t_spoons, .int t_mostSpoons, .ref a_t_row, .ref a_t_isBrothOn, .ref a_t_dramsOn, .ref a_t_brothOn, .int t_cause, .int t_causeDetail, .ref a_t_lowOn, .ref a_t_highOn, .ref a_t_lowStored, .ref a_t_highStored, .ref a_t_isBrothStored, .int t_storeMany, .ref a_t_step, .ref a_t_stepF, .ref a_t_line, .int t_lineMany])), (a_t_refused, .inl (cT 0, 4, .inl t_refused))]) {o : Int32 × Int32 × (Nat → Int32)} (h : g_X12_refuse t_thrown t_refused p1 p2 p3 = some o) (hP0 : va_P (dC, dI) vwCl XW Hh) (hD0 : va_D (fun _ => True) XW) : Met l yX12_refuse (wA yX12_refuse cX12_refuse 4 (some .int)) ({ frames := 1, cells := 0, slots := 0, locals := 25 } : Room) (PK dC dI cT [.ref a_t, .int p1, .int p2, .int p3] Hh) (va_Qi (fun x (_ : Unit) => x = o.1) (fun _ t => va_P (dC, dI) vwCl [(a_t, .inr (15, [.ref a_t_s, .ref a_t_f, .ref a_t_before, .ref a_t_beforeF, .ref a_t_aside, .ref a_t_asideF, .ref a_t_saved, .ref a_t_savedF, .int t_isSaved, .ref a_t_past, .ref a_t_pastF, .int t_pastMany, .int t_boiled, .int o.2.1, .ref a_t_refused, .ref a_t_text, .int t_length, .int t_error, .ref a_t_signs, .ref a_t_numbers, .int t_tokens, .int t_spoons, .int t_mostSpoons, .ref a_t_row, .ref a_t_isBrothOn, .ref a_t_dramsOn, .ref a_t_brothOn, .int t_cause, .int t_causeDetail, .ref a_t_lowOn, .ref a_t_highOn, .ref a_t_lowStored, .ref a_t_highStored, .ref a_t_isBrothStored, .int t_storeMany, .ref a_t_step, .ref a_t_stepF, .ref a_t_line, .int t_lineMany])), (a_t_refused, .inl (cT 0, 4, .inl o.2.2))] t.heap) (va_A XW Hh.size)) 0 0 (va_A XW Hh.size) := by
  subst eX
  refine Met.ofW (cc := cX12_refuse) (maxL := 4) (ret := (some .int)) (by decide) rfl ?_
  intro p e s m args below meth c s₁ B hml hv
  obtain ⟨rfl, hH, hK⟩ := hv
  subst hH
  have hx := B.exec
  have hb := B.bytes
  have hr := B.returns
  have hta : ∀ w ∈ ALLW, w.before [.ref a_t, .int p1, .int p2, .int p3].toArray s = true := fun w hw => atoms_spec (ws := wA yX12_refuse cX12_refuse 4 (some .int)) B.pre w (List.mem_cons_of_mem _ hw)
  have hown : s.vm.findClass RX12 = some m.cls := findClass_of_methodNamed B.named
  have hlocks := B.notSynchronized
  have hD := hD0.self (sz := s.heap.size)
  generalize hAe : va_A [(a_t, .inr (15, [.ref a_t_s, .ref a_t_f, .ref a_t_before, .ref a_t_beforeF, .ref a_t_aside, .ref a_t_asideF, .ref a_t_saved, .ref a_t_savedF, .int t_isSaved, .ref a_t_past, .ref a_t_pastF, .int t_pastMany, .int t_boiled, .int t_thrown, .ref a_t_refused, .ref a_t_text, .int t_length, .int t_error, .ref a_t_signs, .ref a_t_numbers, .int t_tokens, .int t_spoons, .int t_mostSpoons, .ref a_t_row, .ref a_t_isBrothOn, .ref a_t_dramsOn, .ref a_t_brothOn, .int t_cause, .int t_causeDetail, .ref a_t_lowOn, .ref a_t_highOn, .ref a_t_lowStored, .ref a_t_highStored, .ref a_t_isBrothStored, .int t_storeMany, .ref a_t_step, .ref a_t_stepF, .ref a_t_line, .int t_lineMany])), (a_t_refused, .inl (cT 0, 4, .inl t_refused))] s.heap.size = A at hD ⊢
  have hP := hP0
  have hA : ∀ q : Nat, s.heap.size ≤ q → A q := fun q h => by rw [← hAe]; exact Or.inr h
  have hS : va_S A s.heap s.heap [] := va_S.rf
  have hl := lv_entry [.ref a_t, .int p1, .int p2, .int p3] (n := 4) (Nat.le_of_ble_eq_true rfl)
  rw [lg_entry_eq]
  generalize (lg_sl [.ref a_t, .int p1, .int p2, .int p3] ++ List.replicate (4 - (lg_sl [.ref a_t, .int p1, .int p2, .int p3]).length) Slot.unset).toArray = ls at hl ⊢
  have hl : lv_has ls 4 [(0, .ref a_t), (1, .int p1), (2, .int p2), (3, .int p3)] := hl
  unfold g_X12_refuse at h
  refine lv_aload_n hx hb dX12_refuse_0 rfl (lv_at hl 0 rfl) ?_
  refine lv_iload_n hx hb dX12_refuse_1 rfl (lv_at hl 1 rfl) ?_
  refine lv_iload_n hx hb dX12_refuse_2 rfl (lv_at hl 2 rfl) ?_
  refine lv_iload_n hx hb dX12_refuse_3 rfl (lv_at hl 3 rfl) ?_
  refine lv_iconst (v := 0) hx hb dX12_refuse_4 (by decide) ?_
  refine lv_iconst (v := 0) hx hb dX12_refuse_5 (by decide) ?_
  obtain ⟨r1, hq, h⟩ := gb_some h
  refine cxI (X2 := [(a_t, .inr (15, [.ref a_t_s, .ref a_t_f, .ref a_t_before, .ref a_t_beforeF, .ref a_t_aside, .ref a_t_asideF, .ref a_t_saved, .ref a_t_savedF, .int t_isSaved, .ref a_t_past, .ref a_t_pastF, .int t_pastMany, .int t_boiled, .int r1.2.1, .ref a_t_refused, .ref a_t_text, .int t_length, .int t_error, .ref a_t_signs, .ref a_t_numbers, .int t_tokens, .int t_spoons, .int t_mostSpoons, .ref a_t_row, .ref a_t_isBrothOn, .ref a_t_dramsOn, .ref a_t_brothOn, .int t_cause, .int t_causeDetail, .ref a_t_lowOn, .ref a_t_highOn, .ref a_t_lowStored, .ref a_t_highStored, .ref a_t_isBrothStored, .int t_storeMany, .ref a_t_step, .ref a_t_stepF, .ref a_t_line, .int t_lineMany])), (a_t_refused, .inl (cT 0, 4, .inl r1.2.2))]) (va_runV (As := [.int p1, .int p2, .int p3, .int 0, .int 0]) (rest := []) ⟨hx, hb, hml, hown, hta⟩ (c_X12_refuseFor l dC dI cT rfl hq (hP.sub (ws' := [(a_t, .inr (15, [.ref a_t_s, .ref a_t_f, .ref a_t_before, .ref a_t_beforeF, .ref a_t_aside, .ref a_t_asideF, .ref a_t_saved, .ref a_t_savedF, .int t_isSaved, .ref a_t_past, .ref a_t_pastF, .int t_pastMany, .int t_boiled, .int t_thrown, .ref a_t_refused, .ref a_t_text, .int t_length, .int t_error, .ref a_t_signs, .ref a_t_numbers, .int t_tokens, .int t_spoons, .int t_mostSpoons, .ref a_t_row, .ref a_t_isBrothOn, .ref a_t_dramsOn, .ref a_t_brothOn, .int t_cause, .int t_causeDetail, .ref a_t_lowOn, .ref a_t_highOn, .ref a_t_lowStored, .ref a_t_highStored, .ref a_t_isBrothStored, .int t_storeMany, .ref a_t_step, .ref a_t_stepF, .ref a_t_line, .int t_lineMany])), (a_t_refused, .inl (cT 0, 4, .inl t_refused))]) [0, 1] rfl) (ds hD [0, 1] (by decide) rfl)) (cV hta lm_X12_108 md_X12_refuseFor ⟨(Nat.le_of_ble_eq_true rfl), (Nat.le_of_ble_eq_true rfl)⟩) ⟨fbK, va_recv hK hP (ci := 15) (q0 := 0) rfl rfl, fun U hU hW => ⟨rfl, hU, va_K.moved hW.alike hK⟩⟩ rfl rfl hl.1 rfl (lv_room (Nat.le_of_ble_eq_true rfl)) dX12_refuse_6 ⟨(Nat.le_of_ble_eq_true rfl), (Nat.le_of_ble_eq_true rfl)⟩) hS hA hP hD [0, 1] rfl [.inl 0, .inl 1] rfl rfl rfl (fun H locs hP hD hS => ?_)
  have ho := Option.some.inj h
  exact W.iret (v := r1.1) hx hb hr (fun t ht hW => ⟨⟨r1.1, (), rfl, by rw [← ho], by show va_P (dC, dI) vwCl _ t.heap; rw [ht, ← ho]; exact hP⟩, hS.F ht⟩) hS.2.2 dX12_refuse_9
set_option maxHeartbeats 4000000 in
set_option maxRecDepth 100000 in
theorem c_X12_reason (l : Launch) (dC : Nat → ClassId) (dI : Nat → Nat → Nat) (cT : Nat → ClassId) {Hh : Heap} {a_t : Nat} {a_t_refused : Nat} {a_t_s : Nat} {a_t_f : Nat} {a_t_before : Nat} {a_t_beforeF : Nat} {a_t_aside : Nat} {a_t_asideF : Nat} {a_t_saved : Nat} {a_t_savedF : Nat} {a_t_past : Nat} {a_t_pastF : Nat} {a_t_text : Nat} {a_t_signs : Nat} {a_t_numbers : Nat} {a_t_row : Nat} {a_t_isBrothOn : Nat} {a_t_dramsOn : Nat} {a_t_brothOn : Nat} {a_t_lowOn : Nat} {a_t_highOn : Nat} {a_t_lowStored : Nat} {a_t_highStored : Nat} {a_t_isBrothStored : Nat} {a_t_step : Nat} {a_t_stepF : Nat} {a_t_line : Nat} {t_thrown : Int32} {t_refused : Nat → Int32} {p1 : Int32} {p2 : Int32} {t_isSaved : Int32} {t_pastMany : Int32} {t_boiled : Int32} {t_length : Int32} {t_error : Int32} {t_tokens : Int32} {t_spoons : Int32} {t_mostSpoons : Int32} {t_cause : Int32} {t_causeDetail : Int32} {t_storeMany : Int32} {t_lineMany : Int32} {XW : va_W} (eX : XW = [(a_t, .inr (15, [.ref a_t_s, .ref a_t_f, .ref a_t_before, .ref a_t_beforeF, .ref a_t_aside, .ref a_t_asideF, .ref a_t_saved, .ref a_t_savedF, .int t_isSaved, .ref a_t_past, .ref a_t_pastF, .int t_pastMany, .int t_boiled, .int t_thrown, .ref a_t_refused, .ref a_t_text, .int t_length, .int t_error, .ref a_t_signs, .ref a_t_numbers, .int t_tokens, .int t_spoons, .int t_mostSpoons, .ref a_t_row, .ref a_t_isBrothOn, .ref a_t_dramsOn, .ref a_t_brothOn, .int t_cause, .int t_causeDetail, .ref a_t_lowOn, .ref a_t_highOn, .ref a_t_lowStored, .ref a_t_highStored, .ref a_t_isBrothStored, .int t_storeMany, .ref a_t_step, .ref a_t_stepF, .ref a_t_line, .int t_lineMany]))]) {o : Int32 × Int32} (h : g_X12_reason t_thrown t_refused p1 p2 = some o) (hP0 : va_P (dC, dI) vwCl XW Hh) (hR0 : va_P (dC, dI) vwCl [(a_t_refused, .inl (cT 0, 4, .inl t_refused))] Hh) (hD0 : va_D (fun _ => True) XW) (hN0 : ∀ (k : Nat) (q : Nat × va_E), ([(a_t_refused, .inl (cT 0, 4, .inl t_refused))] : va_W)[k]? = some q → ¬ va_A XW Hh.size q.1) : Met l yX12_reason (wA yX12_reason cX12_reason 4 (some .int)) ({ frames := 0, cells := 0, slots := 0, locals := 0 } : Room) (PK dC dI cT [.ref a_t, .int p1, .int p2] Hh) (va_Qi (fun x (_ : Unit) => x = o.1) (fun _ t => va_P (dC, dI) vwCl [(a_t, .inr (15, [.ref a_t_s, .ref a_t_f, .ref a_t_before, .ref a_t_beforeF, .ref a_t_aside, .ref a_t_asideF, .ref a_t_saved, .ref a_t_savedF, .int t_isSaved, .ref a_t_past, .ref a_t_pastF, .int t_pastMany, .int t_boiled, .int o.2, .ref a_t_refused, .ref a_t_text, .int t_length, .int t_error, .ref a_t_signs, .ref a_t_numbers, .int t_tokens, .int t_spoons, .int t_mostSpoons, .ref a_t_row, .ref a_t_isBrothOn, .ref a_t_dramsOn, .ref a_t_brothOn, .int t_cause, .int t_causeDetail, .ref a_t_lowOn, .ref a_t_highOn, .ref a_t_lowStored, .ref a_t_highStored, .ref a_t_isBrothStored, .int t_storeMany, .ref a_t_step, .ref a_t_stepF, .ref a_t_line, .int t_lineMany]))] t.heap) (va_A XW Hh.size)) 0 0 (va_A XW Hh.size) := by
  subst eX
  refine Met.ofW (cc := cX12_reason) (maxL := 4) (ret := (some .int)) (by decide) rfl ?_
  intro p e s m args below meth c s₁ B hml hv
  obtain ⟨rfl, hH, hK⟩ := hv
  subst hH
  have hx := B.exec
  have hb := B.bytes
  have hr := B.returns
  have hta : ∀ w ∈ ALLW, w.before [.ref a_t, .int p1, .int p2].toArray s = true := fun w hw => atoms_spec (ws := wA yX12_reason cX12_reason 4 (some .int)) B.pre w (List.mem_cons_of_mem _ hw)
  have hown : s.vm.findClass RX12 = some m.cls := findClass_of_methodNamed B.named
  have hlocks := B.notSynchronized
  have hD := hD0.self (sz := s.heap.size)
  have hNA := hN0
  generalize hAe : va_A [(a_t, .inr (15, [.ref a_t_s, .ref a_t_f, .ref a_t_before, .ref a_t_beforeF, .ref a_t_aside, .ref a_t_asideF, .ref a_t_saved, .ref a_t_savedF, .int t_isSaved, .ref a_t_past, .ref a_t_pastF, .int t_pastMany, .int t_boiled, .int t_thrown, .ref a_t_refused, .ref a_t_text, .int t_length, .int t_error, .ref a_t_signs, .ref a_t_numbers, .int t_tokens, .int t_spoons, .int t_mostSpoons, .ref a_t_row, .ref a_t_isBrothOn, .ref a_t_dramsOn, .ref a_t_brothOn, .int t_cause, .int t_causeDetail, .ref a_t_lowOn, .ref a_t_highOn, .ref a_t_lowStored, .ref a_t_highStored, .ref a_t_isBrothStored, .int t_storeMany, .ref a_t_step, .ref a_t_stepF, .ref a_t_line, .int t_lineMany]))] s.heap.size = A at hD hNA ⊢
  have hP := hP0
  have hA : ∀ q : Nat, s.heap.size ≤ q → A q := fun q h => by rw [← hAe]; exact Or.inr h
  have hS : va_S A s.heap s.heap [] := va_S.rf
  have hl := lv_entry [.ref a_t, .int p1, .int p2] (n := 4) (Nat.le_of_ble_eq_true rfl)
  rw [lg_entry_eq]
  generalize (lg_sl [.ref a_t, .int p1, .int p2] ++ List.replicate (4 - (lg_sl [.ref a_t, .int p1, .int p2]).length) Slot.unset).toArray = ls at hl ⊢
  have hl : lv_has ls 4 [(0, .ref a_t), (1, .int p1), (2, .int p2)] := hl
  obtain ⟨Q, hQ⟩ : ∃ Q, Q = MQ below (va_Qi (fun x (_ : Unit) => x = o.1) (fun _ t => va_P (dC, dI) vwCl [(a_t, .inr (15, [.ref a_t_s, .ref a_t_f, .ref a_t_before, .ref a_t_beforeF, .ref a_t_aside, .ref a_t_asideF, .ref a_t_saved, .ref a_t_savedF, .int t_isSaved, .ref a_t_past, .ref a_t_pastF, .int t_pastMany, .int t_boiled, .int o.2, .ref a_t_refused, .ref a_t_text, .int t_length, .int t_error, .ref a_t_signs, .ref a_t_numbers, .int t_tokens, .int t_spoons, .int t_mostSpoons, .ref a_t_row, .ref a_t_isBrothOn, .ref a_t_dramsOn, .ref a_t_brothOn, .int t_cause, .int t_causeDetail, .ref a_t_lowOn, .ref a_t_highOn, .ref a_t_lowStored, .ref a_t_highStored, .ref a_t_isBrothStored, .int t_storeMany, .ref a_t_step, .ref a_t_stepF, .ref a_t_line, .int t_lineMany]))] t.heap) A) [.ref a_t, .int p1, .int p2].toArray s 0 0 A := ⟨_, rfl⟩
  rw [← hQ]
  have wB_25 : ∀ (x3_25 : Int32) (s1_25 : Int32) (H : Heap) (locs : List Loc) (ls : Array Slot), g_X12_reason_b25 t_refused p2 x3_25 s1_25 = some o → va_P (dC, dI) vwCl [(a_t, .inr (15, [.ref a_t_s, .ref a_t_f, .ref a_t_before, .ref a_t_beforeF, .ref a_t_aside, .ref a_t_asideF, .ref a_t_saved, .ref a_t_savedF, .int t_isSaved, .ref a_t_past, .ref a_t_pastF, .int t_pastMany, .int t_boiled, .int t_thrown, .ref a_t_refused, .ref a_t_text, .int t_length, .int t_error, .ref a_t_signs, .ref a_t_numbers, .int t_tokens, .int t_spoons, .int t_mostSpoons, .ref a_t_row, .ref a_t_isBrothOn, .ref a_t_dramsOn, .ref a_t_brothOn, .int t_cause, .int t_causeDetail, .ref a_t_lowOn, .ref a_t_highOn, .ref a_t_lowStored, .ref a_t_highStored, .ref a_t_isBrothStored, .int t_storeMany, .ref a_t_step, .ref a_t_stepF, .ref a_t_line, .int t_lineMany]))] H → va_D A [(a_t, .inr (15, [.ref a_t_s, .ref a_t_f, .ref a_t_before, .ref a_t_beforeF, .ref a_t_aside, .ref a_t_asideF, .ref a_t_saved, .ref a_t_savedF, .int t_isSaved, .ref a_t_past, .ref a_t_pastF, .int t_pastMany, .int t_boiled, .int t_thrown, .ref a_t_refused, .ref a_t_text, .int t_length, .int t_error, .ref a_t_signs, .ref a_t_numbers, .int t_tokens, .int t_spoons, .int t_mostSpoons, .ref a_t_row, .ref a_t_isBrothOn, .ref a_t_dramsOn, .ref a_t_brothOn, .int t_cause, .int t_causeDetail, .ref a_t_lowOn, .ref a_t_highOn, .ref a_t_lowStored, .ref a_t_highStored, .ref a_t_isBrothStored, .int t_storeMany, .ref a_t_step, .ref a_t_stepF, .ref a_t_line, .int t_lineMany]))] → va_S A s.heap H locs → lv_has ls 4 [(0, .ref a_t), (2, .int p2), (3, .int x3_25)] → W p l e ({ frames := 0, cells := 0, slots := 0, locals := 0 } : Room) s m [.ref a_t, .int p1, .int p2].toArray below meth c H locs 0 0 Q (F0 m 25 ls [.int s1_25, .ref a_t]) := by
    intro x3_25 s1_25 H locs ls h hP hD hS hl
    unfold g_X12_reason_b25 at h
    refine va_put (D := (dC, dI)) (ci := 15) (v := .int s1_25) (ty := .int) (C := RX12) (T := TX12) (N := 39) hx hb hta inX12w tyX12 tyX12_ok nmX12 hown hK hP hD hS 0 rfl rfl 13 (by decide) (hta _ lk_X12_96) (fun _ h9 => h9) rfl (by decide +kernel) rfl rfl (Nat.le_of_ble_eq_true rfl) dX12_reason_25 (fun H locs hP hD hS => ?_)
    have hP : va_P (dC, dI) vwCl [(a_t, .inr (15, [.ref a_t_s, .ref a_t_f, .ref a_t_before, .ref a_t_beforeF, .ref a_t_aside, .ref a_t_asideF, .ref a_t_saved, .ref a_t_savedF, .int t_isSaved, .ref a_t_past, .ref a_t_pastF, .int t_pastMany, .int t_boiled, .int s1_25, .ref a_t_refused, .ref a_t_text, .int t_length, .int t_error, .ref a_t_signs, .ref a_t_numbers, .int t_tokens, .int t_spoons, .int t_mostSpoons, .ref a_t_row, .ref a_t_isBrothOn, .ref a_t_dramsOn, .ref a_t_brothOn, .int t_cause, .int t_causeDetail, .ref a_t_lowOn, .ref a_t_highOn, .ref a_t_lowStored, .ref a_t_highStored, .ref a_t_isBrothStored, .int t_storeMany, .ref a_t_step, .ref a_t_stepF, .ref a_t_line, .int t_lineMany]))] H := hP
    have hD : va_D A [(a_t, .inr (15, [.ref a_t_s, .ref a_t_f, .ref a_t_before, .ref a_t_beforeF, .ref a_t_aside, .ref a_t_asideF, .ref a_t_saved, .ref a_t_savedF, .int t_isSaved, .ref a_t_past, .ref a_t_pastF, .int t_pastMany, .int t_boiled, .int s1_25, .ref a_t_refused, .ref a_t_text, .int t_length, .int t_error, .ref a_t_signs, .ref a_t_numbers, .int t_tokens, .int t_spoons, .int t_mostSpoons, .ref a_t_row, .ref a_t_isBrothOn, .ref a_t_dramsOn, .ref a_t_brothOn, .int t_cause, .int t_causeDetail, .ref a_t_lowOn, .ref a_t_highOn, .ref a_t_lowStored, .ref a_t_highStored, .ref a_t_isBrothStored, .int t_storeMany, .ref a_t_step, .ref a_t_stepF, .ref a_t_line, .int t_lineMany]))] := hD
    refine lv_aload_n hx hb dX12_reason_28 rfl (lv_at hl 0 rfl) ?_
    refine va_get (D := (dC, dI)) (ci := 15) (v := .int s1_25) (C := RX12) (T := TX12) (N := 39) hx hb hta inX12w hown hK hP 0 rfl rfl 13 (by decide) (hta _ lk_X12_96) (fun _ h9 => h9) rfl dX12_reason_29 ?_
    refine lv_if_le (tgt := 39) hx hb dX12_reason_32 (by decide) (fun c0 => ?_) (fun c0 => ?_)
    · have h := (if_pos c0).symm.trans h
      refine lv_aload_n hx hb dX12_reason_39 rfl (lv_at hl 0 rfl) ?_
      refine va_get (D := (dC, dI)) (ci := 15) (v := .ref a_t_refused) (C := RX12) (T := TX12) (N := 39) hx hb hta inX12w hown hK hP 0 rfl rfl 14 (by decide) (hta _ lk_X12_41) (fun _ h9 => h9) rfl dX12_reason_40 ?_
      refine lv_iload_n hx hb dX12_reason_43 rfl (lv_at hl 2 rfl) ?_
      refine lv_iload_n hx hb dX12_reason_44 rfl (lv_at hl 1 rfl) ?_
      refine lv_if_eq (tgt := 52) hx hb dX12_reason_45 (by decide) (fun c0 => ?_) (fun c0 => ?_)
      · have h := (if_pos c0).symm.trans h
        refine lv_iconst (v := 0) hx hb dX12_reason_52 (by decide) ?_
        refine lv_iadd hx hb dX12_reason_53 ?_
        obtain ⟨hc, h⟩ := gc_some h
        refine va_iald hx hb hK (rk hR0 hNA hS) 0 0 rfl rfl (inb_in hc) dX12_reason_54 ?_
        refine lv_topi (fun v1 e_v1 => ?_)
        have h := gl_use e_v1 h
        have ho := Option.some.inj h
        rw [hQ]
        exact W.iret (v := v1) hx hb hr (fun t ht hW => ⟨⟨v1, (), rfl, by rw [← ho], by show va_P (dC, dI) vwCl _ t.heap; rw [ht, ← ho]; exact hP⟩, hS.F ht⟩) hS.2.2 dX12_reason_55
      · have h := (if_neg c0).symm.trans h
        refine lv_iconst (v := 1) hx hb dX12_reason_48 (by decide) ?_
        refine lv_goto (tgt := 53) hx hb dX12_reason_49 (by decide) ?_
        refine lv_iadd hx hb dX12_reason_53 ?_
        obtain ⟨hc, h⟩ := gc_some h
        refine va_iald hx hb hK (rk hR0 hNA hS) 0 0 rfl rfl (inb_in hc) dX12_reason_54 ?_
        refine lv_topi (fun v2 e_v2 => ?_)
        have h := gl_use e_v2 h
        have ho := Option.some.inj h
        rw [hQ]
        exact W.iret (v := v2) hx hb hr (fun t ht hW => ⟨⟨v2, (), rfl, by rw [← ho], by show va_P (dC, dI) vwCl _ t.heap; rw [ht, ← ho]; exact hP⟩, hS.F ht⟩) hS.2.2 dX12_reason_55
    · have h := (if_neg c0).symm.trans h
      refine lv_iconst (v := 0) hx hb dX12_reason_35 (by decide) ?_
      refine lv_goto (tgt := 55) hx hb dX12_reason_36 (by decide) ?_
      have ho := Option.some.inj h
      rw [hQ]
      exact W.iret (v := 0) hx hb hr (fun t ht hW => ⟨⟨0, (), rfl, by rw [← ho], by show va_P (dC, dI) vwCl _ t.heap; rw [ht, ← ho]; exact hP⟩, hS.F ht⟩) hS.2.2 dX12_reason_55
  have wB_9 : ∀ (s0_9 : Int32) (H : Heap) (locs : List Loc) (ls : Array Slot), g_X12_reason_b9 t_refused p2 s0_9 = some o → va_P (dC, dI) vwCl [(a_t, .inr (15, [.ref a_t_s, .ref a_t_f, .ref a_t_before, .ref a_t_beforeF, .ref a_t_aside, .ref a_t_asideF, .ref a_t_saved, .ref a_t_savedF, .int t_isSaved, .ref a_t_past, .ref a_t_pastF, .int t_pastMany, .int t_boiled, .int t_thrown, .ref a_t_refused, .ref a_t_text, .int t_length, .int t_error, .ref a_t_signs, .ref a_t_numbers, .int t_tokens, .int t_spoons, .int t_mostSpoons, .ref a_t_row, .ref a_t_isBrothOn, .ref a_t_dramsOn, .ref a_t_brothOn, .int t_cause, .int t_causeDetail, .ref a_t_lowOn, .ref a_t_highOn, .ref a_t_lowStored, .ref a_t_highStored, .ref a_t_isBrothStored, .int t_storeMany, .ref a_t_step, .ref a_t_stepF, .ref a_t_line, .int t_lineMany]))] H → va_D A [(a_t, .inr (15, [.ref a_t_s, .ref a_t_f, .ref a_t_before, .ref a_t_beforeF, .ref a_t_aside, .ref a_t_asideF, .ref a_t_saved, .ref a_t_savedF, .int t_isSaved, .ref a_t_past, .ref a_t_pastF, .int t_pastMany, .int t_boiled, .int t_thrown, .ref a_t_refused, .ref a_t_text, .int t_length, .int t_error, .ref a_t_signs, .ref a_t_numbers, .int t_tokens, .int t_spoons, .int t_mostSpoons, .ref a_t_row, .ref a_t_isBrothOn, .ref a_t_dramsOn, .ref a_t_brothOn, .int t_cause, .int t_causeDetail, .ref a_t_lowOn, .ref a_t_highOn, .ref a_t_lowStored, .ref a_t_highStored, .ref a_t_isBrothStored, .int t_storeMany, .ref a_t_step, .ref a_t_stepF, .ref a_t_line, .int t_lineMany]))] → va_S A s.heap H locs → lv_has ls 4 [(0, .ref a_t), (2, .int p2)] → W p l e ({ frames := 0, cells := 0, slots := 0, locals := 0 } : Room) s m [.ref a_t, .int p1, .int p2].toArray below meth c H locs 0 0 Q (F0 m 9 ls [.int s0_9]) := by
    intro s0_9 H locs ls h hP hD hS hl
    unfold g_X12_reason_b9 at h
    refine lv_istore_n (lv' := [(3, .int s0_9), (0, .ref a_t), (2, .int p2)]) hx hb dX12_reason_9 rfl hl (by decide) rfl (fun ls hl => ?_)
    refine lv_aload_n hx hb dX12_reason_10 rfl (lv_at hl 1 rfl) ?_
    refine lv_aload_n hx hb dX12_reason_11 rfl (lv_at hl 1 rfl) ?_
    refine va_get (D := (dC, dI)) (ci := 15) (v := .ref a_t_refused) (C := RX12) (T := TX12) (N := 39) hx hb hta inX12w hown hK hP 0 rfl rfl 14 (by decide) (hta _ lk_X12_41) (fun _ h9 => h9) rfl dX12_reason_12 ?_
    refine lv_iload_n hx hb dX12_reason_15 rfl (lv_at hl 0 rfl) ?_
    obtain ⟨hc, h⟩ := gc_some h
    refine va_iald hx hb hK (rk hR0 hNA hS) 0 0 rfl rfl (inb_in hc) dX12_reason_16 ?_
    refine lv_if_ne (tgt := 24) hx hb dX12_reason_17 (by decide) (fun c0 => ?_) (fun c0 => ?_)
    · have h := (if_neg c0).symm.trans h
      refine lv_iconst (v := 0) hx hb dX12_reason_24 (by decide) ?_
      exact wB_25 s0_9 0 _ _ _ h hP hD hS (lv_sub hl [1, 2, 0] rfl)
    · have h := (if_pos c0).symm.trans h
      refine lv_iconst (v := 1) hx hb dX12_reason_20 (by decide) ?_
      refine lv_goto (tgt := 25) hx hb dX12_reason_21 (by decide) ?_
      exact wB_25 s0_9 1 _ _ _ h hP hD hS (lv_sub hl [1, 2, 0] rfl)
  unfold g_X12_reason at h
  refine lv_iload_n hx hb dX12_reason_0 rfl (lv_at hl 1 rfl) ?_
  refine lv_if_eq (tgt := 8) hx hb dX12_reason_1 (by decide) (fun c0 => ?_) (fun c0 => ?_)
  · have h := (if_pos c0).symm.trans h
    refine lv_iconst (v := 0) hx hb dX12_reason_8 (by decide) ?_
    exact wB_9 0 _ _ _ h hP hD hS (lv_sub hl [0, 2] rfl)
  · have h := (if_neg c0).symm.trans h
    refine lv_iconst (v := 2) hx hb dX12_reason_4 (by decide) ?_
    refine lv_goto (tgt := 9) hx hb dX12_reason_5 (by decide) ?_
    exact wB_9 2 _ _ _ h hP hD hS (lv_sub hl [0, 2] rfl)
set_option maxHeartbeats 4000000 in
set_option maxRecDepth 100000 in
theorem c_X12_isCauldron (l : Launch) (dC : Nat → ClassId) (dI : Nat → Nat → Nat) (cT : Nat → ClassId) {Hh : Heap} {a_t : Nat} {a_t_s : Nat} {a_t_f : Nat} {a_t_before : Nat} {a_t_beforeF : Nat} {a_t_aside : Nat} {a_t_asideF : Nat} {a_t_saved : Nat} {a_t_savedF : Nat} {a_t_past : Nat} {a_t_pastF : Nat} {a_t_refused : Nat} {a_t_text : Nat} {a_t_signs : Nat} {a_t_numbers : Nat} {a_t_row : Nat} {a_t_isBrothOn : Nat} {a_t_dramsOn : Nat} {a_t_brothOn : Nat} {a_t_lowOn : Nat} {a_t_highOn : Nat} {a_t_lowStored : Nat} {a_t_highStored : Nat} {a_t_isBrothStored : Nat} {a_t_step : Nat} {a_t_stepF : Nat} {a_t_line : Nat} {t_s : Nat → Int32} {p1 : Int32} {t_isSaved : Int32} {t_pastMany : Int32} {t_boiled : Int32} {t_thrown : Int32} {t_length : Int32} {t_error : Int32} {t_tokens : Int32} {t_spoons : Int32} {t_mostSpoons : Int32} {t_cause : Int32} {t_causeDetail : Int32} {t_storeMany : Int32} {t_lineMany : Int32} {o : Int32} (h : g_X12_isCauldron t_s p1 = some o) (hR0 : va_P (dC, dI) vwCl [(a_t, .inr (15, [.ref a_t_s, .ref a_t_f, .ref a_t_before, .ref a_t_beforeF, .ref a_t_aside, .ref a_t_asideF, .ref a_t_saved, .ref a_t_savedF, .int t_isSaved, .ref a_t_past, .ref a_t_pastF, .int t_pastMany, .int t_boiled, .int t_thrown, .ref a_t_refused, .ref a_t_text, .int t_length, .int t_error, .ref a_t_signs, .ref a_t_numbers, .int t_tokens, .int t_spoons, .int t_mostSpoons, .ref a_t_row, .ref a_t_isBrothOn, .ref a_t_dramsOn, .ref a_t_brothOn, .int t_cause, .int t_causeDetail, .ref a_t_lowOn, .ref a_t_highOn, .ref a_t_lowStored, .ref a_t_highStored, .ref a_t_isBrothStored, .int t_storeMany, .ref a_t_step, .ref a_t_stepF, .ref a_t_line, .int t_lineMany])), (a_t_s, .inl (cT 0, 282, .inl t_s))] Hh) : Met l yX12_isCauldron (wA yX12_isCauldron cX12_isCauldron 2 (some .boolean)) ({ frames := 1, cells := 0, slots := 0, locals := 25 } : Room) (PK dC dI cT [.ref a_t, .int p1] Hh) (va_Qi (fun x (_ : Unit) => x = o) (fun _ t => t.heap = Hh) (va_A [] Hh.size)) 0 0 (va_A [] Hh.size) := by
  refine Met.ofW (cc := cX12_isCauldron) (maxL := 2) (ret := (some .boolean)) (by decide) rfl ?_
  intro p e s m args below meth c s₁ B hml hv
  obtain ⟨rfl, hH, hK⟩ := hv
  subst hH
  have hx := B.exec
  have hb := B.bytes
  have hr := B.returns
  have hta : ∀ w ∈ ALLW, w.before [.ref a_t, .int p1].toArray s = true := fun w hw => atoms_spec (ws := wA yX12_isCauldron cX12_isCauldron 2 (some .boolean)) B.pre w (List.mem_cons_of_mem _ hw)
  have hown : s.vm.findClass RX12 = some m.cls := findClass_of_methodNamed B.named
  have hlocks := B.notSynchronized
  generalize hAe : va_A [] s.heap.size = A
  have hA : ∀ q : Nat, s.heap.size ≤ q → A q := fun q h => by rw [← hAe]; exact Or.inr h
  have hS : va_S A s.heap s.heap [] := va_S.rf
  have hl := lv_entry [.ref a_t, .int p1] (n := 2) (Nat.le_of_ble_eq_true rfl)
  rw [lg_entry_eq]
  generalize (lg_sl [.ref a_t, .int p1] ++ List.replicate (2 - (lg_sl [.ref a_t, .int p1]).length) Slot.unset).toArray = ls at hl ⊢
  have hl : lv_has ls 2 [(0, .ref a_t), (1, .int p1)] := hl
  unfold g_X12_isCauldron at h
  refine lv_iload_n hx hb dX12_isCauldron_0 rfl (lv_at hl 1 rfl) ?_
  refine lv_i2l hx hb dX12_isCauldron_1 rfl ?_
  refine lv_lconst (v := 0) hx hb dX12_isCauldron_2 (by decide) ?_
  refine lv_aload_n hx hb dX12_isCauldron_3 rfl (lv_at hl 0 rfl) ?_
  refine va_get (D := (dC, dI)) (ci := 15) (v := .ref a_t_s) (C := RX12) (T := TX12) (N := 39) hx hb hta inX12w hown hK hR0 0 rfl rfl 0 (by decide) (hta _ lk_X12_9) (fun _ h9 => h9) rfl dX12_isCauldron_4 ?_
  refine lv_iconst (v := 0) hx hb dX12_isCauldron_7 (by decide) ?_
  obtain ⟨hc, h⟩ := gc_some h
  refine va_iald hx hb hK hR0 1 0 rfl rfl (inb_in hc) dX12_isCauldron_8 ?_
  refine lv_iconst (v := 1) hx hb dX12_isCauldron_9 (by decide) ?_
  refine lv_isub hx hb dX12_isCauldron_10 ?_
  refine lv_i2l hx hb dX12_isCauldron_11 rfl ?_
  obtain ⟨r1, hq, h⟩ := gb_some h
  refine crI (va_runS (As := [.long p1.toInt64, .long 0, .long (((t_s (0 : Int32).toNatClampNeg) - 1).toInt64)]) (rest := []) ⟨hx, hb, hml, hown, hta⟩ (c_X12_in l dC dI cT hq) (cS hta lm_X12_112 md_X12_in ⟨(Nat.le_of_ble_eq_true rfl), (Nat.le_of_ble_eq_true rfl)⟩) ⟨fbK, fun U hU hW => ⟨rfl, hU, va_K.moved hW.alike hK⟩⟩ rfl rfl hl.1 rfl (lv_room (Nat.le_of_ble_eq_true rfl)) dX12_isCauldron_12 ⟨(Nat.le_of_ble_eq_true rfl), (Nat.le_of_ble_eq_true rfl)⟩) hS hA (fun locs hS => ?_)
  obtain ⟨hc, h⟩ := gc_some h
  have ho := Option.some.inj h
  exact W.zret (ty := .boolean) (v := r1) hx hb hr (bo_n hc) (fun t ht hW => ⟨⟨r1, (), rfl, by rw [← ho], ht⟩, hS.F ht⟩) hS.2.2 dX12_isCauldron_15
set_option maxHeartbeats 4000000 in
set_option maxRecDepth 100000 in
theorem c_X12_isSpell (l : Launch) (dC : Nat → ClassId) (dI : Nat → Nat → Nat) (cT : Nat → ClassId) {Hh : Heap} {a_t : Nat} {a_t_s : Nat} {a_t_f : Nat} {a_t_before : Nat} {a_t_beforeF : Nat} {a_t_aside : Nat} {a_t_asideF : Nat} {a_t_saved : Nat} {a_t_savedF : Nat} {a_t_past : Nat} {a_t_pastF : Nat} {a_t_refused : Nat} {a_t_text : Nat} {a_t_signs : Nat} {a_t_numbers : Nat} {a_t_row : Nat} {a_t_isBrothOn : Nat} {a_t_dramsOn : Nat} {a_t_brothOn : Nat} {a_t_lowOn : Nat} {a_t_highOn : Nat} {a_t_lowStored : Nat} {a_t_highStored : Nat} {a_t_isBrothStored : Nat} {a_t_step : Nat} {a_t_stepF : Nat} {a_t_line : Nat} {t_s : Nat → Int32} {p1 : Int32} {t_isSaved : Int32} {t_pastMany : Int32} {t_boiled : Int32} {t_thrown : Int32} {t_length : Int32} {t_error : Int32} {t_tokens : Int32} {t_spoons : Int32} {t_mostSpoons : Int32} {t_cause : Int32} {t_causeDetail : Int32} {t_storeMany : Int32} {t_lineMany : Int32} {o : Int32} (h : g_X12_isSpell t_s p1 = some o) (hR0 : va_P (dC, dI) vwCl [(a_t, .inr (15, [.ref a_t_s, .ref a_t_f, .ref a_t_before, .ref a_t_beforeF, .ref a_t_aside, .ref a_t_asideF, .ref a_t_saved, .ref a_t_savedF, .int t_isSaved, .ref a_t_past, .ref a_t_pastF, .int t_pastMany, .int t_boiled, .int t_thrown, .ref a_t_refused, .ref a_t_text, .int t_length, .int t_error, .ref a_t_signs, .ref a_t_numbers, .int t_tokens, .int t_spoons, .int t_mostSpoons, .ref a_t_row, .ref a_t_isBrothOn, .ref a_t_dramsOn, .ref a_t_brothOn, .int t_cause, .int t_causeDetail, .ref a_t_lowOn, .ref a_t_highOn, .ref a_t_lowStored, .ref a_t_highStored, .ref a_t_isBrothStored, .int t_storeMany, .ref a_t_step, .ref a_t_stepF, .ref a_t_line, .int t_lineMany])), (a_t_s, .inl (cT 0, 282, .inl t_s))] Hh) : Met l yX12_isSpell (wA yX12_isSpell cX12_isSpell 2 (some .boolean)) ({ frames := 1, cells := 0, slots := 0, locals := 25 } : Room) (PK dC dI cT [.ref a_t, .int p1] Hh) (va_Qi (fun x (_ : Unit) => x = o) (fun _ t => t.heap = Hh) (va_A [] Hh.size)) 0 0 (va_A [] Hh.size) := by
  refine Met.ofW (cc := cX12_isSpell) (maxL := 2) (ret := (some .boolean)) (by decide) rfl ?_
  intro p e s m args below meth c s₁ B hml hv
  obtain ⟨rfl, hH, hK⟩ := hv
  subst hH
  have hx := B.exec
  have hb := B.bytes
  have hr := B.returns
  have hta : ∀ w ∈ ALLW, w.before [.ref a_t, .int p1].toArray s = true := fun w hw => atoms_spec (ws := wA yX12_isSpell cX12_isSpell 2 (some .boolean)) B.pre w (List.mem_cons_of_mem _ hw)
  have hown : s.vm.findClass RX12 = some m.cls := findClass_of_methodNamed B.named
  have hlocks := B.notSynchronized
  generalize hAe : va_A [] s.heap.size = A
  have hA : ∀ q : Nat, s.heap.size ≤ q → A q := fun q h => by rw [← hAe]; exact Or.inr h
  have hS : va_S A s.heap s.heap [] := va_S.rf
  have hl := lv_entry [.ref a_t, .int p1] (n := 2) (Nat.le_of_ble_eq_true rfl)
  rw [lg_entry_eq]
  generalize (lg_sl [.ref a_t, .int p1] ++ List.replicate (2 - (lg_sl [.ref a_t, .int p1]).length) Slot.unset).toArray = ls at hl ⊢
  have hl : lv_has ls 2 [(0, .ref a_t), (1, .int p1)] := hl
  unfold g_X12_isSpell at h
  refine lv_iload_n hx hb dX12_isSpell_0 rfl (lv_at hl 1 rfl) ?_
  refine lv_i2l hx hb dX12_isSpell_1 rfl ?_
  refine lv_lconst (v := 0) hx hb dX12_isSpell_2 (by decide) ?_
  refine lv_aload_n hx hb dX12_isSpell_3 rfl (lv_at hl 0 rfl) ?_
  refine va_get (D := (dC, dI)) (ci := 15) (v := .ref a_t_s) (C := RX12) (T := TX12) (N := 39) hx hb hta inX12w hown hK hR0 0 rfl rfl 0 (by decide) (hta _ lk_X12_9) (fun _ h9 => h9) rfl dX12_isSpell_4 ?_
  refine lv_iconst (v := 1) hx hb dX12_isSpell_7 (by decide) ?_
  obtain ⟨hc, h⟩ := gc_some h
  refine va_iald hx hb hK hR0 1 0 rfl rfl (inb_in hc) dX12_isSpell_8 ?_
  refine lv_iconst (v := 1) hx hb dX12_isSpell_9 (by decide) ?_
  refine lv_isub hx hb dX12_isSpell_10 ?_
  refine lv_i2l hx hb dX12_isSpell_11 rfl ?_
  obtain ⟨r1, hq, h⟩ := gb_some h
  refine crI (va_runS (As := [.long p1.toInt64, .long 0, .long (((t_s (1 : Int32).toNatClampNeg) - 1).toInt64)]) (rest := []) ⟨hx, hb, hml, hown, hta⟩ (c_X12_in l dC dI cT hq) (cS hta lm_X12_112 md_X12_in ⟨(Nat.le_of_ble_eq_true rfl), (Nat.le_of_ble_eq_true rfl)⟩) ⟨fbK, fun U hU hW => ⟨rfl, hU, va_K.moved hW.alike hK⟩⟩ rfl rfl hl.1 rfl (lv_room (Nat.le_of_ble_eq_true rfl)) dX12_isSpell_12 ⟨(Nat.le_of_ble_eq_true rfl), (Nat.le_of_ble_eq_true rfl)⟩) hS hA (fun locs hS => ?_)
  obtain ⟨hc, h⟩ := gc_some h
  have ho := Option.some.inj h
  exact W.zret (ty := .boolean) (v := r1) hx hb hr (bo_n hc) (fun t ht hW => ⟨⟨r1, (), rfl, by rw [← ho], ht⟩, hS.F ht⟩) hS.2.2 dX12_isSpell_15
set_option maxHeartbeats 4000000 in
set_option maxRecDepth 100000 in
theorem c_X12_of (l : Launch) (dC : Nat → ClassId) (dI : Nat → Nat → Nat) (cT : Nat → ClassId) {Hh : Heap} {a_t : Nat} {a_t_s : Nat} {a_t_f : Nat} {a_t_before : Nat} {a_t_beforeF : Nat} {a_t_aside : Nat} {a_t_asideF : Nat} {a_t_saved : Nat} {a_t_savedF : Nat} {a_t_past : Nat} {a_t_pastF : Nat} {a_t_refused : Nat} {a_t_text : Nat} {a_t_signs : Nat} {a_t_numbers : Nat} {a_t_row : Nat} {a_t_isBrothOn : Nat} {a_t_dramsOn : Nat} {a_t_brothOn : Nat} {a_t_lowOn : Nat} {a_t_highOn : Nat} {a_t_lowStored : Nat} {a_t_highStored : Nat} {a_t_isBrothStored : Nat} {a_t_step : Nat} {a_t_stepF : Nat} {a_t_line : Nat} {t_s : Nat → Int32} {p1 : Int32} {p2 : Int32} {t_isSaved : Int32} {t_pastMany : Int32} {t_boiled : Int32} {t_thrown : Int32} {t_length : Int32} {t_error : Int32} {t_tokens : Int32} {t_spoons : Int32} {t_mostSpoons : Int32} {t_cause : Int32} {t_causeDetail : Int32} {t_storeMany : Int32} {t_lineMany : Int32} {o : Int32} (h : g_X12_of t_s p1 p2 = some o) (hR0 : va_P (dC, dI) vwCl [(a_t, .inr (15, [.ref a_t_s, .ref a_t_f, .ref a_t_before, .ref a_t_beforeF, .ref a_t_aside, .ref a_t_asideF, .ref a_t_saved, .ref a_t_savedF, .int t_isSaved, .ref a_t_past, .ref a_t_pastF, .int t_pastMany, .int t_boiled, .int t_thrown, .ref a_t_refused, .ref a_t_text, .int t_length, .int t_error, .ref a_t_signs, .ref a_t_numbers, .int t_tokens, .int t_spoons, .int t_mostSpoons, .ref a_t_row, .ref a_t_isBrothOn, .ref a_t_dramsOn, .ref a_t_brothOn, .int t_cause, .int t_causeDetail, .ref a_t_lowOn, .ref a_t_highOn, .ref a_t_lowStored, .ref a_t_highStored, .ref a_t_isBrothStored, .int t_storeMany, .ref a_t_step, .ref a_t_stepF, .ref a_t_line, .int t_lineMany])), (a_t_s, .inl (cT 0, 282, .inl t_s))] Hh) : Met l yX12_of (wA yX12_of cX12_of 3 (some .int)) ({ frames := 0, cells := 0, slots := 0, locals := 0 } : Room) (PK dC dI cT [.ref a_t, .int p1, .int p2] Hh) (va_Qi (fun x (_ : Unit) => x = o) (fun _ t => t.heap = Hh) (va_A [] Hh.size)) 0 0 (va_A [] Hh.size) := by
  refine Met.ofW (cc := cX12_of) (maxL := 3) (ret := (some .int)) (by decide) rfl ?_
  intro p e s m args below meth c s₁ B hml hv
  obtain ⟨rfl, hH, hK⟩ := hv
  subst hH
  have hx := B.exec
  have hb := B.bytes
  have hr := B.returns
  have hta : ∀ w ∈ ALLW, w.before [.ref a_t, .int p1, .int p2].toArray s = true := fun w hw => atoms_spec (ws := wA yX12_of cX12_of 3 (some .int)) B.pre w (List.mem_cons_of_mem _ hw)
  have hown : s.vm.findClass RX12 = some m.cls := findClass_of_methodNamed B.named
  have hlocks := B.notSynchronized
  generalize hAe : va_A [] s.heap.size = A
  have hA : ∀ q : Nat, s.heap.size ≤ q → A q := fun q h => by rw [← hAe]; exact Or.inr h
  have hS : va_S A s.heap s.heap [] := va_S.rf
  have hl := lv_entry [.ref a_t, .int p1, .int p2] (n := 3) (Nat.le_of_ble_eq_true rfl)
  rw [lg_entry_eq]
  generalize (lg_sl [.ref a_t, .int p1, .int p2] ++ List.replicate (3 - (lg_sl [.ref a_t, .int p1, .int p2]).length) Slot.unset).toArray = ls at hl ⊢
  have hl : lv_has ls 3 [(0, .ref a_t), (1, .int p1), (2, .int p2)] := hl
  unfold g_X12_of at h
  refine lv_aload_n hx hb dX12_of_0 rfl (lv_at hl 0 rfl) ?_
  refine va_get (D := (dC, dI)) (ci := 15) (v := .ref a_t_s) (C := RX12) (T := TX12) (N := 39) hx hb hta inX12w hown hK hR0 0 rfl rfl 0 (by decide) (hta _ lk_X12_9) (fun _ h9 => h9) rfl dX12_of_1 ?_
  refine lv_iconst (v := 4) hx hb dX12_of_4 (by decide) ?_
  refine lv_iconst (v := 5) hx hb dX12_of_5 (by decide) ?_
  refine lv_iload_n hx hb dX12_of_6 rfl (lv_at hl 1 rfl) ?_
  refine lv_imul hx hb dX12_of_7 ?_
  refine lv_iadd hx hb dX12_of_8 ?_
  refine lv_iload_n hx hb dX12_of_9 rfl (lv_at hl 2 rfl) ?_
  refine lv_iadd hx hb dX12_of_10 ?_
  obtain ⟨hc, h⟩ := gc_some h
  refine va_iald hx hb hK hR0 1 0 rfl rfl (inb_in hc) dX12_of_11 ?_
  refine lv_topi (fun v1 e_v1 => ?_)
  have h := gl_use e_v1 h
  have ho := Option.some.inj h
  exact W.iret (v := v1) hx hb hr (fun t ht hW => ⟨⟨v1, (), rfl, by rw [← ho], ht⟩, hS.F ht⟩) hS.2.2 dX12_of_12
set_option maxHeartbeats 4000000 in
set_option maxRecDepth 100000 in
theorem c_X12_sets (l : Launch) (dC : Nat → ClassId) (dI : Nat → Nat → Nat) (cT : Nat → ClassId) {Hh : Heap} {a_t : Nat} {a_t_s : Nat} {a_t_f : Nat} {a_t_before : Nat} {a_t_beforeF : Nat} {a_t_aside : Nat} {a_t_asideF : Nat} {a_t_saved : Nat} {a_t_savedF : Nat} {a_t_past : Nat} {a_t_pastF : Nat} {a_t_refused : Nat} {a_t_text : Nat} {a_t_signs : Nat} {a_t_numbers : Nat} {a_t_row : Nat} {a_t_isBrothOn : Nat} {a_t_dramsOn : Nat} {a_t_brothOn : Nat} {a_t_lowOn : Nat} {a_t_highOn : Nat} {a_t_lowStored : Nat} {a_t_highStored : Nat} {a_t_isBrothStored : Nat} {a_t_step : Nat} {a_t_stepF : Nat} {a_t_line : Nat} {t_s : Nat → Int32} {p1 : Int32} {p2 : Int32} {p3 : Int32} {t_isSaved : Int32} {t_pastMany : Int32} {t_boiled : Int32} {t_thrown : Int32} {t_length : Int32} {t_error : Int32} {t_tokens : Int32} {t_spoons : Int32} {t_mostSpoons : Int32} {t_cause : Int32} {t_causeDetail : Int32} {t_storeMany : Int32} {t_lineMany : Int32} {o : (Nat → Int32)} (h : g_X12_sets t_s p1 p2 p3 = some o) (hP0 : va_P (dC, dI) vwCl [(a_t_s, .inl (cT 0, 282, .inl t_s))] Hh) (hR0 : va_P (dC, dI) vwCl [(a_t, .inr (15, [.ref a_t_s, .ref a_t_f, .ref a_t_before, .ref a_t_beforeF, .ref a_t_aside, .ref a_t_asideF, .ref a_t_saved, .ref a_t_savedF, .int t_isSaved, .ref a_t_past, .ref a_t_pastF, .int t_pastMany, .int t_boiled, .int t_thrown, .ref a_t_refused, .ref a_t_text, .int t_length, .int t_error, .ref a_t_signs, .ref a_t_numbers, .int t_tokens, .int t_spoons, .int t_mostSpoons, .ref a_t_row, .ref a_t_isBrothOn, .ref a_t_dramsOn, .ref a_t_brothOn, .int t_cause, .int t_causeDetail, .ref a_t_lowOn, .ref a_t_highOn, .ref a_t_lowStored, .ref a_t_highStored, .ref a_t_isBrothStored, .int t_storeMany, .ref a_t_step, .ref a_t_stepF, .ref a_t_line, .int t_lineMany]))] Hh) (hD0 : va_D (fun _ => True) [(a_t_s, .inl (cT 0, 282, .inl t_s))]) (hN0 : ∀ (k : Nat) (q : Nat × va_E), ([(a_t, .inr (15, [.ref a_t_s, .ref a_t_f, .ref a_t_before, .ref a_t_beforeF, .ref a_t_aside, .ref a_t_asideF, .ref a_t_saved, .ref a_t_savedF, .int t_isSaved, .ref a_t_past, .ref a_t_pastF, .int t_pastMany, .int t_boiled, .int t_thrown, .ref a_t_refused, .ref a_t_text, .int t_length, .int t_error, .ref a_t_signs, .ref a_t_numbers, .int t_tokens, .int t_spoons, .int t_mostSpoons, .ref a_t_row, .ref a_t_isBrothOn, .ref a_t_dramsOn, .ref a_t_brothOn, .int t_cause, .int t_causeDetail, .ref a_t_lowOn, .ref a_t_highOn, .ref a_t_lowStored, .ref a_t_highStored, .ref a_t_isBrothStored, .int t_storeMany, .ref a_t_step, .ref a_t_stepF, .ref a_t_line, .int t_lineMany]))] : va_W)[k]? = some q → ¬ va_A [(a_t_s, .inl (cT 0, 282, .inl t_s))] Hh.size q.1) : Met l yX12_sets (wA yX12_sets cX12_sets 4 none) ({ frames := 0, cells := 0, slots := 0, locals := 0 } : Room) (PK dC dI cT [.ref a_t, .int p1, .int p2, .int p3] Hh) (va_Qv (fun (_ : Unit) => True) (fun _ t => va_P (dC, dI) vwCl [(a_t_s, .inl (cT 0, 282, .inl o))] t.heap) (va_A [(a_t_s, .inl (cT 0, 282, .inl t_s))] Hh.size)) 0 0 (va_A [(a_t_s, .inl (cT 0, 282, .inl t_s))] Hh.size) := by
  refine Met.ofW (cc := cX12_sets) (maxL := 4) (ret := none) (by decide) rfl ?_
  intro p e s m args below meth c s₁ B hml hv
  obtain ⟨rfl, hH, hK⟩ := hv
  subst hH
  have hx := B.exec
  have hb := B.bytes
  have hr := B.returns
  have hta : ∀ w ∈ ALLW, w.before [.ref a_t, .int p1, .int p2, .int p3].toArray s = true := fun w hw => atoms_spec (ws := wA yX12_sets cX12_sets 4 none) B.pre w (List.mem_cons_of_mem _ hw)
  have hown : s.vm.findClass RX12 = some m.cls := findClass_of_methodNamed B.named
  have hlocks := B.notSynchronized
  have hD := hD0.self (sz := s.heap.size)
  have hNA := hN0
  generalize hAe : va_A [(a_t_s, .inl (cT 0, 282, .inl t_s))] s.heap.size = A at hD hNA ⊢
  have hP := hP0
  have hA : ∀ q : Nat, s.heap.size ≤ q → A q := fun q h => by rw [← hAe]; exact Or.inr h
  have hS : va_S A s.heap s.heap [] := va_S.rf
  have hl := lv_entry [.ref a_t, .int p1, .int p2, .int p3] (n := 4) (Nat.le_of_ble_eq_true rfl)
  rw [lg_entry_eq]
  generalize (lg_sl [.ref a_t, .int p1, .int p2, .int p3] ++ List.replicate (4 - (lg_sl [.ref a_t, .int p1, .int p2, .int p3]).length) Slot.unset).toArray = ls at hl ⊢
  have hl : lv_has ls 4 [(0, .ref a_t), (1, .int p1), (2, .int p2), (3, .int p3)] := hl
  unfold g_X12_sets at h
  refine lv_aload_n hx hb dX12_sets_0 rfl (lv_at hl 0 rfl) ?_
  refine va_get (D := (dC, dI)) (ci := 15) (v := .ref a_t_s) (C := RX12) (T := TX12) (N := 39) hx hb hta inX12w hown hK (rk hR0 hNA hS) 0 rfl rfl 0 (by decide) (hta _ lk_X12_9) (fun _ h9 => h9) rfl dX12_sets_1 ?_
  refine lv_iconst (v := 4) hx hb dX12_sets_4 (by decide) ?_
  refine lv_iconst (v := 5) hx hb dX12_sets_5 (by decide) ?_
  refine lv_iload_n hx hb dX12_sets_6 rfl (lv_at hl 1 rfl) ?_
  refine lv_imul hx hb dX12_sets_7 ?_
  refine lv_iadd hx hb dX12_sets_8 ?_
  refine lv_iload_n hx hb dX12_sets_9 rfl (lv_at hl 2 rfl) ?_
  refine lv_iadd hx hb dX12_sets_10 ?_
  refine lv_iload_n hx hb dX12_sets_11 rfl (lv_at hl 3 rfl) ?_
  obtain ⟨hc, h⟩ := gc_some h
  refine va_iast hx hb hK hP hD hS 0 0 rfl rfl (inb_in hc) dX12_sets_12 (fun H locs hP hD hS => ?_)
  have hP : va_P (dC, dI) vwCl [(a_t_s, .inl (cT 0, 282, .inl (upd t_s ((4 + (5 * p1)) + p2).toNatClampNeg p3)))] H := hP
  have hD : va_D A [(a_t_s, .inl (cT 0, 282, .inl (upd t_s ((4 + (5 * p1)) + p2).toNatClampNeg p3)))] := hD
  have ho := Option.some.inj h
  exact W.vret hx hb hr (fun t ht hW => ⟨⟨(), rfl, trivial, by show va_P (dC, dI) vwCl _ t.heap; rw [ht, ← ho]; exact hP⟩, hS.F ht⟩) hS.2.2 dX12_sets_13
