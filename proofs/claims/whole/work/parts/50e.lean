set_option maxHeartbeats 4000000 in
set_option maxRecDepth 100000 in
theorem c_X12_tells (l : Launch) (dC : Nat → ClassId) (dI : Nat → Nat → Nat) (cT : Nat → ClassId) {Hh : Heap} {a_t : Nat} {a_t_s : Nat} {a_t_numbers : Nat} {a_t_signs : Nat} {a_t_f : Nat} {a_t_before : Nat} {a_t_beforeF : Nat} {a_t_aside : Nat} {a_t_asideF : Nat} {a_t_saved : Nat} {a_t_savedF : Nat} {a_t_past : Nat} {a_t_pastF : Nat} {a_t_refused : Nat} {a_t_text : Nat} {a_t_row : Nat} {a_t_isBrothOn : Nat} {a_t_dramsOn : Nat} {a_t_brothOn : Nat} {a_t_lowOn : Nat} {a_t_highOn : Nat} {a_t_lowStored : Nat} {a_t_highStored : Nat} {a_t_isBrothStored : Nat} {a_t_step : Nat} {a_t_stepF : Nat} {a_t_line : Nat} {t_tokens : Int32} {t_spoons : Int32} {t_mostSpoons : Int32} {t_s : Nat → Int32} {t_numbers : Nat → Int32} {t_signs : Nat → Int32} {p1 : Int32} {t_isSaved : Int32} {t_pastMany : Int32} {t_boiled : Int32} {t_thrown : Int32} {t_length : Int32} {t_error : Int32} {t_cause : Int32} {t_causeDetail : Int32} {t_storeMany : Int32} {t_lineMany : Int32} {XW : va_W} (eX : XW = [(a_t, .inr (15, [.ref a_t_s, .ref a_t_f, .ref a_t_before, .ref a_t_beforeF, .ref a_t_aside, .ref a_t_asideF, .ref a_t_saved, .ref a_t_savedF, .int t_isSaved, .ref a_t_past, .ref a_t_pastF, .int t_pastMany, .int t_boiled, .int t_thrown, .ref a_t_refused, .ref a_t_text, .int t_length, .int t_error, .ref a_t_signs, .ref a_t_numbers, .int t_tokens, .int t_spoons, .int t_mostSpoons, .ref a_t_row, .ref a_t_isBrothOn, .ref a_t_dramsOn, .ref a_t_brothOn, .int t_cause, .int t_causeDetail, .ref a_t_lowOn, .ref a_t_highOn, .ref a_t_lowStored, .ref a_t_highStored, .ref a_t_isBrothStored, .int t_storeMany, .ref a_t_step, .ref a_t_stepF, .ref a_t_line, .int t_lineMany])), (a_t_numbers, .inl (cT 0, 60, .inl t_numbers)), (a_t_signs, .inl (cT 2, 60, .inl t_signs))]) {o : Int32 × Int32 × Int32 × (Nat → Int32) × (Nat → Int32)} (h : g_X12_tells t_tokens t_spoons t_mostSpoons t_s t_numbers t_signs p1 = some o) (hP0 : va_P (dC, dI) vwCl XW Hh) (hR0 : va_P (dC, dI) vwCl [(a_t_s, .inl (cT 0, 282, .inl t_s))] Hh) (hD0 : va_D (fun _ => True) XW) (hN0 : ∀ (k : Nat) (q : Nat × va_E), ([(a_t_s, .inl (cT 0, 282, .inl t_s))] : va_W)[k]? = some q → ¬ va_A XW Hh.size q.1) : Met l yX12_tells (wA yX12_tells cX12_tells 4 none) ({ frames := 3, cells := 0, slots := 0, locals := 76 } : Room) (PK dC dI cT [.ref a_t, .int p1] Hh) (va_Qv (fun (_ : Unit) => True) (fun _ t => va_P (dC, dI) vwCl [(a_t, .inr (15, [.ref a_t_s, .ref a_t_f, .ref a_t_before, .ref a_t_beforeF, .ref a_t_aside, .ref a_t_asideF, .ref a_t_saved, .ref a_t_savedF, .int t_isSaved, .ref a_t_past, .ref a_t_pastF, .int t_pastMany, .int t_boiled, .int t_thrown, .ref a_t_refused, .ref a_t_text, .int t_length, .int t_error, .ref a_t_signs, .ref a_t_numbers, .int o.1, .int o.2.1, .int o.2.2.1, .ref a_t_row, .ref a_t_isBrothOn, .ref a_t_dramsOn, .ref a_t_brothOn, .int t_cause, .int t_causeDetail, .ref a_t_lowOn, .ref a_t_highOn, .ref a_t_lowStored, .ref a_t_highStored, .ref a_t_isBrothStored, .int t_storeMany, .ref a_t_step, .ref a_t_stepF, .ref a_t_line, .int t_lineMany])), (a_t_numbers, .inl (cT 0, 60, .inl o.2.2.2.1)), (a_t_signs, .inl (cT 2, 60, .inl o.2.2.2.2))] t.heap) (va_A XW Hh.size)) 0 0 (va_A XW Hh.size) := by
  subst eX
  refine Met.ofW (cc := cX12_tells) (maxL := 4) (ret := none) (by decide) rfl ?_
  intro p e s m args below meth c s₁ B hml hv
  obtain ⟨rfl, hH, hK⟩ := hv
  subst hH
  have hx := B.exec
  have hb := B.bytes
  have hr := B.returns
  have hta : ∀ w ∈ ALLW, w.before [.ref a_t, .int p1].toArray s = true := fun w hw => atoms_spec (ws := wA yX12_tells cX12_tells 4 none) B.pre w (List.mem_cons_of_mem _ hw)
  have hown : s.vm.findClass RX12 = some m.cls := findClass_of_methodNamed B.named
  have hlocks := B.notSynchronized
  have hD := hD0.self (sz := s.heap.size)
  have hNA := hN0
  generalize hAe : va_A [(a_t, .inr (15, [.ref a_t_s, .ref a_t_f, .ref a_t_before, .ref a_t_beforeF, .ref a_t_aside, .ref a_t_asideF, .ref a_t_saved, .ref a_t_savedF, .int t_isSaved, .ref a_t_past, .ref a_t_pastF, .int t_pastMany, .int t_boiled, .int t_thrown, .ref a_t_refused, .ref a_t_text, .int t_length, .int t_error, .ref a_t_signs, .ref a_t_numbers, .int t_tokens, .int t_spoons, .int t_mostSpoons, .ref a_t_row, .ref a_t_isBrothOn, .ref a_t_dramsOn, .ref a_t_brothOn, .int t_cause, .int t_causeDetail, .ref a_t_lowOn, .ref a_t_highOn, .ref a_t_lowStored, .ref a_t_highStored, .ref a_t_isBrothStored, .int t_storeMany, .ref a_t_step, .ref a_t_stepF, .ref a_t_line, .int t_lineMany])), (a_t_numbers, .inl (cT 0, 60, .inl t_numbers)), (a_t_signs, .inl (cT 2, 60, .inl t_signs))] s.heap.size = A at hD hNA ⊢
  have hP := hP0
  have hA : ∀ q : Nat, s.heap.size ≤ q → A q := fun q h => by rw [← hAe]; exact Or.inr h
  have hS : va_S A s.heap s.heap [] := va_S.rf
  have hl := lv_entry [.ref a_t, .int p1] (n := 4) (Nat.le_of_ble_eq_true rfl)
  rw [lg_entry_eq]
  generalize (lg_sl [.ref a_t, .int p1] ++ List.replicate (4 - (lg_sl [.ref a_t, .int p1]).length) Slot.unset).toArray = ls at hl ⊢
  have hl : lv_has ls 4 [(0, .ref a_t), (1, .int p1)] := hl
  unfold g_X12_tells at h
  refine lv_bipush (v := 34) hx hb dX12_tells_0 (by decide) ?_
  refine lv_bipush (v := 62) hx hb dX12_tells_2 (by decide) ?_
  refine lv_iload_n hx hb dX12_tells_4 rfl (lv_at hl 1 rfl) ?_
  refine lv_imul hx hb dX12_tells_5 ?_
  refine lv_iadd hx hb dX12_tells_6 ?_
  refine lv_topi (fun v1 e_v1 => ?_)
  have h := gl_use e_v1 h
  refine lv_istore_n (lv' := [(2, .int v1), (0, .ref a_t), (1, .int p1)]) hx hb dX12_tells_7 rfl hl (by decide) rfl (fun ls hl => ?_)
  refine lv_aload_n hx hb dX12_tells_8 rfl (lv_at hl 1 rfl) ?_
  refine lv_aload_n hx hb dX12_tells_9 rfl (lv_at hl 1 rfl) ?_
  refine va_get (D := (dC, dI)) (ci := 15) (v := .ref a_t_s) (C := RX12) (T := TX12) (N := 39) hx hb hta inX12w hown hK hP 0 rfl rfl 0 (by decide) (hta _ lk_X12_9) (fun _ h9 => h9) rfl dX12_tells_10 ?_
  refine lv_iload_n hx hb dX12_tells_13 rfl (lv_at hl 0 rfl) ?_
  refine lv_iconst (v := 2) hx hb dX12_tells_14 (by decide) ?_
  refine lv_iadd hx hb dX12_tells_15 ?_
  refine lv_aload_n hx hb dX12_tells_16 rfl (lv_at hl 1 rfl) ?_
  refine va_get (D := (dC, dI)) (ci := 15) (v := .ref a_t_s) (C := RX12) (T := TX12) (N := 39) hx hb hta inX12w hown hK hP 0 rfl rfl 0 (by decide) (hta _ lk_X12_9) (fun _ h9 => h9) rfl dX12_tells_17 ?_
  refine lv_iload_n hx hb dX12_tells_20 rfl (lv_at hl 0 rfl) ?_
  refine lv_iconst (v := 1) hx hb dX12_tells_21 (by decide) ?_
  refine lv_iadd hx hb dX12_tells_22 ?_
  obtain ⟨hc, h⟩ := gc_some h
  refine va_iald hx hb hK (rk hR0 hNA hS) 0 0 rfl rfl (inb_in hc) dX12_tells_23 ?_
  obtain ⟨r2, hq, h⟩ := gb_some h
  refine cxI (X2 := [(a_t, .inr (15, [.ref a_t_s, .ref a_t_f, .ref a_t_before, .ref a_t_beforeF, .ref a_t_aside, .ref a_t_asideF, .ref a_t_saved, .ref a_t_savedF, .int t_isSaved, .ref a_t_past, .ref a_t_pastF, .int t_pastMany, .int t_boiled, .int t_thrown, .ref a_t_refused, .ref a_t_text, .int t_length, .int t_error, .ref a_t_signs, .ref a_t_numbers, .int r2.2.1, .int r2.2.2.1, .int r2.2.2.2.1, .ref a_t_row, .ref a_t_isBrothOn, .ref a_t_dramsOn, .ref a_t_brothOn, .int t_cause, .int t_causeDetail, .ref a_t_lowOn, .ref a_t_highOn, .ref a_t_lowStored, .ref a_t_highStored, .ref a_t_isBrothStored, .int t_storeMany, .ref a_t_step, .ref a_t_stepF, .ref a_t_line, .int t_lineMany])), (a_t_numbers, .inl (cT 0, 60, .inl r2.2.2.2.2.1)), (a_t_signs, .inl (cT 2, 60, .inl r2.2.2.2.2.2))]) (va_runV (As := [.ref a_t_s, .int (v1 + 2), .int (t_s (v1 + 1).toNatClampNeg)]) (rest := []) ⟨hx, hb, hml, hown, hta⟩ (c_X12_reads l dC dI cT rfl hq (hP.sub (ws' := [(a_t, .inr (15, [.ref a_t_s, .ref a_t_f, .ref a_t_before, .ref a_t_beforeF, .ref a_t_aside, .ref a_t_asideF, .ref a_t_saved, .ref a_t_savedF, .int t_isSaved, .ref a_t_past, .ref a_t_pastF, .int t_pastMany, .int t_boiled, .int t_thrown, .ref a_t_refused, .ref a_t_text, .int t_length, .int t_error, .ref a_t_signs, .ref a_t_numbers, .int t_tokens, .int t_spoons, .int t_mostSpoons, .ref a_t_row, .ref a_t_isBrothOn, .ref a_t_dramsOn, .ref a_t_brothOn, .int t_cause, .int t_causeDetail, .ref a_t_lowOn, .ref a_t_highOn, .ref a_t_lowStored, .ref a_t_highStored, .ref a_t_isBrothStored, .int t_storeMany, .ref a_t_step, .ref a_t_stepF, .ref a_t_line, .int t_lineMany])), (a_t_numbers, .inl (cT 0, 60, .inl t_numbers)), (a_t_signs, .inl (cT 2, 60, .inl t_signs))]) [0, 1, 2] rfl) ((va_P.app hP (rk hR0 hNA hS)).sub (ws' := [(a_t_s, .inl (cT 0, 282, .inl t_s))]) [3] rfl) (ds hD [0, 1, 2] (by decide) rfl) (nac hP hD [0, 1, 2] rfl (va_free hD hS hA [0, 1, 2] rfl) hNA [.inl 0] rfl rfl)) (cV hta lm_X12_219 md_X12_reads ⟨(Nat.le_of_ble_eq_true rfl), (Nat.le_of_ble_eq_true rfl)⟩) ⟨fbK, va_recv hK hP (ci := 15) (q0 := 0) rfl rfl, fun U hU hW => ⟨rfl, hU, va_K.moved hW.alike hK⟩⟩ rfl rfl hl.1 rfl (lv_room (Nat.le_of_ble_eq_true rfl)) dX12_tells_24 ⟨(Nat.le_of_ble_eq_true rfl), (Nat.le_of_ble_eq_true rfl)⟩) hS hA hP hD [0, 1, 2] rfl [.inl 0, .inl 1, .inl 2] rfl rfl rfl (fun H locs hP hD hS => ?_)
  refine lv_istore_n (lv' := [(3, .int r2.1), (2, .int v1), (0, .ref a_t), (1, .int p1)]) hx hb dX12_tells_27 rfl hl (by decide) rfl (fun ls hl => ?_)
  have ho := Option.some.inj h
  exact W.vret hx hb hr (fun t ht hW => ⟨⟨(), rfl, trivial, by show va_P (dC, dI) vwCl _ t.heap; rw [ht, ← ho]; exact hP⟩, hS.F ht⟩) hS.2.2 dX12_tells_28
set_option maxHeartbeats 4000000 in
set_option maxRecDepth 100000 in
theorem c_X12_isLetter (l : Launch) (dC : Nat → ClassId) (dI : Nat → Nat → Nat) (cT : Nat → ClassId) {Hh : Heap} {a_t : Nat} {a_t_signs : Nat} {a_t_s : Nat} {a_t_f : Nat} {a_t_before : Nat} {a_t_beforeF : Nat} {a_t_aside : Nat} {a_t_asideF : Nat} {a_t_saved : Nat} {a_t_savedF : Nat} {a_t_past : Nat} {a_t_pastF : Nat} {a_t_refused : Nat} {a_t_text : Nat} {a_t_numbers : Nat} {a_t_row : Nat} {a_t_isBrothOn : Nat} {a_t_dramsOn : Nat} {a_t_brothOn : Nat} {a_t_lowOn : Nat} {a_t_highOn : Nat} {a_t_lowStored : Nat} {a_t_highStored : Nat} {a_t_isBrothStored : Nat} {a_t_step : Nat} {a_t_stepF : Nat} {a_t_line : Nat} {t_signs : Nat → Int32} {p1 : Int32} {t_isSaved : Int32} {t_pastMany : Int32} {t_boiled : Int32} {t_thrown : Int32} {t_length : Int32} {t_error : Int32} {t_tokens : Int32} {t_spoons : Int32} {t_mostSpoons : Int32} {t_cause : Int32} {t_causeDetail : Int32} {t_storeMany : Int32} {t_lineMany : Int32} {o : Int32} (h : g_X12_isLetter t_signs p1 = some o) (hR0 : va_P (dC, dI) vwCl [(a_t, .inr (15, [.ref a_t_s, .ref a_t_f, .ref a_t_before, .ref a_t_beforeF, .ref a_t_aside, .ref a_t_asideF, .ref a_t_saved, .ref a_t_savedF, .int t_isSaved, .ref a_t_past, .ref a_t_pastF, .int t_pastMany, .int t_boiled, .int t_thrown, .ref a_t_refused, .ref a_t_text, .int t_length, .int t_error, .ref a_t_signs, .ref a_t_numbers, .int t_tokens, .int t_spoons, .int t_mostSpoons, .ref a_t_row, .ref a_t_isBrothOn, .ref a_t_dramsOn, .ref a_t_brothOn, .int t_cause, .int t_causeDetail, .ref a_t_lowOn, .ref a_t_highOn, .ref a_t_lowStored, .ref a_t_highStored, .ref a_t_isBrothStored, .int t_storeMany, .ref a_t_step, .ref a_t_stepF, .ref a_t_line, .int t_lineMany])), (a_t_signs, .inl (cT 2, 60, .inl t_signs))] Hh) : Met l yX12_isLetter (wA yX12_isLetter cX12_isLetter 2 (some .boolean)) ({ frames := 1, cells := 0, slots := 0, locals := 25 } : Room) (PK dC dI cT [.ref a_t, .int p1] Hh) (va_Qi (fun x (_ : Unit) => x = o) (fun _ t => t.heap = Hh) (va_A [] Hh.size)) 0 0 (va_A [] Hh.size) := by
  refine Met.ofW (cc := cX12_isLetter) (maxL := 2) (ret := (some .boolean)) (by decide) rfl ?_
  intro p e s m args below meth c s₁ B hml hv
  obtain ⟨rfl, hH, hK⟩ := hv
  subst hH
  have hx := B.exec
  have hb := B.bytes
  have hr := B.returns
  have hta : ∀ w ∈ ALLW, w.before [.ref a_t, .int p1].toArray s = true := fun w hw => atoms_spec (ws := wA yX12_isLetter cX12_isLetter 2 (some .boolean)) B.pre w (List.mem_cons_of_mem _ hw)
  have hown : s.vm.findClass RX12 = some m.cls := findClass_of_methodNamed B.named
  have hlocks := B.notSynchronized
  generalize hAe : va_A [] s.heap.size = A
  have hA : ∀ q : Nat, s.heap.size ≤ q → A q := fun q h => by rw [← hAe]; exact Or.inr h
  have hS : va_S A s.heap s.heap [] := va_S.rf
  have hl := lv_entry [.ref a_t, .int p1] (n := 2) (Nat.le_of_ble_eq_true rfl)
  rw [lg_entry_eq]
  generalize (lg_sl [.ref a_t, .int p1] ++ List.replicate (2 - (lg_sl [.ref a_t, .int p1]).length) Slot.unset).toArray = ls at hl ⊢
  have hl : lv_has ls 2 [(0, .ref a_t), (1, .int p1)] := hl
  unfold g_X12_isLetter at h
  refine lv_aload_n hx hb dX12_isLetter_0 rfl (lv_at hl 0 rfl) ?_
  refine va_get (D := (dC, dI)) (ci := 15) (v := .ref a_t_signs) (C := RX12) (T := TX12) (N := 39) hx hb hta inX12w hown hK hR0 0 rfl rfl 18 (by decide) (hta _ lk_X12_52) (fun _ h9 => h9) rfl dX12_isLetter_1 ?_
  refine lv_iload_n hx hb dX12_isLetter_4 rfl (lv_at hl 1 rfl) ?_
  obtain ⟨hc, h⟩ := gc_some h
  refine va_cald hx hb hK hR0 1 2 rfl rfl (inb_in hc) dX12_isLetter_5 ?_
  refine lv_i2l hx hb dX12_isLetter_6 rfl ?_
  refine lv_ldc2 (v := 97) hx hb hown (hta _ kc_X12_207) dX12_isLetter_7 ?_
  refine lv_ldc2 (v := 102) hx hb hown (hta _ kc_X12_209) dX12_isLetter_10 ?_
  obtain ⟨r1, hq, h⟩ := gb_some h
  refine crI (va_runS (As := [.long ((t_signs p1.toNatClampNeg).toInt64), .long (97 : Int64), .long (102 : Int64)]) (rest := []) ⟨hx, hb, hml, hown, hta⟩ (c_X12_in l dC dI cT hq) (cS hta lm_X12_112 md_X12_in ⟨(Nat.le_of_ble_eq_true rfl), (Nat.le_of_ble_eq_true rfl)⟩) ⟨fbK, fun U hU hW => ⟨rfl, hU, va_K.moved hW.alike hK⟩⟩ rfl rfl hl.1 rfl (lv_room (Nat.le_of_ble_eq_true rfl)) dX12_isLetter_13 ⟨(Nat.le_of_ble_eq_true rfl), (Nat.le_of_ble_eq_true rfl)⟩) hS hA (fun locs hS => ?_)
  obtain ⟨hc, h⟩ := gc_some h
  have ho := Option.some.inj h
  exact W.zret (ty := .boolean) (v := r1) hx hb hr (bo_n hc) (fun t ht hW => ⟨⟨r1, (), rfl, by rw [← ho], ht⟩, hS.F ht⟩) hS.2.2 dX12_isLetter_16
set_option maxHeartbeats 4000000 in
set_option maxRecDepth 100000 in
theorem c_X12_laysBounds (l : Launch) (dC : Nat → ClassId) (dI : Nat → Nat → Nat) (cT : Nat → ClassId) {Hh : Heap} {a_t : Nat} {a_t_lowOn : Nat} {a_t_highOn : Nat} {a_t_s : Nat} {a_t_f : Nat} {a_t_before : Nat} {a_t_beforeF : Nat} {a_t_aside : Nat} {a_t_asideF : Nat} {a_t_saved : Nat} {a_t_savedF : Nat} {a_t_past : Nat} {a_t_pastF : Nat} {a_t_refused : Nat} {a_t_text : Nat} {a_t_signs : Nat} {a_t_numbers : Nat} {a_t_row : Nat} {a_t_isBrothOn : Nat} {a_t_dramsOn : Nat} {a_t_brothOn : Nat} {a_t_lowStored : Nat} {a_t_highStored : Nat} {a_t_isBrothStored : Nat} {a_t_step : Nat} {a_t_stepF : Nat} {a_t_line : Nat} {t_lowOn : Nat → Int64} {t_highOn : Nat → Int64} {p1 : Int32} {p2 : Int64} {p3 : Int64} {t_isSaved : Int32} {t_pastMany : Int32} {t_boiled : Int32} {t_thrown : Int32} {t_length : Int32} {t_error : Int32} {t_tokens : Int32} {t_spoons : Int32} {t_mostSpoons : Int32} {t_cause : Int32} {t_causeDetail : Int32} {t_storeMany : Int32} {t_lineMany : Int32} {o : (Nat → Int64) × (Nat → Int64)} (h : g_X12_laysBounds t_lowOn t_highOn p1 p2 p3 = some o) (hP0 : va_P (dC, dI) vwCl [(a_t_lowOn, .inl (cT 3, 6, .inr (.inl t_lowOn))), (a_t_highOn, .inl (cT 3, 6, .inr (.inl t_highOn)))] Hh) (hR0 : va_P (dC, dI) vwCl [(a_t, .inr (15, [.ref a_t_s, .ref a_t_f, .ref a_t_before, .ref a_t_beforeF, .ref a_t_aside, .ref a_t_asideF, .ref a_t_saved, .ref a_t_savedF, .int t_isSaved, .ref a_t_past, .ref a_t_pastF, .int t_pastMany, .int t_boiled, .int t_thrown, .ref a_t_refused, .ref a_t_text, .int t_length, .int t_error, .ref a_t_signs, .ref a_t_numbers, .int t_tokens, .int t_spoons, .int t_mostSpoons, .ref a_t_row, .ref a_t_isBrothOn, .ref a_t_dramsOn, .ref a_t_brothOn, .int t_cause, .int t_causeDetail, .ref a_t_lowOn, .ref a_t_highOn, .ref a_t_lowStored, .ref a_t_highStored, .ref a_t_isBrothStored, .int t_storeMany, .ref a_t_step, .ref a_t_stepF, .ref a_t_line, .int t_lineMany]))] Hh) (hD0 : va_D (fun _ => True) [(a_t_lowOn, .inl (cT 3, 6, .inr (.inl t_lowOn))), (a_t_highOn, .inl (cT 3, 6, .inr (.inl t_highOn)))]) (hN0 : ∀ (k : Nat) (q : Nat × va_E), ([(a_t, .inr (15, [.ref a_t_s, .ref a_t_f, .ref a_t_before, .ref a_t_beforeF, .ref a_t_aside, .ref a_t_asideF, .ref a_t_saved, .ref a_t_savedF, .int t_isSaved, .ref a_t_past, .ref a_t_pastF, .int t_pastMany, .int t_boiled, .int t_thrown, .ref a_t_refused, .ref a_t_text, .int t_length, .int t_error, .ref a_t_signs, .ref a_t_numbers, .int t_tokens, .int t_spoons, .int t_mostSpoons, .ref a_t_row, .ref a_t_isBrothOn, .ref a_t_dramsOn, .ref a_t_brothOn, .int t_cause, .int t_causeDetail, .ref a_t_lowOn, .ref a_t_highOn, .ref a_t_lowStored, .ref a_t_highStored, .ref a_t_isBrothStored, .int t_storeMany, .ref a_t_step, .ref a_t_stepF, .ref a_t_line, .int t_lineMany]))] : va_W)[k]? = some q → ¬ va_A [(a_t_lowOn, .inl (cT 3, 6, .inr (.inl t_lowOn))), (a_t_highOn, .inl (cT 3, 6, .inr (.inl t_highOn)))] Hh.size q.1) : Met l yX12_laysBounds (wA yX12_laysBounds cX12_laysBounds 6 none) ({ frames := 0, cells := 0, slots := 0, locals := 0 } : Room) (PK dC dI cT [.ref a_t, .int p1, .long p2, .long p3] Hh) (va_Qv (fun (_ : Unit) => True) (fun _ t => va_P (dC, dI) vwCl [(a_t_lowOn, .inl (cT 3, 6, .inr (.inl o.1))), (a_t_highOn, .inl (cT 3, 6, .inr (.inl o.2)))] t.heap) (va_A [(a_t_lowOn, .inl (cT 3, 6, .inr (.inl t_lowOn))), (a_t_highOn, .inl (cT 3, 6, .inr (.inl t_highOn)))] Hh.size)) 0 0 (va_A [(a_t_lowOn, .inl (cT 3, 6, .inr (.inl t_lowOn))), (a_t_highOn, .inl (cT 3, 6, .inr (.inl t_highOn)))] Hh.size) := by
  refine Met.ofW (cc := cX12_laysBounds) (maxL := 6) (ret := none) (by decide) rfl ?_
  intro p e s m args below meth c s₁ B hml hv
  obtain ⟨rfl, hH, hK⟩ := hv
  subst hH
  have hx := B.exec
  have hb := B.bytes
  have hr := B.returns
  have hta : ∀ w ∈ ALLW, w.before [.ref a_t, .int p1, .long p2, .long p3].toArray s = true := fun w hw => atoms_spec (ws := wA yX12_laysBounds cX12_laysBounds 6 none) B.pre w (List.mem_cons_of_mem _ hw)
  have hown : s.vm.findClass RX12 = some m.cls := findClass_of_methodNamed B.named
  have hlocks := B.notSynchronized
  have hD := hD0.self (sz := s.heap.size)
  have hNA := hN0
  generalize hAe : va_A [(a_t_lowOn, .inl (cT 3, 6, .inr (.inl t_lowOn))), (a_t_highOn, .inl (cT 3, 6, .inr (.inl t_highOn)))] s.heap.size = A at hD hNA ⊢
  have hP := hP0
  have hA : ∀ q : Nat, s.heap.size ≤ q → A q := fun q h => by rw [← hAe]; exact Or.inr h
  have hS : va_S A s.heap s.heap [] := va_S.rf
  have hl := lv_entry [.ref a_t, .int p1, .long p2, .long p3] (n := 6) (Nat.le_of_ble_eq_true rfl)
  rw [lg_entry_eq]
  generalize (lg_sl [.ref a_t, .int p1, .long p2, .long p3] ++ List.replicate (6 - (lg_sl [.ref a_t, .int p1, .long p2, .long p3]).length) Slot.unset).toArray = ls at hl ⊢
  have hl : lv_has ls 6 [(0, .ref a_t), (1, .int p1), (2, .long p2), (4, .long p3)] := hl
  unfold g_X12_laysBounds at h
  refine lv_aload_n hx hb dX12_laysBounds_0 rfl (lv_at hl 0 rfl) ?_
  refine va_get (D := (dC, dI)) (ci := 15) (v := .ref a_t_lowOn) (C := RX12) (T := TX12) (N := 39) hx hb hta inX12w hown hK (rk hR0 hNA hS) 0 rfl rfl 29 (by decide) (hta _ lk_X12_72) (fun _ h9 => h9) rfl dX12_laysBounds_1 ?_
  refine lv_iload_n hx hb dX12_laysBounds_4 rfl (lv_at hl 1 rfl) ?_
  refine lv_lload_n hx hb dX12_laysBounds_5 rfl (lv_at hl 2 rfl) ?_
  obtain ⟨hc, h⟩ := gc_some h
  refine va_last hx hb hK hP hD hS 0 3 rfl rfl (inb_in hc) dX12_laysBounds_6 (fun H locs hP hD hS => ?_)
  have hP : va_P (dC, dI) vwCl [(a_t_lowOn, .inl (cT 3, 6, .inr (.inl (vp_updL t_lowOn p1.toNatClampNeg p2)))), (a_t_highOn, .inl (cT 3, 6, .inr (.inl t_highOn)))] H := hP
  have hD : va_D A [(a_t_lowOn, .inl (cT 3, 6, .inr (.inl (vp_updL t_lowOn p1.toNatClampNeg p2)))), (a_t_highOn, .inl (cT 3, 6, .inr (.inl t_highOn)))] := hD
  refine lv_aload_n hx hb dX12_laysBounds_7 rfl (lv_at hl 0 rfl) ?_
  refine va_get (D := (dC, dI)) (ci := 15) (v := .ref a_t_highOn) (C := RX12) (T := TX12) (N := 39) hx hb hta inX12w hown hK (rk hR0 hNA hS) 0 rfl rfl 30 (by decide) (hta _ lk_X12_75) (fun _ h9 => h9) rfl dX12_laysBounds_8 ?_
  refine lv_iload_n hx hb dX12_laysBounds_11 rfl (lv_at hl 1 rfl) ?_
  refine lv_lload hx hb dX12_laysBounds_12 (lv_at hl 3 rfl) ?_
  obtain ⟨hc, h⟩ := gc_some h
  refine va_last hx hb hK hP hD hS 1 3 rfl rfl (inb_in hc) dX12_laysBounds_14 (fun H locs hP hD hS => ?_)
  have hP : va_P (dC, dI) vwCl [(a_t_lowOn, .inl (cT 3, 6, .inr (.inl (vp_updL t_lowOn p1.toNatClampNeg p2)))), (a_t_highOn, .inl (cT 3, 6, .inr (.inl (vp_updL t_highOn p1.toNatClampNeg p3))))] H := hP
  have hD : va_D A [(a_t_lowOn, .inl (cT 3, 6, .inr (.inl (vp_updL t_lowOn p1.toNatClampNeg p2)))), (a_t_highOn, .inl (cT 3, 6, .inr (.inl (vp_updL t_highOn p1.toNatClampNeg p3))))] := hD
  have ho := Option.some.inj h
  exact W.vret hx hb hr (fun t ht hW => ⟨⟨(), rfl, trivial, by show va_P (dC, dI) vwCl _ t.heap; rw [ht, ← ho]; exact hP⟩, hS.F ht⟩) hS.2.2 dX12_laysBounds_15
set_option maxHeartbeats 4000000 in
set_option maxRecDepth 100000 in
theorem c_X12_isNumber (l : Launch) (dC : Nat → ClassId) (dI : Nat → Nat → Nat) (cT : Nat → ClassId) {Hh : Heap} {a_t : Nat} {a_t_signs : Nat} {a_t_s : Nat} {a_t_f : Nat} {a_t_before : Nat} {a_t_beforeF : Nat} {a_t_aside : Nat} {a_t_asideF : Nat} {a_t_saved : Nat} {a_t_savedF : Nat} {a_t_past : Nat} {a_t_pastF : Nat} {a_t_refused : Nat} {a_t_text : Nat} {a_t_numbers : Nat} {a_t_row : Nat} {a_t_isBrothOn : Nat} {a_t_dramsOn : Nat} {a_t_brothOn : Nat} {a_t_lowOn : Nat} {a_t_highOn : Nat} {a_t_lowStored : Nat} {a_t_highStored : Nat} {a_t_isBrothStored : Nat} {a_t_step : Nat} {a_t_stepF : Nat} {a_t_line : Nat} {t_signs : Nat → Int32} {p1 : Int32} {t_isSaved : Int32} {t_pastMany : Int32} {t_boiled : Int32} {t_thrown : Int32} {t_length : Int32} {t_error : Int32} {t_tokens : Int32} {t_spoons : Int32} {t_mostSpoons : Int32} {t_cause : Int32} {t_causeDetail : Int32} {t_storeMany : Int32} {t_lineMany : Int32} {o : Int32} (h : g_X12_isNumber t_signs p1 = some o) (hR0 : va_P (dC, dI) vwCl [(a_t, .inr (15, [.ref a_t_s, .ref a_t_f, .ref a_t_before, .ref a_t_beforeF, .ref a_t_aside, .ref a_t_asideF, .ref a_t_saved, .ref a_t_savedF, .int t_isSaved, .ref a_t_past, .ref a_t_pastF, .int t_pastMany, .int t_boiled, .int t_thrown, .ref a_t_refused, .ref a_t_text, .int t_length, .int t_error, .ref a_t_signs, .ref a_t_numbers, .int t_tokens, .int t_spoons, .int t_mostSpoons, .ref a_t_row, .ref a_t_isBrothOn, .ref a_t_dramsOn, .ref a_t_brothOn, .int t_cause, .int t_causeDetail, .ref a_t_lowOn, .ref a_t_highOn, .ref a_t_lowStored, .ref a_t_highStored, .ref a_t_isBrothStored, .int t_storeMany, .ref a_t_step, .ref a_t_stepF, .ref a_t_line, .int t_lineMany])), (a_t_signs, .inl (cT 2, 60, .inl t_signs))] Hh) : Met l yX12_isNumber (wA yX12_isNumber cX12_isNumber 2 (some .boolean)) ({ frames := 1, cells := 0, slots := 0, locals := 25 } : Room) (PK dC dI cT [.ref a_t, .int p1] Hh) (va_Qi (fun x (_ : Unit) => x = o) (fun _ t => t.heap = Hh) (va_A [] Hh.size)) 0 0 (va_A [] Hh.size) := by
  refine Met.ofW (cc := cX12_isNumber) (maxL := 2) (ret := (some .boolean)) (by decide) rfl ?_
  intro p e s m args below meth c s₁ B hml hv
  obtain ⟨rfl, hH, hK⟩ := hv
  subst hH
  have hx := B.exec
  have hb := B.bytes
  have hr := B.returns
  have hta : ∀ w ∈ ALLW, w.before [.ref a_t, .int p1].toArray s = true := fun w hw => atoms_spec (ws := wA yX12_isNumber cX12_isNumber 2 (some .boolean)) B.pre w (List.mem_cons_of_mem _ hw)
  have hown : s.vm.findClass RX12 = some m.cls := findClass_of_methodNamed B.named
  have hlocks := B.notSynchronized
  generalize hAe : va_A [] s.heap.size = A
  have hA : ∀ q : Nat, s.heap.size ≤ q → A q := fun q h => by rw [← hAe]; exact Or.inr h
  have hS : va_S A s.heap s.heap [] := va_S.rf
  have hl := lv_entry [.ref a_t, .int p1] (n := 2) (Nat.le_of_ble_eq_true rfl)
  rw [lg_entry_eq]
  generalize (lg_sl [.ref a_t, .int p1] ++ List.replicate (2 - (lg_sl [.ref a_t, .int p1]).length) Slot.unset).toArray = ls at hl ⊢
  have hl : lv_has ls 2 [(0, .ref a_t), (1, .int p1)] := hl
  unfold g_X12_isNumber at h
  refine lv_aload_n hx hb dX12_isNumber_0 rfl (lv_at hl 0 rfl) ?_
  refine va_get (D := (dC, dI)) (ci := 15) (v := .ref a_t_signs) (C := RX12) (T := TX12) (N := 39) hx hb hta inX12w hown hK hR0 0 rfl rfl 18 (by decide) (hta _ lk_X12_52) (fun _ h9 => h9) rfl dX12_isNumber_1 ?_
  refine lv_iload_n hx hb dX12_isNumber_4 rfl (lv_at hl 1 rfl) ?_
  obtain ⟨hc, h⟩ := gc_some h
  refine va_cald hx hb hK hR0 1 2 rfl rfl (inb_in hc) dX12_isNumber_5 ?_
  refine lv_i2l hx hb dX12_isNumber_6 rfl ?_
  refine lv_ldc2 (v := 48) hx hb hown (hta _ kc_X12_211) dX12_isNumber_7 ?_
  refine lv_ldc2 (v := 57) hx hb hown (hta _ kc_X12_213) dX12_isNumber_10 ?_
  obtain ⟨r1, hq, h⟩ := gb_some h
  refine crI (va_runS (As := [.long ((t_signs p1.toNatClampNeg).toInt64), .long (48 : Int64), .long (57 : Int64)]) (rest := []) ⟨hx, hb, hml, hown, hta⟩ (c_X12_in l dC dI cT hq) (cS hta lm_X12_112 md_X12_in ⟨(Nat.le_of_ble_eq_true rfl), (Nat.le_of_ble_eq_true rfl)⟩) ⟨fbK, fun U hU hW => ⟨rfl, hU, va_K.moved hW.alike hK⟩⟩ rfl rfl hl.1 rfl (lv_room (Nat.le_of_ble_eq_true rfl)) dX12_isNumber_13 ⟨(Nat.le_of_ble_eq_true rfl), (Nat.le_of_ble_eq_true rfl)⟩) hS hA (fun locs hS => ?_)
  obtain ⟨hc, h⟩ := gc_some h
  have ho := Option.some.inj h
  exact W.zret (ty := .boolean) (v := r1) hx hb hr (bo_n hc) (fun t ht hW => ⟨⟨r1, (), rfl, by rw [← ho], ht⟩, hS.F ht⟩) hS.2.2 dX12_isNumber_16
set_option maxHeartbeats 4000000 in
set_option maxRecDepth 100000 in
theorem c_X12_typesReckoning (l : Launch) (dC : Nat → ClassId) (dI : Nat → Nat → Nat) (cT : Nat → ClassId) {Hh : Heap} {a_t : Nat} {a_t_lowOn : Nat} {a_t_highOn : Nat} {a_t_isBrothOn : Nat} {a_t_s : Nat} {a_t_f : Nat} {a_t_before : Nat} {a_t_beforeF : Nat} {a_t_aside : Nat} {a_t_asideF : Nat} {a_t_saved : Nat} {a_t_savedF : Nat} {a_t_past : Nat} {a_t_pastF : Nat} {a_t_refused : Nat} {a_t_text : Nat} {a_t_signs : Nat} {a_t_numbers : Nat} {a_t_row : Nat} {a_t_dramsOn : Nat} {a_t_brothOn : Nat} {a_t_lowStored : Nat} {a_t_highStored : Nat} {a_t_isBrothStored : Nat} {a_t_step : Nat} {a_t_stepF : Nat} {a_t_line : Nat} {t_lowOn : Nat → Int64} {t_highOn : Nat → Int64} {t_isBrothOn : Nat → Int32} {p1 : Int32} {p2 : Int32} {t_isSaved : Int32} {t_pastMany : Int32} {t_boiled : Int32} {t_thrown : Int32} {t_length : Int32} {t_error : Int32} {t_tokens : Int32} {t_spoons : Int32} {t_mostSpoons : Int32} {t_cause : Int32} {t_causeDetail : Int32} {t_storeMany : Int32} {t_lineMany : Int32} {o : Int32 × (Nat → Int64) × (Nat → Int64)} (h : g_X12_typesReckoning t_lowOn t_highOn t_isBrothOn p1 p2 = some o) (hP0 : va_P (dC, dI) vwCl [(a_t_lowOn, .inl (cT 3, 6, .inr (.inl t_lowOn))), (a_t_highOn, .inl (cT 3, 6, .inr (.inl t_highOn)))] Hh) (hR0 : va_P (dC, dI) vwCl [(a_t, .inr (15, [.ref a_t_s, .ref a_t_f, .ref a_t_before, .ref a_t_beforeF, .ref a_t_aside, .ref a_t_asideF, .ref a_t_saved, .ref a_t_savedF, .int t_isSaved, .ref a_t_past, .ref a_t_pastF, .int t_pastMany, .int t_boiled, .int t_thrown, .ref a_t_refused, .ref a_t_text, .int t_length, .int t_error, .ref a_t_signs, .ref a_t_numbers, .int t_tokens, .int t_spoons, .int t_mostSpoons, .ref a_t_row, .ref a_t_isBrothOn, .ref a_t_dramsOn, .ref a_t_brothOn, .int t_cause, .int t_causeDetail, .ref a_t_lowOn, .ref a_t_highOn, .ref a_t_lowStored, .ref a_t_highStored, .ref a_t_isBrothStored, .int t_storeMany, .ref a_t_step, .ref a_t_stepF, .ref a_t_line, .int t_lineMany])), (a_t_isBrothOn, .inl (cT 1, 6, .inl t_isBrothOn))] Hh) (hD0 : va_D (fun _ => True) [(a_t_lowOn, .inl (cT 3, 6, .inr (.inl t_lowOn))), (a_t_highOn, .inl (cT 3, 6, .inr (.inl t_highOn)))]) (hN0 : ∀ (k : Nat) (q : Nat × va_E), ([(a_t, .inr (15, [.ref a_t_s, .ref a_t_f, .ref a_t_before, .ref a_t_beforeF, .ref a_t_aside, .ref a_t_asideF, .ref a_t_saved, .ref a_t_savedF, .int t_isSaved, .ref a_t_past, .ref a_t_pastF, .int t_pastMany, .int t_boiled, .int t_thrown, .ref a_t_refused, .ref a_t_text, .int t_length, .int t_error, .ref a_t_signs, .ref a_t_numbers, .int t_tokens, .int t_spoons, .int t_mostSpoons, .ref a_t_row, .ref a_t_isBrothOn, .ref a_t_dramsOn, .ref a_t_brothOn, .int t_cause, .int t_causeDetail, .ref a_t_lowOn, .ref a_t_highOn, .ref a_t_lowStored, .ref a_t_highStored, .ref a_t_isBrothStored, .int t_storeMany, .ref a_t_step, .ref a_t_stepF, .ref a_t_line, .int t_lineMany])), (a_t_isBrothOn, .inl (cT 1, 6, .inl t_isBrothOn))] : va_W)[k]? = some q → ¬ va_A [(a_t_lowOn, .inl (cT 3, 6, .inr (.inl t_lowOn))), (a_t_highOn, .inl (cT 3, 6, .inr (.inl t_highOn)))] Hh.size q.1) : Met l yX12_typesReckoning (wA yX12_typesReckoning cX12_typesReckoning 15 (some .boolean)) ({ frames := 1, cells := 0, slots := 0, locals := 25 } : Room) (PK dC dI cT [.ref a_t, .int p1, .int p2] Hh) (va_Qi (fun x (_ : Unit) => x = o.1) (fun _ t => va_P (dC, dI) vwCl [(a_t_lowOn, .inl (cT 3, 6, .inr (.inl o.2.1))), (a_t_highOn, .inl (cT 3, 6, .inr (.inl o.2.2)))] t.heap) (va_A [(a_t_lowOn, .inl (cT 3, 6, .inr (.inl t_lowOn))), (a_t_highOn, .inl (cT 3, 6, .inr (.inl t_highOn)))] Hh.size)) 0 0 (va_A [(a_t_lowOn, .inl (cT 3, 6, .inr (.inl t_lowOn))), (a_t_highOn, .inl (cT 3, 6, .inr (.inl t_highOn)))] Hh.size) := by
  refine Met.ofW (cc := cX12_typesReckoning) (maxL := 15) (ret := (some .boolean)) (by decide) rfl ?_
  intro p e s m args below meth c s₁ B hml hv
  obtain ⟨rfl, hH, hK⟩ := hv
  subst hH
  have hx := B.exec
  have hb := B.bytes
  have hr := B.returns
  have hta : ∀ w ∈ ALLW, w.before [.ref a_t, .int p1, .int p2].toArray s = true := fun w hw => atoms_spec (ws := wA yX12_typesReckoning cX12_typesReckoning 15 (some .boolean)) B.pre w (List.mem_cons_of_mem _ hw)
  have hown : s.vm.findClass RX12 = some m.cls := findClass_of_methodNamed B.named
  have hlocks := B.notSynchronized
  have hD := hD0.self (sz := s.heap.size)
  have hNA := hN0
  generalize hAe : va_A [(a_t_lowOn, .inl (cT 3, 6, .inr (.inl t_lowOn))), (a_t_highOn, .inl (cT 3, 6, .inr (.inl t_highOn)))] s.heap.size = A at hD hNA ⊢
  have hP := hP0
  have hA : ∀ q : Nat, s.heap.size ≤ q → A q := fun q h => by rw [← hAe]; exact Or.inr h
  have hS : va_S A s.heap s.heap [] := va_S.rf
  have hl := lv_entry [.ref a_t, .int p1, .int p2] (n := 15) (Nat.le_of_ble_eq_true rfl)
  rw [lg_entry_eq]
  generalize (lg_sl [.ref a_t, .int p1, .int p2] ++ List.replicate (15 - (lg_sl [.ref a_t, .int p1, .int p2]).length) Slot.unset).toArray = ls at hl ⊢
  have hl : lv_has ls 15 [(0, .ref a_t), (1, .int p1), (2, .int p2)] := hl
  obtain ⟨Q, hQ⟩ : ∃ Q, Q = MQ below (va_Qi (fun x (_ : Unit) => x = o.1) (fun _ t => va_P (dC, dI) vwCl [(a_t_lowOn, .inl (cT 3, 6, .inr (.inl o.2.1))), (a_t_highOn, .inl (cT 3, 6, .inr (.inl o.2.2)))] t.heap) A) [.ref a_t, .int p1, .int p2].toArray s 0 0 A := ⟨_, rfl⟩
  rw [← hQ]
  have wB_199 : ∀ (t_highOn_199 : Nat → Int64) (t_lowOn_199 : Nat → Int64) (s0_199 : Int32) (H : Heap) (locs : List Loc) (ls : Array Slot), g_X12_typesReckoning_b199 t_isBrothOn p2 t_highOn_199 t_lowOn_199 s0_199 = some o → va_P (dC, dI) vwCl [(a_t_lowOn, .inl (cT 3, 6, .inr (.inl t_lowOn_199))), (a_t_highOn, .inl (cT 3, 6, .inr (.inl t_highOn_199)))] H → va_D A [(a_t_lowOn, .inl (cT 3, 6, .inr (.inl t_lowOn_199))), (a_t_highOn, .inl (cT 3, 6, .inr (.inl t_highOn_199)))] → va_S A s.heap H locs → lv_has ls 15 [(0, .ref a_t), (2, .int p2)] → W p l e ({ frames := 1, cells := 0, slots := 0, locals := 25 } : Room) s m [.ref a_t, .int p1, .int p2].toArray below meth c H locs 0 0 Q (F0 m 199 ls [.int s0_199]) := by
    intro t_highOn_199 t_lowOn_199 s0_199 H locs ls h hP hD hS hl
    unfold g_X12_typesReckoning_b199 at h
    refine lv_istore (lv' := [(11, .int s0_199), (0, .ref a_t), (2, .int p2)]) hx hb dX12_typesReckoning_199 hl (by decide) rfl (fun ls hl => ?_)
    refine lv_aload_n hx hb dX12_typesReckoning_201 rfl (lv_at hl 1 rfl) ?_
    refine va_get (D := (dC, dI)) (ci := 15) (v := .ref a_t_isBrothOn) (C := RX12) (T := TX12) (N := 39) hx hb hta inX12w hown hK (rk hR0 hNA hS) 0 rfl rfl 24 (by decide) (hta _ lk_X12_61) (fun _ h9 => h9) rfl dX12_typesReckoning_202 ?_
    refine lv_iload_n hx hb dX12_typesReckoning_205 rfl (lv_at hl 2 rfl) ?_
    obtain ⟨hc, h⟩ := gc_some h
    refine va_zald hx hb hK (rk hR0 hNA hS) 1 1 rfl rfl (inb_in hc) dX12_typesReckoning_206 ?_
    refine lv_aload_n hx hb dX12_typesReckoning_207 rfl (lv_at hl 1 rfl) ?_
    refine va_get (D := (dC, dI)) (ci := 15) (v := .ref a_t_isBrothOn) (C := RX12) (T := TX12) (N := 39) hx hb hta inX12w hown hK (rk hR0 hNA hS) 0 rfl rfl 24 (by decide) (hta _ lk_X12_61) (fun _ h9 => h9) rfl dX12_typesReckoning_208 ?_
    refine lv_iload_n hx hb dX12_typesReckoning_211 rfl (lv_at hl 2 rfl) ?_
    refine lv_iconst (v := 1) hx hb dX12_typesReckoning_212 (by decide) ?_
    refine lv_isub hx hb dX12_typesReckoning_213 ?_
    obtain ⟨hc, h⟩ := gc_some h
    refine va_zald hx hb hK (rk hR0 hNA hS) 1 1 rfl rfl (inb_in hc) dX12_typesReckoning_214 ?_
    refine lv_icmp_ne (tgt := 232) hx hb dX12_typesReckoning_215 (by decide) (fun c0 => ?_) (fun c0 => ?_)
    · have h := (if_neg c0).symm.trans h
      refine lv_iconst (v := 1) hx hb dX12_typesReckoning_232 (by decide) ?_
      refine lv_goto (tgt := 237) hx hb dX12_typesReckoning_233 (by decide) ?_
      have ho := Option.some.inj h
      rw [hQ]
      exact W.zret (ty := .boolean) (v := 1) hx hb hr rfl (fun t ht hW => ⟨⟨1, (), rfl, by rw [← ho], by show va_P (dC, dI) vwCl _ t.heap; rw [ht, ← ho]; exact hP⟩, hS.F ht⟩) hS.2.2 dX12_typesReckoning_237
    · have h := (if_pos c0).symm.trans h
      refine lv_aload_n hx hb dX12_typesReckoning_218 rfl (lv_at hl 1 rfl) ?_
      refine va_get (D := (dC, dI)) (ci := 15) (v := .ref a_t_isBrothOn) (C := RX12) (T := TX12) (N := 39) hx hb hta inX12w hown hK (rk hR0 hNA hS) 0 rfl rfl 24 (by decide) (hta _ lk_X12_61) (fun _ h9 => h9) rfl dX12_typesReckoning_219 ?_
      refine lv_iload_n hx hb dX12_typesReckoning_222 rfl (lv_at hl 2 rfl) ?_
      obtain ⟨hc, h⟩ := gc_some h
      refine va_zald hx hb hK (rk hR0 hNA hS) 1 1 rfl rfl (inb_in hc) dX12_typesReckoning_223 ?_
      refine lv_if_ne (tgt := 236) hx hb dX12_typesReckoning_224 (by decide) (fun c0 => ?_) (fun c0 => ?_)
      · have h := (if_neg c0).symm.trans h
        refine lv_iconst (v := 0) hx hb dX12_typesReckoning_236 (by decide) ?_
        have ho := Option.some.inj h
        rw [hQ]
        exact W.zret (ty := .boolean) (v := 0) hx hb hr rfl (fun t ht hW => ⟨⟨0, (), rfl, by rw [← ho], by show va_P (dC, dI) vwCl _ t.heap; rw [ht, ← ho]; exact hP⟩, hS.F ht⟩) hS.2.2 dX12_typesReckoning_237
      · have h := (if_pos c0).symm.trans h
        refine lv_iload hx hb dX12_typesReckoning_227 (lv_at hl 0 rfl) ?_
        refine lv_if_ne (tgt := 236) hx hb dX12_typesReckoning_229 (by decide) (fun c0 => ?_) (fun c0 => ?_)
        · have h := (if_neg c0).symm.trans h
          refine lv_iconst (v := 0) hx hb dX12_typesReckoning_236 (by decide) ?_
          have ho := Option.some.inj h
          rw [hQ]
          exact W.zret (ty := .boolean) (v := 0) hx hb hr rfl (fun t ht hW => ⟨⟨0, (), rfl, by rw [← ho], by show va_P (dC, dI) vwCl _ t.heap; rw [ht, ← ho]; exact hP⟩, hS.F ht⟩) hS.2.2 dX12_typesReckoning_237
        · have h := (if_pos c0).symm.trans h
          refine lv_iconst (v := 1) hx hb dX12_typesReckoning_232 (by decide) ?_
          refine lv_goto (tgt := 237) hx hb dX12_typesReckoning_233 (by decide) ?_
          have ho := Option.some.inj h
          rw [hQ]
          exact W.zret (ty := .boolean) (v := 1) hx hb hr rfl (fun t ht hW => ⟨⟨1, (), rfl, by rw [← ho], by show va_P (dC, dI) vwCl _ t.heap; rw [ht, ← ho]; exact hP⟩, hS.F ht⟩) hS.2.2 dX12_typesReckoning_237
  have wB_198 : ∀ (t_highOn_198 : Nat → Int64) (t_lowOn_198 : Nat → Int64) (H : Heap) (locs : List Loc) (ls : Array Slot), g_X12_typesReckoning_b198 t_isBrothOn p2 t_highOn_198 t_lowOn_198 = some o → va_P (dC, dI) vwCl [(a_t_lowOn, .inl (cT 3, 6, .inr (.inl t_lowOn_198))), (a_t_highOn, .inl (cT 3, 6, .inr (.inl t_highOn_198)))] H → va_D A [(a_t_lowOn, .inl (cT 3, 6, .inr (.inl t_lowOn_198))), (a_t_highOn, .inl (cT 3, 6, .inr (.inl t_highOn_198)))] → va_S A s.heap H locs → lv_has ls 15 [(0, .ref a_t), (2, .int p2)] → W p l e ({ frames := 1, cells := 0, slots := 0, locals := 25 } : Room) s m [.ref a_t, .int p1, .int p2].toArray below meth c H locs 0 0 Q (F0 m 198 ls []) := by
    intro t_highOn_198 t_lowOn_198 H locs ls h hP hD hS hl
    unfold g_X12_typesReckoning_b198 at h
    refine lv_iconst (v := 0) hx hb dX12_typesReckoning_198 (by decide) ?_
    exact wB_199 t_highOn_198 t_lowOn_198 0 _ _ _ h hP hD hS (lv_sub hl [0, 1] rfl)
  have wB_154 : ∀ (t_highOn_154 : Nat → Int64) (t_lowOn_154 : Nat → Int64) (H : Heap) (locs : List Loc) (ls : Array Slot), g_X12_typesReckoning_b154 t_isBrothOn p2 t_highOn_154 t_lowOn_154 = some o → va_P (dC, dI) vwCl [(a_t_lowOn, .inl (cT 3, 6, .inr (.inl t_lowOn_154))), (a_t_highOn, .inl (cT 3, 6, .inr (.inl t_highOn_154)))] H → va_D A [(a_t_lowOn, .inl (cT 3, 6, .inr (.inl t_lowOn_154))), (a_t_highOn, .inl (cT 3, 6, .inr (.inl t_highOn_154)))] → va_S A s.heap H locs → lv_has ls 15 [(0, .ref a_t), (2, .int p2)] → W p l e ({ frames := 1, cells := 0, slots := 0, locals := 25 } : Room) s m [.ref a_t, .int p1, .int p2].toArray below meth c H locs 0 0 Q (F0 m 154 ls []) := by
    intro t_highOn_154 t_lowOn_154 H locs ls h hP hD hS hl
    unfold g_X12_typesReckoning_b154 at h
    refine lv_aload_n hx hb dX12_typesReckoning_154 rfl (lv_at hl 0 rfl) ?_
    refine va_get (D := (dC, dI)) (ci := 15) (v := .ref a_t_lowOn) (C := RX12) (T := TX12) (N := 39) hx hb hta inX12w hown hK (rk hR0 hNA hS) 0 rfl rfl 29 (by decide) (hta _ lk_X12_72) (fun _ h9 => h9) rfl dX12_typesReckoning_155 ?_
    refine lv_iload_n hx hb dX12_typesReckoning_158 rfl (lv_at hl 1 rfl) ?_
    refine lv_iconst (v := 1) hx hb dX12_typesReckoning_159 (by decide) ?_
    refine lv_isub hx hb dX12_typesReckoning_160 ?_
    obtain ⟨hc, h⟩ := gc_some h
    refine va_lald hx hb hK hP 0 3 rfl rfl (inb_in hc) dX12_typesReckoning_161 ?_
    refine lv_ldc2 (v := -1000000) hx hb hown (hta _ kc_X12_248) dX12_typesReckoning_162 ?_
    refine lv_ldc2 (v := 1000000) hx hb hown (hta _ kc_X12_250) dX12_typesReckoning_165 ?_
    obtain ⟨r10, hq, h⟩ := gb_some h
    refine crI (va_runS (As := [.long (t_lowOn_154 (p2 - 1).toNatClampNeg), .long (-1000000 : Int64), .long (1000000 : Int64)]) (rest := []) ⟨hx, hb, hml, hown, hta⟩ (c_X12_in l dC dI cT hq) (cS hta lm_X12_112 md_X12_in ⟨(Nat.le_of_ble_eq_true rfl), (Nat.le_of_ble_eq_true rfl)⟩) ⟨fbK, fun U hU hW => ⟨rfl, hU, va_K.moved hW.alike hK⟩⟩ rfl rfl hl.1 rfl (lv_room (Nat.le_of_ble_eq_true rfl)) dX12_typesReckoning_168 ⟨(Nat.le_of_ble_eq_true rfl), (Nat.le_of_ble_eq_true rfl)⟩) hS hA (fun locs hS => ?_)
    refine lv_if_eq (tgt := 198) hx hb dX12_typesReckoning_171 (by decide) (fun c0 => ?_) (fun c0 => ?_)
    · have h := (if_pos c0).symm.trans h
      exact wB_198 t_highOn_154 t_lowOn_154 _ _ _ h hP hD hS (lv_sub hl [0, 1] rfl)
    · have h := (if_neg c0).symm.trans h
      refine lv_aload_n hx hb dX12_typesReckoning_174 rfl (lv_at hl 0 rfl) ?_
      refine va_get (D := (dC, dI)) (ci := 15) (v := .ref a_t_highOn) (C := RX12) (T := TX12) (N := 39) hx hb hta inX12w hown hK (rk hR0 hNA hS) 0 rfl rfl 30 (by decide) (hta _ lk_X12_75) (fun _ h9 => h9) rfl dX12_typesReckoning_175 ?_
      refine lv_iload_n hx hb dX12_typesReckoning_178 rfl (lv_at hl 1 rfl) ?_
      refine lv_iconst (v := 1) hx hb dX12_typesReckoning_179 (by decide) ?_
      refine lv_isub hx hb dX12_typesReckoning_180 ?_
      obtain ⟨hc, h⟩ := gc_some h
      refine va_lald hx hb hK hP 1 3 rfl rfl (inb_in hc) dX12_typesReckoning_181 ?_
      refine lv_ldc2 (v := -1000000) hx hb hown (hta _ kc_X12_248) dX12_typesReckoning_182 ?_
      refine lv_ldc2 (v := 1000000) hx hb hown (hta _ kc_X12_250) dX12_typesReckoning_185 ?_
      obtain ⟨r11, hq, h⟩ := gb_some h
      refine crI (va_runS (As := [.long (t_highOn_154 (p2 - 1).toNatClampNeg), .long (-1000000 : Int64), .long (1000000 : Int64)]) (rest := []) ⟨hx, hb, hml, hown, hta⟩ (c_X12_in l dC dI cT hq) (cS hta lm_X12_112 md_X12_in ⟨(Nat.le_of_ble_eq_true rfl), (Nat.le_of_ble_eq_true rfl)⟩) ⟨fbK, fun U hU hW => ⟨rfl, hU, va_K.moved hW.alike hK⟩⟩ rfl rfl hl.1 rfl (lv_room (Nat.le_of_ble_eq_true rfl)) dX12_typesReckoning_188 ⟨(Nat.le_of_ble_eq_true rfl), (Nat.le_of_ble_eq_true rfl)⟩) hS hA (fun locs hS => ?_)
      refine lv_if_eq (tgt := 198) hx hb dX12_typesReckoning_191 (by decide) (fun c0 => ?_) (fun c0 => ?_)
      · have h := (if_pos c0).symm.trans h
        exact wB_198 t_highOn_154 t_lowOn_154 _ _ _ h hP hD hS (lv_sub hl [0, 1] rfl)
      · have h := (if_neg c0).symm.trans h
        refine lv_iconst (v := 1) hx hb dX12_typesReckoning_194 (by decide) ?_
        refine lv_goto (tgt := 199) hx hb dX12_typesReckoning_195 (by decide) ?_
        exact wB_199 t_highOn_154 t_lowOn_154 1 _ _ _ h hP hD hS (lv_sub hl [0, 1] rfl)
  unfold g_X12_typesReckoning at h
  refine lv_aload_n hx hb dX12_typesReckoning_0 rfl (lv_at hl 0 rfl) ?_
  refine va_get (D := (dC, dI)) (ci := 15) (v := .ref a_t_lowOn) (C := RX12) (T := TX12) (N := 39) hx hb hta inX12w hown hK (rk hR0 hNA hS) 0 rfl rfl 29 (by decide) (hta _ lk_X12_72) (fun _ h9 => h9) rfl dX12_typesReckoning_1 ?_
  refine lv_iload_n hx hb dX12_typesReckoning_4 rfl (lv_at hl 2 rfl) ?_
  refine lv_iconst (v := 1) hx hb dX12_typesReckoning_5 (by decide) ?_
  refine lv_isub hx hb dX12_typesReckoning_6 ?_
  obtain ⟨hc, h⟩ := gc_some h
  refine va_lald hx hb hK hP 0 3 rfl rfl (inb_in hc) dX12_typesReckoning_7 ?_
  refine lv_topl (fun v1 e_v1 => ?_)
  have h := gl_use e_v1 h
  refine lv_lstore_n (lv' := [(3, .long v1), (0, .ref a_t), (1, .int p1), (2, .int p2)]) hx hb dX12_typesReckoning_8 rfl hl (by decide) rfl (fun ls hl => ?_)
  refine lv_aload_n hx hb dX12_typesReckoning_9 rfl (lv_at hl 1 rfl) ?_
  refine va_get (D := (dC, dI)) (ci := 15) (v := .ref a_t_highOn) (C := RX12) (T := TX12) (N := 39) hx hb hta inX12w hown hK (rk hR0 hNA hS) 0 rfl rfl 30 (by decide) (hta _ lk_X12_75) (fun _ h9 => h9) rfl dX12_typesReckoning_10 ?_
  refine lv_iload_n hx hb dX12_typesReckoning_13 rfl (lv_at hl 3 rfl) ?_
  refine lv_iconst (v := 1) hx hb dX12_typesReckoning_14 (by decide) ?_
  refine lv_isub hx hb dX12_typesReckoning_15 ?_
  obtain ⟨hc, h⟩ := gc_some h
  refine va_lald hx hb hK hP 1 3 rfl rfl (inb_in hc) dX12_typesReckoning_16 ?_
  refine lv_topl (fun v2 e_v2 => ?_)
  have h := gl_use e_v2 h
  refine lv_lstore (lv' := [(5, .long v2), (3, .long v1), (0, .ref a_t), (1, .int p1), (2, .int p2)]) hx hb dX12_typesReckoning_17 hl (by decide) rfl (fun ls hl => ?_)
  refine lv_aload_n hx hb dX12_typesReckoning_19 rfl (lv_at hl 2 rfl) ?_
  refine va_get (D := (dC, dI)) (ci := 15) (v := .ref a_t_lowOn) (C := RX12) (T := TX12) (N := 39) hx hb hta inX12w hown hK (rk hR0 hNA hS) 0 rfl rfl 29 (by decide) (hta _ lk_X12_72) (fun _ h9 => h9) rfl dX12_typesReckoning_20 ?_
  refine lv_iload_n hx hb dX12_typesReckoning_23 rfl (lv_at hl 4 rfl) ?_
  obtain ⟨hc, h⟩ := gc_some h
  refine va_lald hx hb hK hP 0 3 rfl rfl (inb_in hc) dX12_typesReckoning_24 ?_
  refine lv_topl (fun v3 e_v3 => ?_)
  have h := gl_use e_v3 h
  refine lv_lstore (lv' := [(7, .long v3), (5, .long v2), (3, .long v1), (0, .ref a_t), (1, .int p1), (2, .int p2)]) hx hb dX12_typesReckoning_25 hl (by decide) rfl (fun ls hl => ?_)
  refine lv_aload_n hx hb dX12_typesReckoning_27 rfl (lv_at hl 3 rfl) ?_
  refine va_get (D := (dC, dI)) (ci := 15) (v := .ref a_t_highOn) (C := RX12) (T := TX12) (N := 39) hx hb hta inX12w hown hK (rk hR0 hNA hS) 0 rfl rfl 30 (by decide) (hta _ lk_X12_75) (fun _ h9 => h9) rfl dX12_typesReckoning_28 ?_
  refine lv_iload_n hx hb dX12_typesReckoning_31 rfl (lv_at hl 5 rfl) ?_
  obtain ⟨hc, h⟩ := gc_some h
  refine va_lald hx hb hK hP 1 3 rfl rfl (inb_in hc) dX12_typesReckoning_32 ?_
  refine lv_topl (fun v4 e_v4 => ?_)
  have h := gl_use e_v4 h
  refine lv_lstore (lv' := [(9, .long v4), (7, .long v3), (5, .long v2), (3, .long v1), (0, .ref a_t), (1, .int p1), (2, .int p2)]) hx hb dX12_typesReckoning_33 hl (by decide) rfl (fun ls hl => ?_)
  refine lv_iload_n hx hb dX12_typesReckoning_35 rfl (lv_at hl 5 rfl) ?_
  refine lv_bipush (v := 43) hx hb dX12_typesReckoning_36 (by decide) ?_
  refine lv_icmp_ne (tgt := 60) hx hb dX12_typesReckoning_38 (by decide) (fun c0 => ?_) (fun c0 => ?_)
  · have h := (if_neg c0).symm.trans h
    refine lv_iload_n hx hb dX12_typesReckoning_60 rfl (lv_at hl 5 rfl) ?_
    refine lv_bipush (v := 45) hx hb dX12_typesReckoning_61 (by decide) ?_
    refine lv_icmp_ne (tgt := 85) hx hb dX12_typesReckoning_63 (by decide) (fun c0 => ?_) (fun c0 => ?_)
    · have h := (if_neg c0).symm.trans h
      refine lv_lload_n hx hb dX12_typesReckoning_85 rfl (lv_at hl 3 rfl) ?_
      refine lv_lload hx hb dX12_typesReckoning_86 (lv_at hl 1 rfl) ?_
      refine lv_lmul hx hb dX12_typesReckoning_88 ?_
      refine lv_lload_n hx hb dX12_typesReckoning_89 rfl (lv_at hl 3 rfl) ?_
      refine lv_lload hx hb dX12_typesReckoning_90 (lv_at hl 0 rfl) ?_
      refine lv_lmul hx hb dX12_typesReckoning_92 ?_
      refine va_mmin_long hx hb (hml.trans hl.1.symm) hown (hta _ lm_X12_303) (hta _ mth_minlong_s) (hta _ mth_i) (hta _ mth_minlong_c) (Nat.le_of_ble_eq_true rfl) (Nat.le_of_ble_eq_true rfl) (Nat.le_of_ble_eq_true rfl) (Nat.le_of_ble_eq_true rfl) dX12_typesReckoning_93 ?_
      refine lv_lload hx hb dX12_typesReckoning_96 (lv_at hl 2 rfl) ?_
      refine lv_lload hx hb dX12_typesReckoning_98 (lv_at hl 1 rfl) ?_
      refine lv_lmul hx hb dX12_typesReckoning_100 ?_
      refine lv_lload hx hb dX12_typesReckoning_101 (lv_at hl 2 rfl) ?_
      refine lv_lload hx hb dX12_typesReckoning_103 (lv_at hl 0 rfl) ?_
      refine lv_lmul hx hb dX12_typesReckoning_105 ?_
      refine va_mmin_long hx hb (hml.trans hl.1.symm) hown (hta _ lm_X12_303) (hta _ mth_minlong_s) (hta _ mth_i) (hta _ mth_minlong_c) (Nat.le_of_ble_eq_true rfl) (Nat.le_of_ble_eq_true rfl) (Nat.le_of_ble_eq_true rfl) (Nat.le_of_ble_eq_true rfl) dX12_typesReckoning_106 ?_
      refine va_mmin_long hx hb (hml.trans hl.1.symm) hown (hta _ lm_X12_303) (hta _ mth_minlong_s) (hta _ mth_i) (hta _ mth_minlong_c) (Nat.le_of_ble_eq_true rfl) (Nat.le_of_ble_eq_true rfl) (Nat.le_of_ble_eq_true rfl) (Nat.le_of_ble_eq_true rfl) dX12_typesReckoning_109 ?_
      refine lv_topl (fun v5 e_v5 => ?_)
      have h := gl_use e_v5 h
      refine lv_lstore (lv' := [(11, .long v5), (9, .long v4), (7, .long v3), (5, .long v2), (3, .long v1), (0, .ref a_t), (1, .int p1), (2, .int p2)]) hx hb dX12_typesReckoning_112 hl (by decide) rfl (fun ls hl => ?_)
      refine lv_lload_n hx hb dX12_typesReckoning_114 rfl (lv_at hl 4 rfl) ?_
      refine lv_lload hx hb dX12_typesReckoning_115 (lv_at hl 2 rfl) ?_
      refine lv_lmul hx hb dX12_typesReckoning_117 ?_
      refine lv_lload_n hx hb dX12_typesReckoning_118 rfl (lv_at hl 4 rfl) ?_
      refine lv_lload hx hb dX12_typesReckoning_119 (lv_at hl 1 rfl) ?_
      refine lv_lmul hx hb dX12_typesReckoning_121 ?_
      refine va_mmax_long hx hb (hml.trans hl.1.symm) hown (hta _ lm_X12_306) (hta _ mth_maxlong_s) (hta _ mth_i) (hta _ mth_maxlong_c) (Nat.le_of_ble_eq_true rfl) (Nat.le_of_ble_eq_true rfl) (Nat.le_of_ble_eq_true rfl) (Nat.le_of_ble_eq_true rfl) dX12_typesReckoning_122 ?_
      refine lv_lload hx hb dX12_typesReckoning_125 (lv_at hl 3 rfl) ?_
      refine lv_lload hx hb dX12_typesReckoning_127 (lv_at hl 2 rfl) ?_
      refine lv_lmul hx hb dX12_typesReckoning_129 ?_
      refine lv_lload hx hb dX12_typesReckoning_130 (lv_at hl 3 rfl) ?_
      refine lv_lload hx hb dX12_typesReckoning_132 (lv_at hl 1 rfl) ?_
      refine lv_lmul hx hb dX12_typesReckoning_134 ?_
      refine va_mmax_long hx hb (hml.trans hl.1.symm) hown (hta _ lm_X12_306) (hta _ mth_maxlong_s) (hta _ mth_i) (hta _ mth_maxlong_c) (Nat.le_of_ble_eq_true rfl) (Nat.le_of_ble_eq_true rfl) (Nat.le_of_ble_eq_true rfl) (Nat.le_of_ble_eq_true rfl) dX12_typesReckoning_135 ?_
      refine va_mmax_long hx hb (hml.trans hl.1.symm) hown (hta _ lm_X12_306) (hta _ mth_maxlong_s) (hta _ mth_i) (hta _ mth_maxlong_c) (Nat.le_of_ble_eq_true rfl) (Nat.le_of_ble_eq_true rfl) (Nat.le_of_ble_eq_true rfl) (Nat.le_of_ble_eq_true rfl) dX12_typesReckoning_138 ?_
      refine lv_topl (fun v6 e_v6 => ?_)
      have h := gl_use e_v6 h
      refine lv_lstore (lv' := [(13, .long v6), (11, .long v5), (9, .long v4), (7, .long v3), (5, .long v2), (3, .long v1), (0, .ref a_t), (1, .int p1), (2, .int p2)]) hx hb dX12_typesReckoning_141 hl (by decide) rfl (fun ls hl => ?_)
      refine lv_aload_n hx hb dX12_typesReckoning_143 rfl (lv_at hl 6 rfl) ?_
      refine lv_iload_n hx hb dX12_typesReckoning_144 rfl (lv_at hl 8 rfl) ?_
      refine lv_iconst (v := 1) hx hb dX12_typesReckoning_145 (by decide) ?_
      refine lv_isub hx hb dX12_typesReckoning_146 ?_
      refine lv_lload hx hb dX12_typesReckoning_147 (lv_at hl 1 rfl) ?_
      refine lv_lload hx hb dX12_typesReckoning_149 (lv_at hl 0 rfl) ?_
      obtain ⟨r7, hq, h⟩ := gb_some h
      refine cxV (X2 := [(a_t_lowOn, .inl (cT 3, 6, .inr (.inl r7.1))), (a_t_highOn, .inl (cT 3, 6, .inr (.inl r7.2)))]) (va_runV (As := [.int (p2 - 1), .long v5, .long v6]) (rest := []) ⟨hx, hb, hml, hown, hta⟩ (c_X12_laysBounds l dC dI cT hq (hP.sub (ws' := [(a_t_lowOn, .inl (cT 3, 6, .inr (.inl t_lowOn))), (a_t_highOn, .inl (cT 3, 6, .inr (.inl t_highOn)))]) [0, 1] rfl) ((va_P.app hP (rk hR0 hNA hS)).sub (ws' := [(a_t, .inr (15, [.ref a_t_s, .ref a_t_f, .ref a_t_before, .ref a_t_beforeF, .ref a_t_aside, .ref a_t_asideF, .ref a_t_saved, .ref a_t_savedF, .int t_isSaved, .ref a_t_past, .ref a_t_pastF, .int t_pastMany, .int t_boiled, .int t_thrown, .ref a_t_refused, .ref a_t_text, .int t_length, .int t_error, .ref a_t_signs, .ref a_t_numbers, .int t_tokens, .int t_spoons, .int t_mostSpoons, .ref a_t_row, .ref a_t_isBrothOn, .ref a_t_dramsOn, .ref a_t_brothOn, .int t_cause, .int t_causeDetail, .ref a_t_lowOn, .ref a_t_highOn, .ref a_t_lowStored, .ref a_t_highStored, .ref a_t_isBrothStored, .int t_storeMany, .ref a_t_step, .ref a_t_stepF, .ref a_t_line, .int t_lineMany]))]) [2] rfl) (ds hD [0, 1] (by decide) rfl) (nac hP hD [0, 1] rfl (va_free hD hS hA [0, 1] rfl) hNA [.inl 0] rfl rfl)) (cV hta lm_X12_299 md_X12_laysBounds ⟨(Nat.le_of_ble_eq_true rfl), (Nat.le_of_ble_eq_true rfl)⟩) ⟨fbK, va_recv hK (rk hR0 hNA hS) (ci := 15) (q0 := 0) rfl rfl, fun U hU hW => ⟨rfl, hU, va_K.moved hW.alike hK⟩⟩ rfl rfl hl.1 rfl (lv_room (Nat.le_of_ble_eq_true rfl)) dX12_typesReckoning_151 ⟨(Nat.le_of_ble_eq_true rfl), (Nat.le_of_ble_eq_true rfl)⟩) hS hA hP hD [0, 1] rfl [.inl 0, .inl 1] rfl rfl rfl (fun H locs hP hD hS => ?_)
      exact wB_154 r7.2 r7.1 _ _ _ h hP hD hS (lv_sub hl [6, 8] rfl)
    · have h := (if_pos c0).symm.trans h
      refine lv_aload_n hx hb dX12_typesReckoning_66 rfl (lv_at hl 4 rfl) ?_
      refine lv_iload_n hx hb dX12_typesReckoning_67 rfl (lv_at hl 6 rfl) ?_
      refine lv_iconst (v := 1) hx hb dX12_typesReckoning_68 (by decide) ?_
      refine lv_isub hx hb dX12_typesReckoning_69 ?_
      refine lv_lload_n hx hb dX12_typesReckoning_70 rfl (lv_at hl 3 rfl) ?_
      refine lv_lload hx hb dX12_typesReckoning_71 (lv_at hl 0 rfl) ?_
      refine lv_lsub hx hb dX12_typesReckoning_73 ?_
      refine lv_lload hx hb dX12_typesReckoning_74 (lv_at hl 2 rfl) ?_
      refine lv_lload hx hb dX12_typesReckoning_76 (lv_at hl 1 rfl) ?_
      refine lv_lsub hx hb dX12_typesReckoning_78 ?_
      obtain ⟨r8, hq, h⟩ := gb_some h
      refine cxV (X2 := [(a_t_lowOn, .inl (cT 3, 6, .inr (.inl r8.1))), (a_t_highOn, .inl (cT 3, 6, .inr (.inl r8.2)))]) (va_runV (As := [.int (p2 - 1), .long (v1 - v4), .long (v2 - v3)]) (rest := []) ⟨hx, hb, hml, hown, hta⟩ (c_X12_laysBounds l dC dI cT hq (hP.sub (ws' := [(a_t_lowOn, .inl (cT 3, 6, .inr (.inl t_lowOn))), (a_t_highOn, .inl (cT 3, 6, .inr (.inl t_highOn)))]) [0, 1] rfl) ((va_P.app hP (rk hR0 hNA hS)).sub (ws' := [(a_t, .inr (15, [.ref a_t_s, .ref a_t_f, .ref a_t_before, .ref a_t_beforeF, .ref a_t_aside, .ref a_t_asideF, .ref a_t_saved, .ref a_t_savedF, .int t_isSaved, .ref a_t_past, .ref a_t_pastF, .int t_pastMany, .int t_boiled, .int t_thrown, .ref a_t_refused, .ref a_t_text, .int t_length, .int t_error, .ref a_t_signs, .ref a_t_numbers, .int t_tokens, .int t_spoons, .int t_mostSpoons, .ref a_t_row, .ref a_t_isBrothOn, .ref a_t_dramsOn, .ref a_t_brothOn, .int t_cause, .int t_causeDetail, .ref a_t_lowOn, .ref a_t_highOn, .ref a_t_lowStored, .ref a_t_highStored, .ref a_t_isBrothStored, .int t_storeMany, .ref a_t_step, .ref a_t_stepF, .ref a_t_line, .int t_lineMany]))]) [2] rfl) (ds hD [0, 1] (by decide) rfl) (nac hP hD [0, 1] rfl (va_free hD hS hA [0, 1] rfl) hNA [.inl 0] rfl rfl)) (cV hta lm_X12_299 md_X12_laysBounds ⟨(Nat.le_of_ble_eq_true rfl), (Nat.le_of_ble_eq_true rfl)⟩) ⟨fbK, va_recv hK (rk hR0 hNA hS) (ci := 15) (q0 := 0) rfl rfl, fun U hU hW => ⟨rfl, hU, va_K.moved hW.alike hK⟩⟩ rfl rfl hl.1 rfl (lv_room (Nat.le_of_ble_eq_true rfl)) dX12_typesReckoning_79 ⟨(Nat.le_of_ble_eq_true rfl), (Nat.le_of_ble_eq_true rfl)⟩) hS hA hP hD [0, 1] rfl [.inl 0, .inl 1] rfl rfl rfl (fun H locs hP hD hS => ?_)
      refine lv_goto (tgt := 154) hx hb dX12_typesReckoning_82 (by decide) ?_
      exact wB_154 r8.2 r8.1 _ _ _ h hP hD hS (lv_sub hl [4, 6] rfl)
  · have h := (if_pos c0).symm.trans h
    refine lv_aload_n hx hb dX12_typesReckoning_41 rfl (lv_at hl 4 rfl) ?_
    refine lv_iload_n hx hb dX12_typesReckoning_42 rfl (lv_at hl 6 rfl) ?_
    refine lv_iconst (v := 1) hx hb dX12_typesReckoning_43 (by decide) ?_
    refine lv_isub hx hb dX12_typesReckoning_44 ?_
    refine lv_lload_n hx hb dX12_typesReckoning_45 rfl (lv_at hl 3 rfl) ?_
    refine lv_lload hx hb dX12_typesReckoning_46 (lv_at hl 1 rfl) ?_
    refine lv_ladd hx hb dX12_typesReckoning_48 ?_
    refine lv_lload hx hb dX12_typesReckoning_49 (lv_at hl 2 rfl) ?_
    refine lv_lload hx hb dX12_typesReckoning_51 (lv_at hl 0 rfl) ?_
    refine lv_ladd hx hb dX12_typesReckoning_53 ?_
    obtain ⟨r9, hq, h⟩ := gb_some h
    refine cxV (X2 := [(a_t_lowOn, .inl (cT 3, 6, .inr (.inl r9.1))), (a_t_highOn, .inl (cT 3, 6, .inr (.inl r9.2)))]) (va_runV (As := [.int (p2 - 1), .long (v1 + v3), .long (v2 + v4)]) (rest := []) ⟨hx, hb, hml, hown, hta⟩ (c_X12_laysBounds l dC dI cT hq (hP.sub (ws' := [(a_t_lowOn, .inl (cT 3, 6, .inr (.inl t_lowOn))), (a_t_highOn, .inl (cT 3, 6, .inr (.inl t_highOn)))]) [0, 1] rfl) ((va_P.app hP (rk hR0 hNA hS)).sub (ws' := [(a_t, .inr (15, [.ref a_t_s, .ref a_t_f, .ref a_t_before, .ref a_t_beforeF, .ref a_t_aside, .ref a_t_asideF, .ref a_t_saved, .ref a_t_savedF, .int t_isSaved, .ref a_t_past, .ref a_t_pastF, .int t_pastMany, .int t_boiled, .int t_thrown, .ref a_t_refused, .ref a_t_text, .int t_length, .int t_error, .ref a_t_signs, .ref a_t_numbers, .int t_tokens, .int t_spoons, .int t_mostSpoons, .ref a_t_row, .ref a_t_isBrothOn, .ref a_t_dramsOn, .ref a_t_brothOn, .int t_cause, .int t_causeDetail, .ref a_t_lowOn, .ref a_t_highOn, .ref a_t_lowStored, .ref a_t_highStored, .ref a_t_isBrothStored, .int t_storeMany, .ref a_t_step, .ref a_t_stepF, .ref a_t_line, .int t_lineMany]))]) [2] rfl) (ds hD [0, 1] (by decide) rfl) (nac hP hD [0, 1] rfl (va_free hD hS hA [0, 1] rfl) hNA [.inl 0] rfl rfl)) (cV hta lm_X12_299 md_X12_laysBounds ⟨(Nat.le_of_ble_eq_true rfl), (Nat.le_of_ble_eq_true rfl)⟩) ⟨fbK, va_recv hK (rk hR0 hNA hS) (ci := 15) (q0 := 0) rfl rfl, fun U hU hW => ⟨rfl, hU, va_K.moved hW.alike hK⟩⟩ rfl rfl hl.1 rfl (lv_room (Nat.le_of_ble_eq_true rfl)) dX12_typesReckoning_54 ⟨(Nat.le_of_ble_eq_true rfl), (Nat.le_of_ble_eq_true rfl)⟩) hS hA hP hD [0, 1] rfl [.inl 0, .inl 1] rfl rfl rfl (fun H locs hP hD hS => ?_)
    refine lv_goto (tgt := 154) hx hb dX12_typesReckoning_57 (by decide) ?_
    exact wB_154 r9.2 r9.1 _ _ _ h hP hD hS (lv_sub hl [4, 6] rfl)
set_option maxHeartbeats 4000000 in
set_option maxRecDepth 100000 in
theorem c_X12_isFault (l : Launch) (dC : Nat → ClassId) (dI : Nat → Nat → Nat) (cT : Nat → ClassId) {Hh : Heap} {a_t : Nat} {a_t_numbers : Nat} {a_t_signs : Nat} {a_t_lowOn : Nat} {a_t_highOn : Nat} {a_t_isBrothOn : Nat} {a_t_s : Nat} {a_t_f : Nat} {a_t_before : Nat} {a_t_beforeF : Nat} {a_t_aside : Nat} {a_t_asideF : Nat} {a_t_saved : Nat} {a_t_savedF : Nat} {a_t_past : Nat} {a_t_pastF : Nat} {a_t_refused : Nat} {a_t_text : Nat} {a_t_row : Nat} {a_t_dramsOn : Nat} {a_t_brothOn : Nat} {a_t_lowStored : Nat} {a_t_highStored : Nat} {a_t_isBrothStored : Nat} {a_t_step : Nat} {a_t_stepF : Nat} {a_t_line : Nat} {t_numbers : Nat → Int32} {t_signs : Nat → Int32} {t_lowOn : Nat → Int64} {t_highOn : Nat → Int64} {t_isBrothOn : Nat → Int32} {t_s : Nat → Int32} {p1 : Int32} {p2 : Int32} {t_isSaved : Int32} {t_pastMany : Int32} {t_boiled : Int32} {t_thrown : Int32} {t_length : Int32} {t_error : Int32} {t_tokens : Int32} {t_spoons : Int32} {t_mostSpoons : Int32} {t_cause : Int32} {t_causeDetail : Int32} {t_storeMany : Int32} {t_lineMany : Int32} {o : Int32 × (Nat → Int64) × (Nat → Int64) × (Nat → Int32)} (h : g_X12_isFault t_numbers t_signs t_lowOn t_highOn t_isBrothOn t_s p1 p2 = some o) (hP0 : va_P (dC, dI) vwCl [(a_t_lowOn, .inl (cT 3, 6, .inr (.inl t_lowOn))), (a_t_highOn, .inl (cT 3, 6, .inr (.inl t_highOn))), (a_t_isBrothOn, .inl (cT 1, 6, .inl t_isBrothOn))] Hh) (hR0 : va_P (dC, dI) vwCl [(a_t, .inr (15, [.ref a_t_s, .ref a_t_f, .ref a_t_before, .ref a_t_beforeF, .ref a_t_aside, .ref a_t_asideF, .ref a_t_saved, .ref a_t_savedF, .int t_isSaved, .ref a_t_past, .ref a_t_pastF, .int t_pastMany, .int t_boiled, .int t_thrown, .ref a_t_refused, .ref a_t_text, .int t_length, .int t_error, .ref a_t_signs, .ref a_t_numbers, .int t_tokens, .int t_spoons, .int t_mostSpoons, .ref a_t_row, .ref a_t_isBrothOn, .ref a_t_dramsOn, .ref a_t_brothOn, .int t_cause, .int t_causeDetail, .ref a_t_lowOn, .ref a_t_highOn, .ref a_t_lowStored, .ref a_t_highStored, .ref a_t_isBrothStored, .int t_storeMany, .ref a_t_step, .ref a_t_stepF, .ref a_t_line, .int t_lineMany])), (a_t_numbers, .inl (cT 0, 60, .inl t_numbers)), (a_t_signs, .inl (cT 2, 60, .inl t_signs)), (a_t_s, .inl (cT 0, 282, .inl t_s))] Hh) (hD0 : va_D (fun _ => True) [(a_t_lowOn, .inl (cT 3, 6, .inr (.inl t_lowOn))), (a_t_highOn, .inl (cT 3, 6, .inr (.inl t_highOn))), (a_t_isBrothOn, .inl (cT 1, 6, .inl t_isBrothOn))]) (hN0 : ∀ (k : Nat) (q : Nat × va_E), ([(a_t, .inr (15, [.ref a_t_s, .ref a_t_f, .ref a_t_before, .ref a_t_beforeF, .ref a_t_aside, .ref a_t_asideF, .ref a_t_saved, .ref a_t_savedF, .int t_isSaved, .ref a_t_past, .ref a_t_pastF, .int t_pastMany, .int t_boiled, .int t_thrown, .ref a_t_refused, .ref a_t_text, .int t_length, .int t_error, .ref a_t_signs, .ref a_t_numbers, .int t_tokens, .int t_spoons, .int t_mostSpoons, .ref a_t_row, .ref a_t_isBrothOn, .ref a_t_dramsOn, .ref a_t_brothOn, .int t_cause, .int t_causeDetail, .ref a_t_lowOn, .ref a_t_highOn, .ref a_t_lowStored, .ref a_t_highStored, .ref a_t_isBrothStored, .int t_storeMany, .ref a_t_step, .ref a_t_stepF, .ref a_t_line, .int t_lineMany])), (a_t_numbers, .inl (cT 0, 60, .inl t_numbers)), (a_t_signs, .inl (cT 2, 60, .inl t_signs)), (a_t_s, .inl (cT 0, 282, .inl t_s))] : va_W)[k]? = some q → ¬ va_A [(a_t_lowOn, .inl (cT 3, 6, .inr (.inl t_lowOn))), (a_t_highOn, .inl (cT 3, 6, .inr (.inl t_highOn))), (a_t_isBrothOn, .inl (cT 1, 6, .inl t_isBrothOn))] Hh.size q.1) : Met l yX12_isFault (wA yX12_isFault cX12_isFault 7 (some .boolean)) ({ frames := 2, cells := 0, slots := 0, locals := 59 } : Room) (PK dC dI cT [.ref a_t, .int p1, .int p2] Hh) (va_Qi (fun x (_ : Unit) => x = o.1) (fun _ t => va_P (dC, dI) vwCl [(a_t_lowOn, .inl (cT 3, 6, .inr (.inl o.2.1))), (a_t_highOn, .inl (cT 3, 6, .inr (.inl o.2.2.1))), (a_t_isBrothOn, .inl (cT 1, 6, .inl o.2.2.2))] t.heap) (va_A [(a_t_lowOn, .inl (cT 3, 6, .inr (.inl t_lowOn))), (a_t_highOn, .inl (cT 3, 6, .inr (.inl t_highOn))), (a_t_isBrothOn, .inl (cT 1, 6, .inl t_isBrothOn))] Hh.size)) 0 0 (va_A [(a_t_lowOn, .inl (cT 3, 6, .inr (.inl t_lowOn))), (a_t_highOn, .inl (cT 3, 6, .inr (.inl t_highOn))), (a_t_isBrothOn, .inl (cT 1, 6, .inl t_isBrothOn))] Hh.size) := by
  refine Met.ofW (cc := cX12_isFault) (maxL := 7) (ret := (some .boolean)) (by decide) rfl ?_
  intro p e s m args below meth c s₁ B hml hv
  obtain ⟨rfl, hH, hK⟩ := hv
  subst hH
  have hx := B.exec
  have hb := B.bytes
  have hr := B.returns
  have hta : ∀ w ∈ ALLW, w.before [.ref a_t, .int p1, .int p2].toArray s = true := fun w hw => atoms_spec (ws := wA yX12_isFault cX12_isFault 7 (some .boolean)) B.pre w (List.mem_cons_of_mem _ hw)
  have hown : s.vm.findClass RX12 = some m.cls := findClass_of_methodNamed B.named
  have hlocks := B.notSynchronized
  have hD := hD0.self (sz := s.heap.size)
  have hNA := hN0
  generalize hAe : va_A [(a_t_lowOn, .inl (cT 3, 6, .inr (.inl t_lowOn))), (a_t_highOn, .inl (cT 3, 6, .inr (.inl t_highOn))), (a_t_isBrothOn, .inl (cT 1, 6, .inl t_isBrothOn))] s.heap.size = A at hD hNA ⊢
  have hP := hP0
  have hA : ∀ q : Nat, s.heap.size ≤ q → A q := fun q h => by rw [← hAe]; exact Or.inr h
  have hS : va_S A s.heap s.heap [] := va_S.rf
  have hl := lv_entry [.ref a_t, .int p1, .int p2] (n := 7) (Nat.le_of_ble_eq_true rfl)
  rw [lg_entry_eq]
  generalize (lg_sl [.ref a_t, .int p1, .int p2] ++ List.replicate (7 - (lg_sl [.ref a_t, .int p1, .int p2]).length) Slot.unset).toArray = ls at hl ⊢
  have hl : lv_has ls 7 [(0, .ref a_t), (1, .int p1), (2, .int p2)] := hl
  obtain ⟨Q, hQ⟩ : ∃ Q, Q = MQ below (va_Qi (fun x (_ : Unit) => x = o.1) (fun _ t => va_P (dC, dI) vwCl [(a_t_lowOn, .inl (cT 3, 6, .inr (.inl o.2.1))), (a_t_highOn, .inl (cT 3, 6, .inr (.inl o.2.2.1))), (a_t_isBrothOn, .inl (cT 1, 6, .inl o.2.2.2))] t.heap) A) [.ref a_t, .int p1, .int p2].toArray s 0 0 A := ⟨_, rfl⟩
  rw [← hQ]
  have wB_251 : ∀ (x3_251 : Int32) (x4_251 : Int32) (s0_251 : Int32) (H : Heap) (locs : List Loc) (ls : Array Slot), g_X12_isFault_b251 t_lowOn t_highOn t_isBrothOn t_s x3_251 x4_251 s0_251 = some o → va_P (dC, dI) vwCl [(a_t_lowOn, .inl (cT 3, 6, .inr (.inl t_lowOn))), (a_t_highOn, .inl (cT 3, 6, .inr (.inl t_highOn))), (a_t_isBrothOn, .inl (cT 1, 6, .inl t_isBrothOn))] H → va_D A [(a_t_lowOn, .inl (cT 3, 6, .inr (.inl t_lowOn))), (a_t_highOn, .inl (cT 3, 6, .inr (.inl t_highOn))), (a_t_isBrothOn, .inl (cT 1, 6, .inl t_isBrothOn))] → va_S A s.heap H locs → lv_has ls 7 [(0, .ref a_t), (3, .int x3_251), (4, .int x4_251)] → W p l e ({ frames := 2, cells := 0, slots := 0, locals := 59 } : Room) s m [.ref a_t, .int p1, .int p2].toArray below meth c H locs 0 0 Q (F0 m 251 ls [.int s0_251]) := by
    intro x3_251 x4_251 s0_251 H locs ls h hP hD hS hl
    unfold g_X12_isFault_b251 at h
    refine lv_istore (lv' := [(6, .int s0_251), (0, .ref a_t), (3, .int x3_251), (4, .int x4_251)]) hx hb dX12_isFault_251 hl (by decide) rfl (fun ls hl => ?_)
    refine lv_aload_n hx hb dX12_isFault_253 rfl (lv_at hl 1 rfl) ?_
    refine va_get (D := (dC, dI)) (ci := 15) (v := .ref a_t_isBrothOn) (C := RX12) (T := TX12) (N := 39) hx hb hta inX12w hown hK (rk hR0 hNA hS) 0 rfl rfl 24 (by decide) (hta _ lk_X12_61) (fun _ h9 => h9) rfl dX12_isFault_254 ?_
    refine lv_iload hx hb dX12_isFault_257 (lv_at hl 3 rfl) ?_
    obtain ⟨hc, h⟩ := gc_some h
    refine va_zald hx hb hK hP 2 1 rfl rfl (inb_in hc) dX12_isFault_259 ?_
    refine lv_aload_n hx hb dX12_isFault_260 rfl (lv_at hl 1 rfl) ?_
    refine lv_iload_n hx hb dX12_isFault_261 rfl (lv_at hl 2 rfl) ?_
    obtain ⟨r13, hq, h⟩ := gb_some h
    refine crI (va_runV (As := [.int x3_251]) (rest := [.int (t_isBrothOn x4_251.toNatClampNeg)]) ⟨hx, hb, hml, hown, hta⟩ (c_X12_isBroth l dC dI cT hq ((rk hR0 hNA hS).sub (ws' := [(a_t, .inr (15, [.ref a_t_s, .ref a_t_f, .ref a_t_before, .ref a_t_beforeF, .ref a_t_aside, .ref a_t_asideF, .ref a_t_saved, .ref a_t_savedF, .int t_isSaved, .ref a_t_past, .ref a_t_pastF, .int t_pastMany, .int t_boiled, .int t_thrown, .ref a_t_refused, .ref a_t_text, .int t_length, .int t_error, .ref a_t_signs, .ref a_t_numbers, .int t_tokens, .int t_spoons, .int t_mostSpoons, .ref a_t_row, .ref a_t_isBrothOn, .ref a_t_dramsOn, .ref a_t_brothOn, .int t_cause, .int t_causeDetail, .ref a_t_lowOn, .ref a_t_highOn, .ref a_t_lowStored, .ref a_t_highStored, .ref a_t_isBrothStored, .int t_storeMany, .ref a_t_step, .ref a_t_stepF, .ref a_t_line, .int t_lineMany])), (a_t_s, .inl (cT 0, 282, .inl t_s))]) [0, 3] rfl)) (cV hta lm_X12_160 md_X12_isBroth ⟨(Nat.le_of_ble_eq_true rfl), (Nat.le_of_ble_eq_true rfl)⟩) ⟨fbK, va_recv hK (rk hR0 hNA hS) (ci := 15) (q0 := 0) rfl rfl, fun U hU hW => ⟨rfl, hU, va_K.moved hW.alike hK⟩⟩ rfl rfl hl.1 rfl (lv_room (Nat.le_of_ble_eq_true rfl)) dX12_isFault_262 ⟨(Nat.le_of_ble_eq_true rfl), (Nat.le_of_ble_eq_true rfl)⟩) hS hA (fun locs hS => ?_)
    refine lv_icmp_ne (tgt := 283) hx hb dX12_isFault_265 (by decide) (fun c0 => ?_) (fun c0 => ?_)
    · have h := (if_neg c0).symm.trans h
      refine lv_iconst (v := 1) hx hb dX12_isFault_283 (by decide) ?_
      refine lv_goto (tgt := 288) hx hb dX12_isFault_284 (by decide) ?_
      have ho := Option.some.inj h
      rw [hQ]
      exact W.zret (ty := .boolean) (v := 1) hx hb hr rfl (fun t ht hW => ⟨⟨1, (), rfl, by rw [← ho], by show va_P (dC, dI) vwCl _ t.heap; rw [ht, ← ho]; exact hP⟩, hS.F ht⟩) hS.2.2 dX12_isFault_288
    · have h := (if_pos c0).symm.trans h
      refine lv_aload_n hx hb dX12_isFault_268 rfl (lv_at hl 1 rfl) ?_
      refine va_get (D := (dC, dI)) (ci := 15) (v := .ref a_t_isBrothOn) (C := RX12) (T := TX12) (N := 39) hx hb hta inX12w hown hK (rk hR0 hNA hS) 0 rfl rfl 24 (by decide) (hta _ lk_X12_61) (fun _ h9 => h9) rfl dX12_isFault_269 ?_
      refine lv_iload hx hb dX12_isFault_272 (lv_at hl 3 rfl) ?_
      obtain ⟨hc, h⟩ := gc_some h
      refine va_zald hx hb hK hP 2 1 rfl rfl (inb_in hc) dX12_isFault_274 ?_
      refine lv_if_ne (tgt := 287) hx hb dX12_isFault_275 (by decide) (fun c0 => ?_) (fun c0 => ?_)
      · have h := (if_neg c0).symm.trans h
        refine lv_iconst (v := 0) hx hb dX12_isFault_287 (by decide) ?_
        have ho := Option.some.inj h
        rw [hQ]
        exact W.zret (ty := .boolean) (v := 0) hx hb hr rfl (fun t ht hW => ⟨⟨0, (), rfl, by rw [← ho], by show va_P (dC, dI) vwCl _ t.heap; rw [ht, ← ho]; exact hP⟩, hS.F ht⟩) hS.2.2 dX12_isFault_288
      · have h := (if_pos c0).symm.trans h
        refine lv_iload hx hb dX12_isFault_278 (lv_at hl 0 rfl) ?_
        refine lv_if_ne (tgt := 287) hx hb dX12_isFault_280 (by decide) (fun c0 => ?_) (fun c0 => ?_)
        · have h := (if_neg c0).symm.trans h
          refine lv_iconst (v := 0) hx hb dX12_isFault_287 (by decide) ?_
          have ho := Option.some.inj h
          rw [hQ]
          exact W.zret (ty := .boolean) (v := 0) hx hb hr rfl (fun t ht hW => ⟨⟨0, (), rfl, by rw [← ho], by show va_P (dC, dI) vwCl _ t.heap; rw [ht, ← ho]; exact hP⟩, hS.F ht⟩) hS.2.2 dX12_isFault_288
        · have h := (if_pos c0).symm.trans h
          refine lv_iconst (v := 1) hx hb dX12_isFault_283 (by decide) ?_
          refine lv_goto (tgt := 288) hx hb dX12_isFault_284 (by decide) ?_
          have ho := Option.some.inj h
          rw [hQ]
          exact W.zret (ty := .boolean) (v := 1) hx hb hr rfl (fun t ht hW => ⟨⟨1, (), rfl, by rw [← ho], by show va_P (dC, dI) vwCl _ t.heap; rw [ht, ← ho]; exact hP⟩, hS.F ht⟩) hS.2.2 dX12_isFault_288
  have wB_250 : ∀ (x3_250 : Int32) (x4_250 : Int32) (H : Heap) (locs : List Loc) (ls : Array Slot), g_X12_isFault_b250 t_lowOn t_highOn t_isBrothOn t_s x3_250 x4_250 = some o → va_P (dC, dI) vwCl [(a_t_lowOn, .inl (cT 3, 6, .inr (.inl t_lowOn))), (a_t_highOn, .inl (cT 3, 6, .inr (.inl t_highOn))), (a_t_isBrothOn, .inl (cT 1, 6, .inl t_isBrothOn))] H → va_D A [(a_t_lowOn, .inl (cT 3, 6, .inr (.inl t_lowOn))), (a_t_highOn, .inl (cT 3, 6, .inr (.inl t_highOn))), (a_t_isBrothOn, .inl (cT 1, 6, .inl t_isBrothOn))] → va_S A s.heap H locs → lv_has ls 7 [(0, .ref a_t), (3, .int x3_250), (4, .int x4_250)] → W p l e ({ frames := 2, cells := 0, slots := 0, locals := 59 } : Room) s m [.ref a_t, .int p1, .int p2].toArray below meth c H locs 0 0 Q (F0 m 250 ls []) := by
    intro x3_250 x4_250 H locs ls h hP hD hS hl
    unfold g_X12_isFault_b250 at h
    refine lv_iconst (v := 0) hx hb dX12_isFault_250 (by decide) ?_
    exact wB_251 x3_250 x4_250 0 _ _ _ h hP hD hS (lv_sub hl [0, 1, 2] rfl)
  have wB_203 : ∀ (t_isBrothOn_203 : Nat → Int32) (x6_203 : Int32) (s1_203 : Int32) (s2_203 : Int64) (s3_203 : Int64) (H : Heap) (locs : List Loc) (ls : Array Slot), g_X12_isFault_b203 t_lowOn t_highOn t_isBrothOn_203 x6_203 s1_203 s2_203 s3_203 = some o → va_P (dC, dI) vwCl [(a_t_lowOn, .inl (cT 3, 6, .inr (.inl t_lowOn))), (a_t_highOn, .inl (cT 3, 6, .inr (.inl t_highOn))), (a_t_isBrothOn, .inl (cT 1, 6, .inl t_isBrothOn_203))] H → va_D A [(a_t_lowOn, .inl (cT 3, 6, .inr (.inl t_lowOn))), (a_t_highOn, .inl (cT 3, 6, .inr (.inl t_highOn))), (a_t_isBrothOn, .inl (cT 1, 6, .inl t_isBrothOn_203))] → va_S A s.heap H locs → lv_has ls 7 [(6, .int x6_203)] → W p l e ({ frames := 2, cells := 0, slots := 0, locals := 59 } : Room) s m [.ref a_t, .int p1, .int p2].toArray below meth c H locs 0 0 Q (F0 m 203 ls [.long s3_203, .long s2_203, .int s1_203, .ref a_t]) := by
    intro t_isBrothOn_203 x6_203 s1_203 s2_203 s3_203 H locs ls h hP hD hS hl
    unfold g_X12_isFault_b203 at h
    obtain ⟨r14, hq, h⟩ := gb_some h
    refine cxV (X2 := [(a_t_lowOn, .inl (cT 3, 6, .inr (.inl r14.1))), (a_t_highOn, .inl (cT 3, 6, .inr (.inl r14.2))), (a_t_isBrothOn, .inl (cT 1, 6, .inl t_isBrothOn_203))]) (va_runV (As := [.int s1_203, .long s2_203, .long s3_203]) (rest := []) ⟨hx, hb, hml, hown, hta⟩ (c_X12_laysBounds l dC dI cT hq (hP.sub (ws' := [(a_t_lowOn, .inl (cT 3, 6, .inr (.inl t_lowOn))), (a_t_highOn, .inl (cT 3, 6, .inr (.inl t_highOn)))]) [0, 1] rfl) ((va_P.app hP (rk hR0 hNA hS)).sub (ws' := [(a_t, .inr (15, [.ref a_t_s, .ref a_t_f, .ref a_t_before, .ref a_t_beforeF, .ref a_t_aside, .ref a_t_asideF, .ref a_t_saved, .ref a_t_savedF, .int t_isSaved, .ref a_t_past, .ref a_t_pastF, .int t_pastMany, .int t_boiled, .int t_thrown, .ref a_t_refused, .ref a_t_text, .int t_length, .int t_error, .ref a_t_signs, .ref a_t_numbers, .int t_tokens, .int t_spoons, .int t_mostSpoons, .ref a_t_row, .ref a_t_isBrothOn, .ref a_t_dramsOn, .ref a_t_brothOn, .int t_cause, .int t_causeDetail, .ref a_t_lowOn, .ref a_t_highOn, .ref a_t_lowStored, .ref a_t_highStored, .ref a_t_isBrothStored, .int t_storeMany, .ref a_t_step, .ref a_t_stepF, .ref a_t_line, .int t_lineMany]))]) [3] rfl) (ds hD [0, 1] (by decide) rfl) (nac hP hD [0, 1] rfl (va_free hD hS hA [0, 1] rfl) hNA [.inl 0] rfl rfl)) (cV hta lm_X12_299 md_X12_laysBounds ⟨(Nat.le_of_ble_eq_true rfl), (Nat.le_of_ble_eq_true rfl)⟩) ⟨fbK, va_recv hK (rk hR0 hNA hS) (ci := 15) (q0 := 0) rfl rfl, fun U hU hW => ⟨rfl, hU, va_K.moved hW.alike hK⟩⟩ rfl rfl hl.1 rfl (lv_room (Nat.le_of_ble_eq_true rfl)) dX12_isFault_203 ⟨(Nat.le_of_ble_eq_true rfl), (Nat.le_of_ble_eq_true rfl)⟩) hS hA hP hD [0, 1] rfl [.inl 0, .inl 1, .inr 2] rfl rfl rfl (fun H locs hP hD hS => ?_)
    refine lv_iload hx hb dX12_isFault_206 (lv_at hl 0 rfl) ?_
    obtain ⟨hc, h⟩ := gc_some h
    have ho := Option.some.inj h
    rw [hQ]
    exact W.zret (ty := .boolean) (v := x6_203) hx hb hr (bo_n hc) (fun t ht hW => ⟨⟨x6_203, (), rfl, by rw [← ho], by show va_P (dC, dI) vwCl _ t.heap; rw [ht, ← ho]; exact hP⟩, hS.F ht⟩) hS.2.2 dX12_isFault_208
  have wB_189 : ∀ (t_isBrothOn_189 : Nat → Int32) (x5_189 : Int32) (x6_189 : Int32) (s1_189 : Int32) (s2_189 : Int64) (H : Heap) (locs : List Loc) (ls : Array Slot), g_X12_isFault_b189 t_lowOn t_highOn t_isBrothOn_189 x5_189 x6_189 s1_189 s2_189 = some o → va_P (dC, dI) vwCl [(a_t_lowOn, .inl (cT 3, 6, .inr (.inl t_lowOn))), (a_t_highOn, .inl (cT 3, 6, .inr (.inl t_highOn))), (a_t_isBrothOn, .inl (cT 1, 6, .inl t_isBrothOn_189))] H → va_D A [(a_t_lowOn, .inl (cT 3, 6, .inr (.inl t_lowOn))), (a_t_highOn, .inl (cT 3, 6, .inr (.inl t_highOn))), (a_t_isBrothOn, .inl (cT 1, 6, .inl t_isBrothOn_189))] → va_S A s.heap H locs → lv_has ls 7 [(5, .int x5_189), (6, .int x6_189)] → W p l e ({ frames := 2, cells := 0, slots := 0, locals := 59 } : Room) s m [.ref a_t, .int p1, .int p2].toArray below meth c H locs 0 0 Q (F0 m 189 ls [.long s2_189, .int s1_189, .ref a_t]) := by
    intro t_isBrothOn_189 x5_189 x6_189 s1_189 s2_189 H locs ls h hP hD hS hl
    unfold g_X12_isFault_b189 at h
    refine lv_iload hx hb dX12_isFault_189 (lv_at hl 0 rfl) ?_
    refine lv_bipush (v := 126) hx hb dX12_isFault_191 (by decide) ?_
    refine lv_icmp_ne (tgt := 200) hx hb dX12_isFault_193 (by decide) (fun c0 => ?_) (fun c0 => ?_)
    · have h := (if_neg c0).symm.trans h
      refine lv_ldc2 (v := 99) hx hb hown (hta _ kc_X12_308) dX12_isFault_200 ?_
      exact wB_203 t_isBrothOn_189 x6_189 s1_189 s2_189 (99 : Int64) _ _ _ h hP hD hS (lv_sub hl [1] rfl)
    · have h := (if_pos c0).symm.trans h
      refine lv_lconst (v := 0) hx hb dX12_isFault_196 (by decide) ?_
      refine lv_goto (tgt := 203) hx hb dX12_isFault_197 (by decide) ?_
      exact wB_203 t_isBrothOn_189 x6_189 s1_189 s2_189 0 _ _ _ h hP hD hS (lv_sub hl [1] rfl)
  have wB_171 : ∀ (x4_171 : Int32) (x5_171 : Int32) (x6_171 : Int32) (s1_171 : Int32) (s2_171 : Int32) (H : Heap) (locs : List Loc) (ls : Array Slot), g_X12_isFault_b171 t_lowOn t_highOn t_isBrothOn x4_171 x5_171 x6_171 s1_171 s2_171 = some o → va_P (dC, dI) vwCl [(a_t_lowOn, .inl (cT 3, 6, .inr (.inl t_lowOn))), (a_t_highOn, .inl (cT 3, 6, .inr (.inl t_highOn))), (a_t_isBrothOn, .inl (cT 1, 6, .inl t_isBrothOn))] H → va_D A [(a_t_lowOn, .inl (cT 3, 6, .inr (.inl t_lowOn))), (a_t_highOn, .inl (cT 3, 6, .inr (.inl t_highOn))), (a_t_isBrothOn, .inl (cT 1, 6, .inl t_isBrothOn))] → va_S A s.heap H locs → lv_has ls 7 [(0, .ref a_t), (4, .int x4_171), (5, .int x5_171), (6, .int x6_171)] → W p l e ({ frames := 2, cells := 0, slots := 0, locals := 59 } : Room) s m [.ref a_t, .int p1, .int p2].toArray below meth c H locs 0 0 Q (F0 m 171 ls [.int s2_171, .int s1_171, .ref a_t_isBrothOn]) := by
    intro x4_171 x5_171 x6_171 s1_171 s2_171 H locs ls h hP hD hS hl
    unfold g_X12_isFault_b171 at h
    obtain ⟨hc, h⟩ := gc_some h
    refine va_zast hx hb hK hP hD hS 2 1 rfl rfl (inb_in hc) dX12_isFault_171 (fun H locs hP hD hS => ?_)
    have hP : va_P (dC, dI) vwCl [(a_t_lowOn, .inl (cT 3, 6, .inr (.inl t_lowOn))), (a_t_highOn, .inl (cT 3, 6, .inr (.inl t_highOn))), (a_t_isBrothOn, .inl (cT 1, 6, .inl (upd t_isBrothOn s1_171.toNatClampNeg (vp_nar .boolean s2_171))))] H := hP
    have hD : va_D A [(a_t_lowOn, .inl (cT 3, 6, .inr (.inl t_lowOn))), (a_t_highOn, .inl (cT 3, 6, .inr (.inl t_highOn))), (a_t_isBrothOn, .inl (cT 1, 6, .inl (upd t_isBrothOn s1_171.toNatClampNeg (vp_nar .boolean s2_171))))] := hD
    refine lv_aload_n hx hb dX12_isFault_172 rfl (lv_at hl 0 rfl) ?_
    refine lv_iload hx hb dX12_isFault_173 (lv_at hl 1 rfl) ?_
    refine lv_iload hx hb dX12_isFault_175 (lv_at hl 2 rfl) ?_
    refine lv_bipush (v := 126) hx hb dX12_isFault_177 (by decide) ?_
    refine lv_icmp_ne (tgt := 186) hx hb dX12_isFault_179 (by decide) (fun c0 => ?_) (fun c0 => ?_)
    · have h := (if_neg c0).symm.trans h
      refine lv_ldc2 (v := -99) hx hb hown (hta _ kc_X12_120) dX12_isFault_186 ?_
      exact wB_189 (upd t_isBrothOn s1_171.toNatClampNeg (vp_nar .boolean s2_171)) x5_171 x6_171 x4_171 (-99 : Int64) _ _ _ h hP hD hS (lv_sub hl [2, 3] rfl)
    · have h := (if_pos c0).symm.trans h
      refine lv_lconst (v := 0) hx hb dX12_isFault_182 (by decide) ?_
      refine lv_goto (tgt := 189) hx hb dX12_isFault_183 (by decide) ?_
      exact wB_189 (upd t_isBrothOn s1_171.toNatClampNeg (vp_nar .boolean s2_171)) x5_171 x6_171 x4_171 0 _ _ _ h hP hD hS (lv_sub hl [2, 3] rfl)
  have wB_151 : ∀ (x4_151 : Int32) (x5_151 : Int32) (s0_151 : Int32) (H : Heap) (locs : List Loc) (ls : Array Slot), g_X12_isFault_b151 t_lowOn t_highOn t_isBrothOn x4_151 x5_151 s0_151 = some o → va_P (dC, dI) vwCl [(a_t_lowOn, .inl (cT 3, 6, .inr (.inl t_lowOn))), (a_t_highOn, .inl (cT 3, 6, .inr (.inl t_highOn))), (a_t_isBrothOn, .inl (cT 1, 6, .inl t_isBrothOn))] H → va_D A [(a_t_lowOn, .inl (cT 3, 6, .inr (.inl t_lowOn))), (a_t_highOn, .inl (cT 3, 6, .inr (.inl t_highOn))), (a_t_isBrothOn, .inl (cT 1, 6, .inl t_isBrothOn))] → va_S A s.heap H locs → lv_has ls 7 [(0, .ref a_t), (4, .int x4_151), (5, .int x5_151)] → W p l e ({ frames := 2, cells := 0, slots := 0, locals := 59 } : Room) s m [.ref a_t, .int p1, .int p2].toArray below meth c H locs 0 0 Q (F0 m 151 ls [.int s0_151]) := by
    intro x4_151 x5_151 s0_151 H locs ls h hP hD hS hl
    unfold g_X12_isFault_b151 at h
    refine lv_istore (lv' := [(6, .int s0_151), (0, .ref a_t), (4, .int x4_151), (5, .int x5_151)]) hx hb dX12_isFault_151 hl (by decide) rfl (fun ls hl => ?_)
    refine lv_aload_n hx hb dX12_isFault_153 rfl (lv_at hl 1 rfl) ?_
    refine va_get (D := (dC, dI)) (ci := 15) (v := .ref a_t_isBrothOn) (C := RX12) (T := TX12) (N := 39) hx hb hta inX12w hown hK (rk hR0 hNA hS) 0 rfl rfl 24 (by decide) (hta _ lk_X12_61) (fun _ h9 => h9) rfl dX12_isFault_154 ?_
    refine lv_iload hx hb dX12_isFault_157 (lv_at hl 2 rfl) ?_
    refine lv_iload hx hb dX12_isFault_159 (lv_at hl 3 rfl) ?_
    refine lv_bipush (v := 126) hx hb dX12_isFault_161 (by decide) ?_
    refine lv_icmp_ne (tgt := 170) hx hb dX12_isFault_163 (by decide) (fun c0 => ?_) (fun c0 => ?_)
    · have h := (if_neg c0).symm.trans h
      refine lv_iconst (v := 0) hx hb dX12_isFault_170 (by decide) ?_
      exact wB_171 x4_151 x5_151 s0_151 x4_151 0 _ _ _ h hP hD hS (lv_sub hl [1, 2, 3, 0] rfl)
    · have h := (if_pos c0).symm.trans h
      refine lv_iconst (v := 1) hx hb dX12_isFault_166 (by decide) ?_
      refine lv_goto (tgt := 171) hx hb dX12_isFault_167 (by decide) ?_
      exact wB_171 x4_151 x5_151 s0_151 x4_151 1 _ _ _ h hP hD hS (lv_sub hl [1, 2, 3, 0] rfl)
  have wB_143 : ∀ (x4_143 : Int32) (x5_143 : Int32) (s0_143 : Int32) (s1_143 : Int32) (H : Heap) (locs : List Loc) (ls : Array Slot), g_X12_isFault_b143 t_lowOn t_highOn t_isBrothOn x4_143 x5_143 s0_143 s1_143 = some o → va_P (dC, dI) vwCl [(a_t_lowOn, .inl (cT 3, 6, .inr (.inl t_lowOn))), (a_t_highOn, .inl (cT 3, 6, .inr (.inl t_highOn))), (a_t_isBrothOn, .inl (cT 1, 6, .inl t_isBrothOn))] H → va_D A [(a_t_lowOn, .inl (cT 3, 6, .inr (.inl t_lowOn))), (a_t_highOn, .inl (cT 3, 6, .inr (.inl t_highOn))), (a_t_isBrothOn, .inl (cT 1, 6, .inl t_isBrothOn))] → va_S A s.heap H locs → lv_has ls 7 [(0, .ref a_t), (4, .int x4_143), (5, .int x5_143)] → W p l e ({ frames := 2, cells := 0, slots := 0, locals := 59 } : Room) s m [.ref a_t, .int p1, .int p2].toArray below meth c H locs 0 0 Q (F0 m 143 ls [.int s1_143, .int s0_143]) := by
    intro x4_143 x5_143 s0_143 s1_143 H locs ls h hP hD hS hl
    unfold g_X12_isFault_b143 at h
    refine lv_icmp_ne (tgt := 150) hx hb dX12_isFault_143 (by decide) (fun c0 => ?_) (fun c0 => ?_)
    · have h := (if_neg c0).symm.trans h
      refine lv_iconst (v := 0) hx hb dX12_isFault_150 (by decide) ?_
      exact wB_151 x4_143 x5_143 0 _ _ _ h hP hD hS (lv_sub hl [0, 1, 2] rfl)
    · have h := (if_pos c0).symm.trans h
      refine lv_iconst (v := 1) hx hb dX12_isFault_146 (by decide) ?_
      refine lv_goto (tgt := 151) hx hb dX12_isFault_147 (by decide) ?_
      exact wB_151 x4_143 x5_143 1 _ _ _ h hP hD hS (lv_sub hl [0, 1, 2] rfl)
  have wB_124 : ∀ (x4_124 : Int32) (x5_124 : Int32) (H : Heap) (locs : List Loc) (ls : Array Slot), g_X12_isFault_b124 t_lowOn t_highOn t_isBrothOn x4_124 x5_124 = some o → va_P (dC, dI) vwCl [(a_t_lowOn, .inl (cT 3, 6, .inr (.inl t_lowOn))), (a_t_highOn, .inl (cT 3, 6, .inr (.inl t_highOn))), (a_t_isBrothOn, .inl (cT 1, 6, .inl t_isBrothOn))] H → va_D A [(a_t_lowOn, .inl (cT 3, 6, .inr (.inl t_lowOn))), (a_t_highOn, .inl (cT 3, 6, .inr (.inl t_highOn))), (a_t_isBrothOn, .inl (cT 1, 6, .inl t_isBrothOn))] → va_S A s.heap H locs → lv_has ls 7 [(0, .ref a_t), (4, .int x4_124), (5, .int x5_124)] → W p l e ({ frames := 2, cells := 0, slots := 0, locals := 59 } : Room) s m [.ref a_t, .int p1, .int p2].toArray below meth c H locs 0 0 Q (F0 m 124 ls []) := by
    intro x4_124 x5_124 H locs ls h hP hD hS hl
    unfold g_X12_isFault_b124 at h
    refine lv_aload_n hx hb dX12_isFault_124 rfl (lv_at hl 0 rfl) ?_
    refine va_get (D := (dC, dI)) (ci := 15) (v := .ref a_t_isBrothOn) (C := RX12) (T := TX12) (N := 39) hx hb hta inX12w hown hK (rk hR0 hNA hS) 0 rfl rfl 24 (by decide) (hta _ lk_X12_61) (fun _ h9 => h9) rfl dX12_isFault_125 ?_
    refine lv_iload hx hb dX12_isFault_128 (lv_at hl 1 rfl) ?_
    obtain ⟨hc, h⟩ := gc_some h
    refine va_zald hx hb hK hP 2 1 rfl rfl (inb_in hc) dX12_isFault_130 ?_
    refine lv_iload hx hb dX12_isFault_131 (lv_at hl 2 rfl) ?_
    refine lv_bipush (v := 126) hx hb dX12_isFault_133 (by decide) ?_
    refine lv_icmp_ne (tgt := 142) hx hb dX12_isFault_135 (by decide) (fun c0 => ?_) (fun c0 => ?_)
    · have h := (if_neg c0).symm.trans h
      refine lv_iconst (v := 0) hx hb dX12_isFault_142 (by decide) ?_
      exact wB_143 x4_124 x5_124 (t_isBrothOn x4_124.toNatClampNeg) 0 _ _ _ h hP hD hS (lv_sub hl [0, 1, 2] rfl)
    · have h := (if_pos c0).symm.trans h
      refine lv_iconst (v := 1) hx hb dX12_isFault_138 (by decide) ?_
      refine lv_goto (tgt := 143) hx hb dX12_isFault_139 (by decide) ?_
      exact wB_143 x4_124 x5_124 (t_isBrothOn x4_124.toNatClampNeg) 1 _ _ _ h hP hD hS (lv_sub hl [0, 1, 2] rfl)
  have wB_66 : ∀ (t_isBrothOn_66 : Nat → Int32) (s2_66 : Int64) (s3_66 : Int64) (H : Heap) (locs : List Loc) (ls : Array Slot), g_X12_isFault_b66 t_lowOn t_highOn p2 t_isBrothOn_66 s2_66 s3_66 = some o → va_P (dC, dI) vwCl [(a_t_lowOn, .inl (cT 3, 6, .inr (.inl t_lowOn))), (a_t_highOn, .inl (cT 3, 6, .inr (.inl t_highOn))), (a_t_isBrothOn, .inl (cT 1, 6, .inl t_isBrothOn_66))] H → va_D A [(a_t_lowOn, .inl (cT 3, 6, .inr (.inl t_lowOn))), (a_t_highOn, .inl (cT 3, 6, .inr (.inl t_highOn))), (a_t_isBrothOn, .inl (cT 1, 6, .inl t_isBrothOn_66))] → va_S A s.heap H locs → lv_has ls 7 [] → W p l e ({ frames := 2, cells := 0, slots := 0, locals := 59 } : Room) s m [.ref a_t, .int p1, .int p2].toArray below meth c H locs 0 0 Q (F0 m 66 ls [.long s3_66, .long s2_66, .int p2, .ref a_t]) := by
    intro t_isBrothOn_66 s2_66 s3_66 H locs ls h hP hD hS hl
    unfold g_X12_isFault_b66 at h
    obtain ⟨r15, hq, h⟩ := gb_some h
    refine cxV (X2 := [(a_t_lowOn, .inl (cT 3, 6, .inr (.inl r15.1))), (a_t_highOn, .inl (cT 3, 6, .inr (.inl r15.2))), (a_t_isBrothOn, .inl (cT 1, 6, .inl t_isBrothOn_66))]) (va_runV (As := [.int p2, .long s2_66, .long s3_66]) (rest := []) ⟨hx, hb, hml, hown, hta⟩ (c_X12_laysBounds l dC dI cT hq (hP.sub (ws' := [(a_t_lowOn, .inl (cT 3, 6, .inr (.inl t_lowOn))), (a_t_highOn, .inl (cT 3, 6, .inr (.inl t_highOn)))]) [0, 1] rfl) ((va_P.app hP (rk hR0 hNA hS)).sub (ws' := [(a_t, .inr (15, [.ref a_t_s, .ref a_t_f, .ref a_t_before, .ref a_t_beforeF, .ref a_t_aside, .ref a_t_asideF, .ref a_t_saved, .ref a_t_savedF, .int t_isSaved, .ref a_t_past, .ref a_t_pastF, .int t_pastMany, .int t_boiled, .int t_thrown, .ref a_t_refused, .ref a_t_text, .int t_length, .int t_error, .ref a_t_signs, .ref a_t_numbers, .int t_tokens, .int t_spoons, .int t_mostSpoons, .ref a_t_row, .ref a_t_isBrothOn, .ref a_t_dramsOn, .ref a_t_brothOn, .int t_cause, .int t_causeDetail, .ref a_t_lowOn, .ref a_t_highOn, .ref a_t_lowStored, .ref a_t_highStored, .ref a_t_isBrothStored, .int t_storeMany, .ref a_t_step, .ref a_t_stepF, .ref a_t_line, .int t_lineMany]))]) [3] rfl) (ds hD [0, 1] (by decide) rfl) (nac hP hD [0, 1] rfl (va_free hD hS hA [0, 1] rfl) hNA [.inl 0] rfl rfl)) (cV hta lm_X12_299 md_X12_laysBounds ⟨(Nat.le_of_ble_eq_true rfl), (Nat.le_of_ble_eq_true rfl)⟩) ⟨fbK, va_recv hK (rk hR0 hNA hS) (ci := 15) (q0 := 0) rfl rfl, fun U hU hW => ⟨rfl, hU, va_K.moved hW.alike hK⟩⟩ rfl rfl hl.1 rfl (lv_room (Nat.le_of_ble_eq_true rfl)) dX12_isFault_66 ⟨(Nat.le_of_ble_eq_true rfl), (Nat.le_of_ble_eq_true rfl)⟩) hS hA hP hD [0, 1] rfl [.inl 0, .inl 1, .inr 2] rfl rfl rfl (fun H locs hP hD hS => ?_)
    refine lv_iconst (v := 0) hx hb dX12_isFault_69 (by decide) ?_
    have ho := Option.some.inj h
    rw [hQ]
    exact W.zret (ty := .boolean) (v := 0) hx hb hr rfl (fun t ht hW => ⟨⟨0, (), rfl, by rw [← ho], by show va_P (dC, dI) vwCl _ t.heap; rw [ht, ← ho]; exact hP⟩, hS.F ht⟩) hS.2.2 dX12_isFault_70
  have wB_47 : ∀ (t_isBrothOn_47 : Nat → Int32) (x3_47 : Int32) (s2_47 : Int64) (H : Heap) (locs : List Loc) (ls : Array Slot), g_X12_isFault_b47 t_lowOn t_highOn t_s p2 t_isBrothOn_47 x3_47 s2_47 = some o → va_P (dC, dI) vwCl [(a_t_lowOn, .inl (cT 3, 6, .inr (.inl t_lowOn))), (a_t_highOn, .inl (cT 3, 6, .inr (.inl t_highOn))), (a_t_isBrothOn, .inl (cT 1, 6, .inl t_isBrothOn_47))] H → va_D A [(a_t_lowOn, .inl (cT 3, 6, .inr (.inl t_lowOn))), (a_t_highOn, .inl (cT 3, 6, .inr (.inl t_highOn))), (a_t_isBrothOn, .inl (cT 1, 6, .inl t_isBrothOn_47))] → va_S A s.heap H locs → lv_has ls 7 [(0, .ref a_t), (3, .int x3_47)] → W p l e ({ frames := 2, cells := 0, slots := 0, locals := 59 } : Room) s m [.ref a_t, .int p1, .int p2].toArray below meth c H locs 0 0 Q (F0 m 47 ls [.long s2_47, .int p2, .ref a_t]) := by
    intro t_isBrothOn_47 x3_47 s2_47 H locs ls h hP hD hS hl
    unfold g_X12_isFault_b47 at h
    refine lv_aload_n hx hb dX12_isFault_47 rfl (lv_at hl 0 rfl) ?_
    refine lv_iload_n hx hb dX12_isFault_48 rfl (lv_at hl 1 rfl) ?_
    obtain ⟨r16, hq, h⟩ := gb_some h
    refine crI (va_runV (As := [.int x3_47]) (rest := [.long s2_47, .int p2, .ref a_t]) ⟨hx, hb, hml, hown, hta⟩ (c_X12_isBroth l dC dI cT hq ((rk hR0 hNA hS).sub (ws' := [(a_t, .inr (15, [.ref a_t_s, .ref a_t_f, .ref a_t_before, .ref a_t_beforeF, .ref a_t_aside, .ref a_t_asideF, .ref a_t_saved, .ref a_t_savedF, .int t_isSaved, .ref a_t_past, .ref a_t_pastF, .int t_pastMany, .int t_boiled, .int t_thrown, .ref a_t_refused, .ref a_t_text, .int t_length, .int t_error, .ref a_t_signs, .ref a_t_numbers, .int t_tokens, .int t_spoons, .int t_mostSpoons, .ref a_t_row, .ref a_t_isBrothOn, .ref a_t_dramsOn, .ref a_t_brothOn, .int t_cause, .int t_causeDetail, .ref a_t_lowOn, .ref a_t_highOn, .ref a_t_lowStored, .ref a_t_highStored, .ref a_t_isBrothStored, .int t_storeMany, .ref a_t_step, .ref a_t_stepF, .ref a_t_line, .int t_lineMany])), (a_t_s, .inl (cT 0, 282, .inl t_s))]) [0, 3] rfl)) (cV hta lm_X12_160 md_X12_isBroth ⟨(Nat.le_of_ble_eq_true rfl), (Nat.le_of_ble_eq_true rfl)⟩) ⟨fbK, va_recv hK (rk hR0 hNA hS) (ci := 15) (q0 := 0) rfl rfl, fun U hU hW => ⟨rfl, hU, va_K.moved hW.alike hK⟩⟩ rfl rfl hl.1 rfl (lv_room (Nat.le_of_ble_eq_true rfl)) dX12_isFault_49 ⟨(Nat.le_of_ble_eq_true rfl), (Nat.le_of_ble_eq_true rfl)⟩) hS hA (fun locs hS => ?_)
    refine lv_if_eq (tgt := 59) hx hb dX12_isFault_52 (by decide) (fun c0 => ?_) (fun c0 => ?_)
    · have h := (if_pos c0).symm.trans h
      refine lv_aload_n hx hb dX12_isFault_59 rfl (lv_at hl 0 rfl) ?_
      refine lv_iload_n hx hb dX12_isFault_60 rfl (lv_at hl 1 rfl) ?_
      refine lv_iconst (v := 2) hx hb dX12_isFault_61 (by decide) ?_
      obtain ⟨r17, hq, h⟩ := gb_some h
      refine crI (va_runV (As := [.int x3_47, .int 2]) (rest := [.long s2_47, .int p2, .ref a_t]) ⟨hx, hb, hml, hown, hta⟩ (c_X12_of l dC dI cT hq ((rk hR0 hNA hS).sub (ws' := [(a_t, .inr (15, [.ref a_t_s, .ref a_t_f, .ref a_t_before, .ref a_t_beforeF, .ref a_t_aside, .ref a_t_asideF, .ref a_t_saved, .ref a_t_savedF, .int t_isSaved, .ref a_t_past, .ref a_t_pastF, .int t_pastMany, .int t_boiled, .int t_thrown, .ref a_t_refused, .ref a_t_text, .int t_length, .int t_error, .ref a_t_signs, .ref a_t_numbers, .int t_tokens, .int t_spoons, .int t_mostSpoons, .ref a_t_row, .ref a_t_isBrothOn, .ref a_t_dramsOn, .ref a_t_brothOn, .int t_cause, .int t_causeDetail, .ref a_t_lowOn, .ref a_t_highOn, .ref a_t_lowStored, .ref a_t_highStored, .ref a_t_isBrothStored, .int t_storeMany, .ref a_t_step, .ref a_t_stepF, .ref a_t_line, .int t_lineMany])), (a_t_s, .inl (cT 0, 282, .inl t_s))]) [0, 3] rfl)) (cV hta lm_X12_116 md_X12_of ⟨(Nat.le_of_ble_eq_true rfl), (Nat.le_of_ble_eq_true rfl)⟩) ⟨fbK, va_recv hK (rk hR0 hNA hS) (ci := 15) (q0 := 0) rfl rfl, fun U hU hW => ⟨rfl, hU, va_K.moved hW.alike hK⟩⟩ rfl rfl hl.1 rfl (lv_room (Nat.le_of_ble_eq_true rfl)) dX12_isFault_62 ⟨(Nat.le_of_ble_eq_true rfl), (Nat.le_of_ble_eq_true rfl)⟩) hS hA (fun locs hS => ?_)
      refine lv_i2l hx hb dX12_isFault_65 rfl ?_
      exact wB_66 t_isBrothOn_47 s2_47 r17.toInt64 _ _ _ h hP hD hS (lv_sub hl [] rfl)
    · have h := (if_neg c0).symm.trans h
      refine lv_lconst (v := 0) hx hb dX12_isFault_55 (by decide) ?_
      refine lv_goto (tgt := 66) hx hb dX12_isFault_56 (by decide) ?_
      exact wB_66 t_isBrothOn_47 s2_47 0 _ _ _ h hP hD hS (lv_sub hl [] rfl)
  unfold g_X12_isFault at h
  refine lv_aload_n hx hb dX12_isFault_0 rfl (lv_at hl 0 rfl) ?_
  refine va_get (D := (dC, dI)) (ci := 15) (v := .ref a_t_numbers) (C := RX12) (T := TX12) (N := 39) hx hb hta inX12w hown hK (rk hR0 hNA hS) 0 rfl rfl 19 (by decide) (hta _ lk_X12_55) (fun _ h9 => h9) rfl dX12_isFault_1 ?_
  refine lv_iload_n hx hb dX12_isFault_4 rfl (lv_at hl 1 rfl) ?_
  obtain ⟨hc, h⟩ := gc_some h
  refine va_iald hx hb hK (rk hR0 hNA hS) 1 0 rfl rfl (inb_in hc) dX12_isFault_5 ?_
  refine lv_topi (fun v1 e_v1 => ?_)
  have h := gl_use e_v1 h
  refine lv_istore_n (lv' := [(3, .int v1), (0, .ref a_t), (1, .int p1), (2, .int p2)]) hx hb dX12_isFault_6 rfl hl (by decide) rfl (fun ls hl => ?_)
  refine lv_aload_n hx hb dX12_isFault_7 rfl (lv_at hl 1 rfl) ?_
  refine lv_iload_n hx hb dX12_isFault_8 rfl (lv_at hl 2 rfl) ?_
  obtain ⟨r2, hq, h⟩ := gb_some h
  refine crI (va_runV (As := [.int p1]) (rest := []) ⟨hx, hb, hml, hown, hta⟩ (c_X12_isLetter l dC dI cT hq ((rk hR0 hNA hS).sub (ws' := [(a_t, .inr (15, [.ref a_t_s, .ref a_t_f, .ref a_t_before, .ref a_t_beforeF, .ref a_t_aside, .ref a_t_asideF, .ref a_t_saved, .ref a_t_savedF, .int t_isSaved, .ref a_t_past, .ref a_t_pastF, .int t_pastMany, .int t_boiled, .int t_thrown, .ref a_t_refused, .ref a_t_text, .int t_length, .int t_error, .ref a_t_signs, .ref a_t_numbers, .int t_tokens, .int t_spoons, .int t_mostSpoons, .ref a_t_row, .ref a_t_isBrothOn, .ref a_t_dramsOn, .ref a_t_brothOn, .int t_cause, .int t_causeDetail, .ref a_t_lowOn, .ref a_t_highOn, .ref a_t_lowStored, .ref a_t_highStored, .ref a_t_isBrothStored, .int t_storeMany, .ref a_t_step, .ref a_t_stepF, .ref a_t_line, .int t_lineMany])), (a_t_signs, .inl (cT 2, 60, .inl t_signs))]) [0, 2] rfl)) (cV hta lm_X12_223 md_X12_isLetter ⟨(Nat.le_of_ble_eq_true rfl), (Nat.le_of_ble_eq_true rfl)⟩) ⟨fbK, va_recv hK (rk hR0 hNA hS) (ci := 15) (q0 := 0) rfl rfl, fun U hU hW => ⟨rfl, hU, va_K.moved hW.alike hK⟩⟩ rfl rfl hl.1 rfl (lv_room (Nat.le_of_ble_eq_true rfl)) dX12_isFault_9 ⟨(Nat.le_of_ble_eq_true rfl), (Nat.le_of_ble_eq_true rfl)⟩) hS hA (fun locs hS => ?_)
  refine lv_if_eq (tgt := 71) hx hb dX12_isFault_12 (by decide) (fun c0 => ?_) (fun c0 => ?_)
  · have h := (if_pos c0).symm.trans h
    refine lv_aload_n hx hb dX12_isFault_71 rfl (lv_at hl 1 rfl) ?_
    refine lv_iload_n hx hb dX12_isFault_72 rfl (lv_at hl 2 rfl) ?_
    obtain ⟨r3, hq, h⟩ := gb_some h
    refine crI (va_runV (As := [.int p1]) (rest := []) ⟨hx, hb, hml, hown, hta⟩ (c_X12_isNumber l dC dI cT hq ((rk hR0 hNA hS).sub (ws' := [(a_t, .inr (15, [.ref a_t_s, .ref a_t_f, .ref a_t_before, .ref a_t_beforeF, .ref a_t_aside, .ref a_t_asideF, .ref a_t_saved, .ref a_t_savedF, .int t_isSaved, .ref a_t_past, .ref a_t_pastF, .int t_pastMany, .int t_boiled, .int t_thrown, .ref a_t_refused, .ref a_t_text, .int t_length, .int t_error, .ref a_t_signs, .ref a_t_numbers, .int t_tokens, .int t_spoons, .int t_mostSpoons, .ref a_t_row, .ref a_t_isBrothOn, .ref a_t_dramsOn, .ref a_t_brothOn, .int t_cause, .int t_causeDetail, .ref a_t_lowOn, .ref a_t_highOn, .ref a_t_lowStored, .ref a_t_highStored, .ref a_t_isBrothStored, .int t_storeMany, .ref a_t_step, .ref a_t_stepF, .ref a_t_line, .int t_lineMany])), (a_t_signs, .inl (cT 2, 60, .inl t_signs))]) [0, 2] rfl)) (cV hta lm_X12_257 md_X12_isNumber ⟨(Nat.le_of_ble_eq_true rfl), (Nat.le_of_ble_eq_true rfl)⟩) ⟨fbK, va_recv hK (rk hR0 hNA hS) (ci := 15) (q0 := 0) rfl rfl, fun U hU hW => ⟨rfl, hU, va_K.moved hW.alike hK⟩⟩ rfl rfl hl.1 rfl (lv_room (Nat.le_of_ble_eq_true rfl)) dX12_isFault_73 ⟨(Nat.le_of_ble_eq_true rfl), (Nat.le_of_ble_eq_true rfl)⟩) hS hA (fun locs hS => ?_)
    refine lv_if_eq (tgt := 97) hx hb dX12_isFault_76 (by decide) (fun c0 => ?_) (fun c0 => ?_)
    · have h := (if_pos c0).symm.trans h
      refine lv_iload_n hx hb dX12_isFault_97 rfl (lv_at hl 3 rfl) ?_
      refine lv_iconst (v := 1) hx hb dX12_isFault_98 (by decide) ?_
      refine lv_isub hx hb dX12_isFault_99 ?_
      refine lv_topi (fun v4 e_v4 => ?_)
      have h := gl_use e_v4 h
      refine lv_istore (lv' := [(4, .int v4), (3, .int v1), (0, .ref a_t), (1, .int p1), (2, .int p2)]) hx hb dX12_isFault_100 hl (by decide) rfl (fun ls hl => ?_)
      refine lv_aload_n hx hb dX12_isFault_102 rfl (lv_at hl 2 rfl) ?_
      refine va_get (D := (dC, dI)) (ci := 15) (v := .ref a_t_signs) (C := RX12) (T := TX12) (N := 39) hx hb hta inX12w hown hK (rk hR0 hNA hS) 0 rfl rfl 18 (by decide) (hta _ lk_X12_52) (fun _ h9 => h9) rfl dX12_isFault_103 ?_
      refine lv_iload_n hx hb dX12_isFault_106 rfl (lv_at hl 3 rfl) ?_
      obtain ⟨hc, h⟩ := gc_some h
      refine va_cald hx hb hK (rk hR0 hNA hS) 2 2 rfl rfl (inb_in hc) dX12_isFault_107 ?_
      refine lv_topi (fun v5 e_v5 => ?_)
      have h := gl_use e_v5 h
      refine lv_istore (lv' := [(5, .int v5), (4, .int v4), (3, .int v1), (0, .ref a_t), (1, .int p1), (2, .int p2)]) hx hb dX12_isFault_108 hl (by decide) rfl (fun ls hl => ?_)
      refine lv_iload hx hb dX12_isFault_110 (lv_at hl 0 rfl) ?_
      refine lv_bipush (v := 126) hx hb dX12_isFault_112 (by decide) ?_
      refine lv_icmp_eq (tgt := 124) hx hb dX12_isFault_114 (by decide) (fun c0 => ?_) (fun c0 => ?_)
      · have h := (if_pos c0).symm.trans h
        exact wB_124 v4 v5 _ _ _ h hP hD hS (lv_sub hl [3, 1, 0] rfl)
      · have h := (if_neg c0).symm.trans h
        refine lv_iload hx hb dX12_isFault_117 (lv_at hl 0 rfl) ?_
        refine lv_bipush (v := 33) hx hb dX12_isFault_119 (by decide) ?_
        refine lv_icmp_ne (tgt := 209) hx hb dX12_isFault_121 (by decide) (fun c0 => ?_) (fun c0 => ?_)
        · have h := (if_neg c0).symm.trans h
          refine lv_iload hx hb dX12_isFault_209 (lv_at hl 0 rfl) ?_
          refine lv_bipush (v := 61) hx hb dX12_isFault_211 (by decide) ?_
          refine lv_icmp_ne (tgt := 289) hx hb dX12_isFault_213 (by decide) (fun c0 => ?_) (fun c0 => ?_)
          · have h := (if_neg c0).symm.trans h
            refine lv_aload_n hx hb dX12_isFault_289 rfl (lv_at hl 3 rfl) ?_
            refine lv_iload hx hb dX12_isFault_290 (lv_at hl 0 rfl) ?_
            refine lv_iload hx hb dX12_isFault_292 (lv_at hl 1 rfl) ?_
            obtain ⟨r6, hq, h⟩ := gb_some h
            refine cxI (X2 := [(a_t_lowOn, .inl (cT 3, 6, .inr (.inl r6.2.1))), (a_t_highOn, .inl (cT 3, 6, .inr (.inl r6.2.2))), (a_t_isBrothOn, .inl (cT 1, 6, .inl t_isBrothOn))]) (va_runV (As := [.int v5, .int v4]) (rest := []) ⟨hx, hb, hml, hown, hta⟩ (c_X12_typesReckoning l dC dI cT hq (hP.sub (ws' := [(a_t_lowOn, .inl (cT 3, 6, .inr (.inl t_lowOn))), (a_t_highOn, .inl (cT 3, 6, .inr (.inl t_highOn)))]) [0, 1] rfl) ((va_P.app hP (rk hR0 hNA hS)).sub (ws' := [(a_t, .inr (15, [.ref a_t_s, .ref a_t_f, .ref a_t_before, .ref a_t_beforeF, .ref a_t_aside, .ref a_t_asideF, .ref a_t_saved, .ref a_t_savedF, .int t_isSaved, .ref a_t_past, .ref a_t_pastF, .int t_pastMany, .int t_boiled, .int t_thrown, .ref a_t_refused, .ref a_t_text, .int t_length, .int t_error, .ref a_t_signs, .ref a_t_numbers, .int t_tokens, .int t_spoons, .int t_mostSpoons, .ref a_t_row, .ref a_t_isBrothOn, .ref a_t_dramsOn, .ref a_t_brothOn, .int t_cause, .int t_causeDetail, .ref a_t_lowOn, .ref a_t_highOn, .ref a_t_lowStored, .ref a_t_highStored, .ref a_t_isBrothStored, .int t_storeMany, .ref a_t_step, .ref a_t_stepF, .ref a_t_line, .int t_lineMany])), (a_t_isBrothOn, .inl (cT 1, 6, .inl t_isBrothOn))]) [3, 2] rfl) (ds hD [0, 1] (by decide) rfl) (nac hP hD [0, 1] rfl (va_free hD hS hA [0, 1] rfl) hNA [.inl 0, .inr 2] rfl rfl)) (cV hta lm_X12_310 md_X12_typesReckoning ⟨(Nat.le_of_ble_eq_true rfl), (Nat.le_of_ble_eq_true rfl)⟩) ⟨fbK, va_recv hK (rk hR0 hNA hS) (ci := 15) (q0 := 0) rfl rfl, fun U hU hW => ⟨rfl, hU, va_K.moved hW.alike hK⟩⟩ rfl rfl hl.1 rfl (lv_room (Nat.le_of_ble_eq_true rfl)) dX12_isFault_294 ⟨(Nat.le_of_ble_eq_true rfl), (Nat.le_of_ble_eq_true rfl)⟩) hS hA hP hD [0, 1] rfl [.inl 0, .inl 1, .inr 2] rfl rfl rfl (fun H locs hP hD hS => ?_)
            obtain ⟨hc, h⟩ := gc_some h
            have ho := Option.some.inj h
            rw [hQ]
            exact W.zret (ty := .boolean) (v := r6.1) hx hb hr (bo_n hc) (fun t ht hW => ⟨⟨r6.1, (), rfl, by rw [← ho], by show va_P (dC, dI) vwCl _ t.heap; rw [ht, ← ho]; exact hP⟩, hS.F ht⟩) hS.2.2 dX12_isFault_297
          · have h := (if_pos c0).symm.trans h
            refine lv_aload_n hx hb dX12_isFault_216 rfl (lv_at hl 3 rfl) ?_
            refine lv_iload_n hx hb dX12_isFault_217 rfl (lv_at hl 2 rfl) ?_
            refine lv_aload_n hx hb dX12_isFault_218 rfl (lv_at hl 3 rfl) ?_
            refine va_get (D := (dC, dI)) (ci := 15) (v := .ref a_t_lowOn) (C := RX12) (T := TX12) (N := 39) hx hb hta inX12w hown hK (rk hR0 hNA hS) 0 rfl rfl 29 (by decide) (hta _ lk_X12_72) (fun _ h9 => h9) rfl dX12_isFault_219 ?_
            refine lv_iload hx hb dX12_isFault_222 (lv_at hl 1 rfl) ?_
            obtain ⟨hc, h⟩ := gc_some h
            refine va_lald hx hb hK hP 0 3 rfl rfl (inb_in hc) dX12_isFault_224 ?_
            obtain ⟨r7, hq, h⟩ := gb_some h
            refine crI (va_runV (As := [.int v1, .long (t_lowOn v4.toNatClampNeg)]) (rest := []) ⟨hx, hb, hml, hown, hta⟩ (c_X12_holds l dC dI cT hq ((rk hR0 hNA hS).sub (ws' := [(a_t, .inr (15, [.ref a_t_s, .ref a_t_f, .ref a_t_before, .ref a_t_beforeF, .ref a_t_aside, .ref a_t_asideF, .ref a_t_saved, .ref a_t_savedF, .int t_isSaved, .ref a_t_past, .ref a_t_pastF, .int t_pastMany, .int t_boiled, .int t_thrown, .ref a_t_refused, .ref a_t_text, .int t_length, .int t_error, .ref a_t_signs, .ref a_t_numbers, .int t_tokens, .int t_spoons, .int t_mostSpoons, .ref a_t_row, .ref a_t_isBrothOn, .ref a_t_dramsOn, .ref a_t_brothOn, .int t_cause, .int t_causeDetail, .ref a_t_lowOn, .ref a_t_highOn, .ref a_t_lowStored, .ref a_t_highStored, .ref a_t_isBrothStored, .int t_storeMany, .ref a_t_step, .ref a_t_stepF, .ref a_t_line, .int t_lineMany])), (a_t_s, .inl (cT 0, 282, .inl t_s))]) [0, 3] rfl)) (cV hta lm_X12_163 md_X12_holds ⟨(Nat.le_of_ble_eq_true rfl), (Nat.le_of_ble_eq_true rfl)⟩) ⟨fbK, va_recv hK (rk hR0 hNA hS) (ci := 15) (q0 := 0) rfl rfl, fun U hU hW => ⟨rfl, hU, va_K.moved hW.alike hK⟩⟩ rfl rfl hl.1 rfl (lv_room (Nat.le_of_ble_eq_true rfl)) dX12_isFault_225 ⟨(Nat.le_of_ble_eq_true rfl), (Nat.le_of_ble_eq_true rfl)⟩) hS hA (fun locs hS => ?_)
            refine lv_if_eq (tgt := 250) hx hb dX12_isFault_228 (by decide) (fun c0 => ?_) (fun c0 => ?_)
            · have h := (if_pos c0).symm.trans h
              exact wB_250 v1 v4 _ _ _ h hP hD hS (lv_sub hl [3, 2, 1] rfl)
            · have h := (if_neg c0).symm.trans h
              refine lv_aload_n hx hb dX12_isFault_231 rfl (lv_at hl 3 rfl) ?_
              refine lv_iload_n hx hb dX12_isFault_232 rfl (lv_at hl 2 rfl) ?_
              refine lv_aload_n hx hb dX12_isFault_233 rfl (lv_at hl 3 rfl) ?_
              refine va_get (D := (dC, dI)) (ci := 15) (v := .ref a_t_highOn) (C := RX12) (T := TX12) (N := 39) hx hb hta inX12w hown hK (rk hR0 hNA hS) 0 rfl rfl 30 (by decide) (hta _ lk_X12_75) (fun _ h9 => h9) rfl dX12_isFault_234 ?_
              refine lv_iload hx hb dX12_isFault_237 (lv_at hl 1 rfl) ?_
              obtain ⟨hc, h⟩ := gc_some h
              refine va_lald hx hb hK hP 1 3 rfl rfl (inb_in hc) dX12_isFault_239 ?_
              obtain ⟨r8, hq, h⟩ := gb_some h
              refine crI (va_runV (As := [.int v1, .long (t_highOn v4.toNatClampNeg)]) (rest := []) ⟨hx, hb, hml, hown, hta⟩ (c_X12_holds l dC dI cT hq ((rk hR0 hNA hS).sub (ws' := [(a_t, .inr (15, [.ref a_t_s, .ref a_t_f, .ref a_t_before, .ref a_t_beforeF, .ref a_t_aside, .ref a_t_asideF, .ref a_t_saved, .ref a_t_savedF, .int t_isSaved, .ref a_t_past, .ref a_t_pastF, .int t_pastMany, .int t_boiled, .int t_thrown, .ref a_t_refused, .ref a_t_text, .int t_length, .int t_error, .ref a_t_signs, .ref a_t_numbers, .int t_tokens, .int t_spoons, .int t_mostSpoons, .ref a_t_row, .ref a_t_isBrothOn, .ref a_t_dramsOn, .ref a_t_brothOn, .int t_cause, .int t_causeDetail, .ref a_t_lowOn, .ref a_t_highOn, .ref a_t_lowStored, .ref a_t_highStored, .ref a_t_isBrothStored, .int t_storeMany, .ref a_t_step, .ref a_t_stepF, .ref a_t_line, .int t_lineMany])), (a_t_s, .inl (cT 0, 282, .inl t_s))]) [0, 3] rfl)) (cV hta lm_X12_163 md_X12_holds ⟨(Nat.le_of_ble_eq_true rfl), (Nat.le_of_ble_eq_true rfl)⟩) ⟨fbK, va_recv hK (rk hR0 hNA hS) (ci := 15) (q0 := 0) rfl rfl, fun U hU hW => ⟨rfl, hU, va_K.moved hW.alike hK⟩⟩ rfl rfl hl.1 rfl (lv_room (Nat.le_of_ble_eq_true rfl)) dX12_isFault_240 ⟨(Nat.le_of_ble_eq_true rfl), (Nat.le_of_ble_eq_true rfl)⟩) hS hA (fun locs hS => ?_)
              refine lv_if_eq (tgt := 250) hx hb dX12_isFault_243 (by decide) (fun c0 => ?_) (fun c0 => ?_)
              · have h := (if_pos c0).symm.trans h
                exact wB_250 v1 v4 _ _ _ h hP hD hS (lv_sub hl [3, 2, 1] rfl)
              · have h := (if_neg c0).symm.trans h
                refine lv_iconst (v := 1) hx hb dX12_isFault_246 (by decide) ?_
                refine lv_goto (tgt := 251) hx hb dX12_isFault_247 (by decide) ?_
                exact wB_251 v1 v4 1 _ _ _ h hP hD hS (lv_sub hl [3, 2, 1] rfl)
        · have h := (if_pos c0).symm.trans h
          exact wB_124 v4 v5 _ _ _ h hP hD hS (lv_sub hl [3, 1, 0] rfl)
    · have h := (if_neg c0).symm.trans h
      refine lv_aload_n hx hb dX12_isFault_79 rfl (lv_at hl 1 rfl) ?_
      refine va_get (D := (dC, dI)) (ci := 15) (v := .ref a_t_isBrothOn) (C := RX12) (T := TX12) (N := 39) hx hb hta inX12w hown hK (rk hR0 hNA hS) 0 rfl rfl 24 (by decide) (hta _ lk_X12_61) (fun _ h9 => h9) rfl dX12_isFault_80 ?_
      refine lv_iload_n hx hb dX12_isFault_83 rfl (lv_at hl 3 rfl) ?_
      refine lv_iconst (v := 0) hx hb dX12_isFault_84 (by decide) ?_
      obtain ⟨hc, h⟩ := gc_some h
      refine va_zast hx hb hK hP hD hS 2 1 rfl rfl (inb_in hc) dX12_isFault_85 (fun H locs hP hD hS => ?_)
      have hP : va_P (dC, dI) vwCl [(a_t_lowOn, .inl (cT 3, 6, .inr (.inl t_lowOn))), (a_t_highOn, .inl (cT 3, 6, .inr (.inl t_highOn))), (a_t_isBrothOn, .inl (cT 1, 6, .inl (upd t_isBrothOn p2.toNatClampNeg (vp_nar .boolean 0))))] H := hP
      have hD : va_D A [(a_t_lowOn, .inl (cT 3, 6, .inr (.inl t_lowOn))), (a_t_highOn, .inl (cT 3, 6, .inr (.inl t_highOn))), (a_t_isBrothOn, .inl (cT 1, 6, .inl (upd t_isBrothOn p2.toNatClampNeg (vp_nar .boolean 0))))] := hD
      refine lv_aload_n hx hb dX12_isFault_86 rfl (lv_at hl 1 rfl) ?_
      refine lv_iload_n hx hb dX12_isFault_87 rfl (lv_at hl 3 rfl) ?_
      refine lv_iload_n hx hb dX12_isFault_88 rfl (lv_at hl 0 rfl) ?_
      refine lv_i2l hx hb dX12_isFault_89 rfl ?_
      refine lv_iload_n hx hb dX12_isFault_90 rfl (lv_at hl 0 rfl) ?_
      refine lv_i2l hx hb dX12_isFault_91 rfl ?_
      obtain ⟨r9, hq, h⟩ := gb_some h
      refine cxV (X2 := [(a_t_lowOn, .inl (cT 3, 6, .inr (.inl r9.1))), (a_t_highOn, .inl (cT 3, 6, .inr (.inl r9.2))), (a_t_isBrothOn, .inl (cT 1, 6, .inl (upd t_isBrothOn p2.toNatClampNeg (vp_nar .boolean 0))))]) (va_runV (As := [.int p2, .long v1.toInt64, .long v1.toInt64]) (rest := []) ⟨hx, hb, hml, hown, hta⟩ (c_X12_laysBounds l dC dI cT hq (hP.sub (ws' := [(a_t_lowOn, .inl (cT 3, 6, .inr (.inl t_lowOn))), (a_t_highOn, .inl (cT 3, 6, .inr (.inl t_highOn)))]) [0, 1] rfl) ((va_P.app hP (rk hR0 hNA hS)).sub (ws' := [(a_t, .inr (15, [.ref a_t_s, .ref a_t_f, .ref a_t_before, .ref a_t_beforeF, .ref a_t_aside, .ref a_t_asideF, .ref a_t_saved, .ref a_t_savedF, .int t_isSaved, .ref a_t_past, .ref a_t_pastF, .int t_pastMany, .int t_boiled, .int t_thrown, .ref a_t_refused, .ref a_t_text, .int t_length, .int t_error, .ref a_t_signs, .ref a_t_numbers, .int t_tokens, .int t_spoons, .int t_mostSpoons, .ref a_t_row, .ref a_t_isBrothOn, .ref a_t_dramsOn, .ref a_t_brothOn, .int t_cause, .int t_causeDetail, .ref a_t_lowOn, .ref a_t_highOn, .ref a_t_lowStored, .ref a_t_highStored, .ref a_t_isBrothStored, .int t_storeMany, .ref a_t_step, .ref a_t_stepF, .ref a_t_line, .int t_lineMany]))]) [3] rfl) (ds hD [0, 1] (by decide) rfl) (nac hP hD [0, 1] rfl (va_free hD hS hA [0, 1] rfl) hNA [.inl 0] rfl rfl)) (cV hta lm_X12_299 md_X12_laysBounds ⟨(Nat.le_of_ble_eq_true rfl), (Nat.le_of_ble_eq_true rfl)⟩) ⟨fbK, va_recv hK (rk hR0 hNA hS) (ci := 15) (q0 := 0) rfl rfl, fun U hU hW => ⟨rfl, hU, va_K.moved hW.alike hK⟩⟩ rfl rfl hl.1 rfl (lv_room (Nat.le_of_ble_eq_true rfl)) dX12_isFault_92 ⟨(Nat.le_of_ble_eq_true rfl), (Nat.le_of_ble_eq_true rfl)⟩) hS hA hP hD [0, 1] rfl [.inl 0, .inl 1, .inr 2] rfl rfl rfl (fun H locs hP hD hS => ?_)
      refine lv_iconst (v := 0) hx hb dX12_isFault_95 (by decide) ?_
      have ho := Option.some.inj h
      rw [hQ]
      exact W.zret (ty := .boolean) (v := 0) hx hb hr rfl (fun t ht hW => ⟨⟨0, (), rfl, by rw [← ho], by show va_P (dC, dI) vwCl _ t.heap; rw [ht, ← ho]; exact hP⟩, hS.F ht⟩) hS.2.2 dX12_isFault_96
  · have h := (if_neg c0).symm.trans h
    refine lv_aload_n hx hb dX12_isFault_15 rfl (lv_at hl 1 rfl) ?_
    refine va_get (D := (dC, dI)) (ci := 15) (v := .ref a_t_isBrothOn) (C := RX12) (T := TX12) (N := 39) hx hb hta inX12w hown hK (rk hR0 hNA hS) 0 rfl rfl 24 (by decide) (hta _ lk_X12_61) (fun _ h9 => h9) rfl dX12_isFault_16 ?_
    refine lv_iload_n hx hb dX12_isFault_19 rfl (lv_at hl 3 rfl) ?_
    refine lv_aload_n hx hb dX12_isFault_20 rfl (lv_at hl 1 rfl) ?_
    refine lv_iload_n hx hb dX12_isFault_21 rfl (lv_at hl 0 rfl) ?_
    obtain ⟨r10, hq, h⟩ := gb_some h
    refine crI (va_runV (As := [.int v1]) (rest := [.int p2, .ref a_t_isBrothOn]) ⟨hx, hb, hml, hown, hta⟩ (c_X12_isBroth l dC dI cT hq ((rk hR0 hNA hS).sub (ws' := [(a_t, .inr (15, [.ref a_t_s, .ref a_t_f, .ref a_t_before, .ref a_t_beforeF, .ref a_t_aside, .ref a_t_asideF, .ref a_t_saved, .ref a_t_savedF, .int t_isSaved, .ref a_t_past, .ref a_t_pastF, .int t_pastMany, .int t_boiled, .int t_thrown, .ref a_t_refused, .ref a_t_text, .int t_length, .int t_error, .ref a_t_signs, .ref a_t_numbers, .int t_tokens, .int t_spoons, .int t_mostSpoons, .ref a_t_row, .ref a_t_isBrothOn, .ref a_t_dramsOn, .ref a_t_brothOn, .int t_cause, .int t_causeDetail, .ref a_t_lowOn, .ref a_t_highOn, .ref a_t_lowStored, .ref a_t_highStored, .ref a_t_isBrothStored, .int t_storeMany, .ref a_t_step, .ref a_t_stepF, .ref a_t_line, .int t_lineMany])), (a_t_s, .inl (cT 0, 282, .inl t_s))]) [0, 3] rfl)) (cV hta lm_X12_160 md_X12_isBroth ⟨(Nat.le_of_ble_eq_true rfl), (Nat.le_of_ble_eq_true rfl)⟩) ⟨fbK, va_recv hK (rk hR0 hNA hS) (ci := 15) (q0 := 0) rfl rfl, fun U hU hW => ⟨rfl, hU, va_K.moved hW.alike hK⟩⟩ rfl rfl hl.1 rfl (lv_room (Nat.le_of_ble_eq_true rfl)) dX12_isFault_22 ⟨(Nat.le_of_ble_eq_true rfl), (Nat.le_of_ble_eq_true rfl)⟩) hS hA (fun locs hS => ?_)
    obtain ⟨hc, h⟩ := gc_some h
    refine va_zast hx hb hK hP hD hS 2 1 rfl rfl (inb_in hc) dX12_isFault_25 (fun H locs hP hD hS => ?_)
    have hP : va_P (dC, dI) vwCl [(a_t_lowOn, .inl (cT 3, 6, .inr (.inl t_lowOn))), (a_t_highOn, .inl (cT 3, 6, .inr (.inl t_highOn))), (a_t_isBrothOn, .inl (cT 1, 6, .inl (upd t_isBrothOn p2.toNatClampNeg (vp_nar .boolean r10))))] H := hP
    have hD : va_D A [(a_t_lowOn, .inl (cT 3, 6, .inr (.inl t_lowOn))), (a_t_highOn, .inl (cT 3, 6, .inr (.inl t_highOn))), (a_t_isBrothOn, .inl (cT 1, 6, .inl (upd t_isBrothOn p2.toNatClampNeg (vp_nar .boolean r10))))] := hD
    refine lv_aload_n hx hb dX12_isFault_26 rfl (lv_at hl 1 rfl) ?_
    refine lv_iload_n hx hb dX12_isFault_27 rfl (lv_at hl 3 rfl) ?_
    refine lv_aload_n hx hb dX12_isFault_28 rfl (lv_at hl 1 rfl) ?_
    refine lv_iload_n hx hb dX12_isFault_29 rfl (lv_at hl 0 rfl) ?_
    obtain ⟨r11, hq, h⟩ := gb_some h
    refine crI (va_runV (As := [.int v1]) (rest := [.int p2, .ref a_t]) ⟨hx, hb, hml, hown, hta⟩ (c_X12_isBroth l dC dI cT hq ((rk hR0 hNA hS).sub (ws' := [(a_t, .inr (15, [.ref a_t_s, .ref a_t_f, .ref a_t_before, .ref a_t_beforeF, .ref a_t_aside, .ref a_t_asideF, .ref a_t_saved, .ref a_t_savedF, .int t_isSaved, .ref a_t_past, .ref a_t_pastF, .int t_pastMany, .int t_boiled, .int t_thrown, .ref a_t_refused, .ref a_t_text, .int t_length, .int t_error, .ref a_t_signs, .ref a_t_numbers, .int t_tokens, .int t_spoons, .int t_mostSpoons, .ref a_t_row, .ref a_t_isBrothOn, .ref a_t_dramsOn, .ref a_t_brothOn, .int t_cause, .int t_causeDetail, .ref a_t_lowOn, .ref a_t_highOn, .ref a_t_lowStored, .ref a_t_highStored, .ref a_t_isBrothStored, .int t_storeMany, .ref a_t_step, .ref a_t_stepF, .ref a_t_line, .int t_lineMany])), (a_t_s, .inl (cT 0, 282, .inl t_s))]) [0, 3] rfl)) (cV hta lm_X12_160 md_X12_isBroth ⟨(Nat.le_of_ble_eq_true rfl), (Nat.le_of_ble_eq_true rfl)⟩) ⟨fbK, va_recv hK (rk hR0 hNA hS) (ci := 15) (q0 := 0) rfl rfl, fun U hU hW => ⟨rfl, hU, va_K.moved hW.alike hK⟩⟩ rfl rfl hl.1 rfl (lv_room (Nat.le_of_ble_eq_true rfl)) dX12_isFault_30 ⟨(Nat.le_of_ble_eq_true rfl), (Nat.le_of_ble_eq_true rfl)⟩) hS hA (fun locs hS => ?_)
    refine lv_if_eq (tgt := 40) hx hb dX12_isFault_33 (by decide) (fun c0 => ?_) (fun c0 => ?_)
    · have h := (if_pos c0).symm.trans h
      refine lv_aload_n hx hb dX12_isFault_40 rfl (lv_at hl 1 rfl) ?_
      refine lv_iload_n hx hb dX12_isFault_41 rfl (lv_at hl 0 rfl) ?_
      refine lv_iconst (v := 1) hx hb dX12_isFault_42 (by decide) ?_
      obtain ⟨r12, hq, h⟩ := gb_some h
      refine crI (va_runV (As := [.int v1, .int 1]) (rest := [.int p2, .ref a_t]) ⟨hx, hb, hml, hown, hta⟩ (c_X12_of l dC dI cT hq ((rk hR0 hNA hS).sub (ws' := [(a_t, .inr (15, [.ref a_t_s, .ref a_t_f, .ref a_t_before, .ref a_t_beforeF, .ref a_t_aside, .ref a_t_asideF, .ref a_t_saved, .ref a_t_savedF, .int t_isSaved, .ref a_t_past, .ref a_t_pastF, .int t_pastMany, .int t_boiled, .int t_thrown, .ref a_t_refused, .ref a_t_text, .int t_length, .int t_error, .ref a_t_signs, .ref a_t_numbers, .int t_tokens, .int t_spoons, .int t_mostSpoons, .ref a_t_row, .ref a_t_isBrothOn, .ref a_t_dramsOn, .ref a_t_brothOn, .int t_cause, .int t_causeDetail, .ref a_t_lowOn, .ref a_t_highOn, .ref a_t_lowStored, .ref a_t_highStored, .ref a_t_isBrothStored, .int t_storeMany, .ref a_t_step, .ref a_t_stepF, .ref a_t_line, .int t_lineMany])), (a_t_s, .inl (cT 0, 282, .inl t_s))]) [0, 3] rfl)) (cV hta lm_X12_116 md_X12_of ⟨(Nat.le_of_ble_eq_true rfl), (Nat.le_of_ble_eq_true rfl)⟩) ⟨fbK, va_recv hK (rk hR0 hNA hS) (ci := 15) (q0 := 0) rfl rfl, fun U hU hW => ⟨rfl, hU, va_K.moved hW.alike hK⟩⟩ rfl rfl hl.1 rfl (lv_room (Nat.le_of_ble_eq_true rfl)) dX12_isFault_43 ⟨(Nat.le_of_ble_eq_true rfl), (Nat.le_of_ble_eq_true rfl)⟩) hS hA (fun locs hS => ?_)
      refine lv_i2l hx hb dX12_isFault_46 rfl ?_
      exact wB_47 (upd t_isBrothOn p2.toNatClampNeg (vp_nar .boolean r10)) v1 r12.toInt64 _ _ _ h hP hD hS (lv_sub hl [1, 0] rfl)
    · have h := (if_neg c0).symm.trans h
      refine lv_lconst (v := 0) hx hb dX12_isFault_36 (by decide) ?_
      refine lv_goto (tgt := 47) hx hb dX12_isFault_37 (by decide) ?_
      exact wB_47 (upd t_isBrothOn p2.toNatClampNeg (vp_nar .boolean r10)) v1 0 _ _ _ h hP hD hS (lv_sub hl [1, 0] rfl)
