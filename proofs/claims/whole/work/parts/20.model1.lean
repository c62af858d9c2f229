def g_X12_thrown (t_thrown : Int32) : Option (Int32) :=
  some (t_thrown)
set_option maxHeartbeats 4000000 in
set_option maxRecDepth 100000 in
theorem c_X12_thrown (l : Launch) (dC : Nat → ClassId) (dI : Nat → Nat → Nat) (cT : Nat → ClassId) {Hh : Heap} {a_t : Nat} {a_t_s : Nat} {a_t_f : Nat} {a_t_before : Nat} {a_t_beforeF : Nat} {a_t_aside : Nat} {a_t_asideF : Nat} {a_t_saved : Nat} {a_t_savedF : Nat} {a_t_past : Nat} {a_t_pastF : Nat} {a_t_refused : Nat} {a_t_text : Nat} {a_t_signs : Nat} {a_t_numbers : Nat} {a_t_row : Nat} {a_t_isBrothOn : Nat} {a_t_dramsOn : Nat} {a_t_brothOn : Nat} {a_t_lowOn : Nat} {a_t_highOn : Nat} {a_t_lowStored : Nat} {a_t_highStored : Nat} {a_t_isBrothStored : Nat} {a_t_step : Nat} {a_t_stepF : Nat} {a_t_line : Nat} {t_thrown : Int32} {t_isSaved : Int32} {t_pastMany : Int32} {t_boiled : Int32} {t_length : Int32} {t_error : Int32} {t_tokens : Int32} {t_spoons : Int32} {t_mostSpoons : Int32} {t_cause : Int32} {t_causeDetail : Int32} {t_storeMany : Int32} {t_lineMany : Int32} {o : Int32} (h : g_X12_thrown t_thrown = some o) (hR0 : va_P (dC, dI) vwCl [(a_t, .inr (15, [.ref a_t_s, .ref a_t_f, .ref a_t_before, .ref a_t_beforeF, .ref a_t_aside, .ref a_t_asideF, .ref a_t_saved, .ref a_t_savedF, .int t_isSaved, .ref a_t_past, .ref a_t_pastF, .int t_pastMany, .int t_boiled, .int t_thrown, .ref a_t_refused, .ref a_t_text, .int t_length, .int t_error, .ref a_t_signs, .ref a_t_numbers, .int t_tokens, .int t_spoons, .int t_mostSpoons, .ref a_t_row, .ref a_t_isBrothOn, .ref a_t_dramsOn, .ref a_t_brothOn, .int t_cause, .int t_causeDetail, .ref a_t_lowOn, .ref a_t_highOn, .ref a_t_lowStored, .ref a_t_highStored, .ref a_t_isBrothStored, .int t_storeMany, .ref a_t_step, .ref a_t_stepF, .ref a_t_line, .int t_lineMany]))] Hh) : Met l yX12_thrown (wA yX12_thrown cX12_thrown 1 (some .int)) ({ frames := 0, cells := 0, slots := 0, locals := 0 } : Room) (PK dC dI cT [.ref a_t] Hh) (va_Qi (fun x (_ : Unit) => x = o) (fun _ t => t.heap = Hh) (va_A [] Hh.size)) 0 0 (va_A [] Hh.size) := by
  refine Met.ofW (cc := cX12_thrown) (maxL := 1) (ret := (some .int)) (by decide) rfl ?_
  intro p e s m args below meth c s₁ B hml hv
  obtain ⟨rfl, hH, hK⟩ := hv
  subst hH
  have hx := B.exec
  have hb := B.bytes
  have hr := B.returns
  have hta : ∀ w ∈ ALLW, w.before [.ref a_t].toArray s = true := fun w hw => atoms_spec (ws := wA yX12_thrown cX12_thrown 1 (some .int)) B.pre w (List.mem_cons_of_mem _ hw)
  have hown : s.vm.findClass RX12 = some m.cls := findClass_of_methodNamed B.named
  have hlocks := B.notSynchronized
  generalize hAe : va_A [] s.heap.size = A
  have hA : ∀ q : Nat, s.heap.size ≤ q → A q := fun q h => by rw [← hAe]; exact Or.inr h
  have hS : va_S A s.heap s.heap [] := va_S.rf
  have hl := lv_entry [.ref a_t] (n := 1) (Nat.le_of_ble_eq_true rfl)
  rw [lg_entry_eq]
  generalize (lg_sl [.ref a_t] ++ List.replicate (1 - (lg_sl [.ref a_t]).length) Slot.unset).toArray = ls at hl ⊢
  have hl : lv_has ls 1 [(0, .ref a_t)] := hl
  unfold g_X12_thrown at h
  refine lv_aload_n hx hb dX12_thrown_0 rfl (lv_at hl 0 rfl) ?_
  refine va_get (D := (dC, dI)) (ci := 15) (v := .int t_thrown) (C := RX12) (T := TX12) (N := 39) hx hb hta inX12w hown hK hR0 0 rfl rfl 13 (by decide) (hta _ lk_X12_96) (fun _ h9 => h9) rfl dX12_thrown_1 ?_
  have ho := Option.some.inj h
  exact W.iret (v := t_thrown) hx hb hr (fun t ht hW => ⟨⟨t_thrown, (), rfl, by rw [← ho], ht⟩, hS.F ht⟩) hS.2.2 dX12_thrown_4
def g_X12_in (p1 : Int64) (p2 : Int64) (p3 : Int64) : Option (Int32) :=
  if (lg_cmp p1 p2) < 0 then
    some (0)
  else
    if 0 < (lg_cmp p1 p3) then
      some (0)
    else
      some (1)
set_option maxHeartbeats 4000000 in
set_option maxRecDepth 100000 in
theorem c_X12_in (l : Launch) (dC : Nat → ClassId) (dI : Nat → Nat → Nat) (cT : Nat → ClassId) {Hh : Heap} {p1 : Int64} {p2 : Int64} {p3 : Int64} {o : Int32} (h : g_X12_in p1 p2 p3 = some o) : Met l yX12_in (wA yX12_in cX12_in 6 (some .boolean)) ({ frames := 0, cells := 0, slots := 0, locals := 0 } : Room) (PK dC dI cT [.long p1, .long p2, .long p3] Hh) (va_Qi (fun x (_ : Unit) => x = o) (fun _ t => t.heap = Hh) (va_A [] Hh.size)) 0 0 (va_A [] Hh.size) := by
  refine Met.ofW (cc := cX12_in) (maxL := 6) (ret := (some .boolean)) (by decide) rfl ?_
  intro p e s m args below meth c s₁ B hml hv
  obtain ⟨rfl, hH, hK⟩ := hv
  subst hH
  have hx := B.exec
  have hb := B.bytes
  have hr := B.returns
  have hta : ∀ w ∈ ALLW, w.before [.long p1, .long p2, .long p3].toArray s = true := fun w hw => atoms_spec (ws := wA yX12_in cX12_in 6 (some .boolean)) B.pre w (List.mem_cons_of_mem _ hw)
  have hown : s.vm.findClass RX12 = some m.cls := findClass_of_methodNamed B.named
  have hlocks := B.notSynchronized
  generalize hAe : va_A [] s.heap.size = A
  have hA : ∀ q : Nat, s.heap.size ≤ q → A q := fun q h => by rw [← hAe]; exact Or.inr h
  have hS : va_S A s.heap s.heap [] := va_S.rf
  have hl := lv_entry [.long p1, .long p2, .long p3] (n := 6) (Nat.le_of_ble_eq_true rfl)
  rw [lg_entry_eq]
  generalize (lg_sl [.long p1, .long p2, .long p3] ++ List.replicate (6 - (lg_sl [.long p1, .long p2, .long p3]).length) Slot.unset).toArray = ls at hl ⊢
  have hl : lv_has ls 6 [(0, .long p1), (2, .long p2), (4, .long p3)] := hl
  unfold g_X12_in at h
  refine lv_lload_n hx hb dX12_in_0 rfl (lv_at hl 0 rfl) ?_
  refine lv_lload_n hx hb dX12_in_1 rfl (lv_at hl 1 rfl) ?_
  refine W.lcmp hx hb dX12_in_2 ?_
  refine lv_if_lt (tgt := 17) hx hb dX12_in_3 (by decide) (fun c0 => ?_) (fun c0 => ?_)
  · have h := (if_pos c0).symm.trans h
    refine lv_iconst (v := 0) hx hb dX12_in_17 (by decide) ?_
    have ho := Option.some.inj h
    exact W.zret (ty := .boolean) (v := 0) hx hb hr rfl (fun t ht hW => ⟨⟨0, (), rfl, by rw [← ho], ht⟩, hS.F ht⟩) hS.2.2 dX12_in_18
  · have h := (if_neg c0).symm.trans h
    refine lv_lload_n hx hb dX12_in_6 rfl (lv_at hl 0 rfl) ?_
    refine lv_lload hx hb dX12_in_7 (lv_at hl 2 rfl) ?_
    refine W.lcmp hx hb dX12_in_9 ?_
    refine lv_if_gt (tgt := 17) hx hb dX12_in_10 (by decide) (fun c0 => ?_) (fun c0 => ?_)
    · have h := (if_pos c0).symm.trans h
      refine lv_iconst (v := 0) hx hb dX12_in_17 (by decide) ?_
      have ho := Option.some.inj h
      exact W.zret (ty := .boolean) (v := 0) hx hb hr rfl (fun t ht hW => ⟨⟨0, (), rfl, by rw [← ho], ht⟩, hS.F ht⟩) hS.2.2 dX12_in_18
    · have h := (if_neg c0).symm.trans h
      refine lv_iconst (v := 1) hx hb dX12_in_13 (by decide) ?_
      refine lv_goto (tgt := 18) hx hb dX12_in_14 (by decide) ?_
      have ho := Option.some.inj h
      exact W.zret (ty := .boolean) (v := 1) hx hb hr rfl (fun t ht hW => ⟨⟨1, (), rfl, by rw [← ho], ht⟩, hS.F ht⟩) hS.2.2 dX12_in_18
def g_X12_keep (t_thrown : Int32) (t_s : Nat → Int32) (t_before : Nat → Int32) (t_f : Nat → UInt32) (t_beforeF : Nat → UInt32) : Option (Int32 × (Nat → Int32) × (Nat → UInt32)) :=
  gc (cpok (0 : Int32) (0 : Int32) (282 : Int32) 282 282) <|
  gc (cpok (0 : Int32) (0 : Int32) (6 : Int32) 6 6) <|
  some (0, (va_cpy t_s t_before (0 : Int32).toNatClampNeg (0 : Int32).toNatClampNeg (282 : Int32).toNatClampNeg), (va_cpy t_f t_beforeF (0 : Int32).toNatClampNeg (0 : Int32).toNatClampNeg (6 : Int32).toNatClampNeg))
set_option maxHeartbeats 4000000 in
set_option maxRecDepth 100000 in
theorem c_X12_keep (l : Launch) (dC : Nat → ClassId) (dI : Nat → Nat → Nat) (cT : Nat → ClassId) {Hh : Heap} {a_t : Nat} {a_t_s : Nat} {a_t_before : Nat} {a_t_f : Nat} {a_t_beforeF : Nat} {a_t_aside : Nat} {a_t_asideF : Nat} {a_t_saved : Nat} {a_t_savedF : Nat} {a_t_past : Nat} {a_t_pastF : Nat} {a_t_refused : Nat} {a_t_text : Nat} {a_t_signs : Nat} {a_t_numbers : Nat} {a_t_row : Nat} {a_t_isBrothOn : Nat} {a_t_dramsOn : Nat} {a_t_brothOn : Nat} {a_t_lowOn : Nat} {a_t_highOn : Nat} {a_t_lowStored : Nat} {a_t_highStored : Nat} {a_t_isBrothStored : Nat} {a_t_step : Nat} {a_t_stepF : Nat} {a_t_line : Nat} {t_thrown : Int32} {t_s : Nat → Int32} {t_before : Nat → Int32} {t_f : Nat → UInt32} {t_beforeF : Nat → UInt32} {t_isSaved : Int32} {t_pastMany : Int32} {t_boiled : Int32} {t_length : Int32} {t_error : Int32} {t_tokens : Int32} {t_spoons : Int32} {t_mostSpoons : Int32} {t_cause : Int32} {t_causeDetail : Int32} {t_storeMany : Int32} {t_lineMany : Int32} {o : Int32 × (Nat → Int32) × (Nat → UInt32)} (h : g_X12_keep t_thrown t_s t_before t_f t_beforeF = some o) (hP0 : va_P (dC, dI) vwCl [(a_t, .inr (15, [.ref a_t_s, .ref a_t_f, .ref a_t_before, .ref a_t_beforeF, .ref a_t_aside, .ref a_t_asideF, .ref a_t_saved, .ref a_t_savedF, .int t_isSaved, .ref a_t_past, .ref a_t_pastF, .int t_pastMany, .int t_boiled, .int t_thrown, .ref a_t_refused, .ref a_t_text, .int t_length, .int t_error, .ref a_t_signs, .ref a_t_numbers, .int t_tokens, .int t_spoons, .int t_mostSpoons, .ref a_t_row, .ref a_t_isBrothOn, .ref a_t_dramsOn, .ref a_t_brothOn, .int t_cause, .int t_causeDetail, .ref a_t_lowOn, .ref a_t_highOn, .ref a_t_lowStored, .ref a_t_highStored, .ref a_t_isBrothStored, .int t_storeMany, .ref a_t_step, .ref a_t_stepF, .ref a_t_line, .int t_lineMany])), (a_t_s, .inl (cT 0, 282, .inl t_s)), (a_t_before, .inl (cT 0, 282, .inl t_before)), (a_t_f, .inl (cT 4, 6, .inr (.inr (.inl t_f)))), (a_t_beforeF, .inl (cT 4, 6, .inr (.inr (.inl t_beforeF))))] Hh) (hD0 : va_D (fun _ => True) [(a_t, .inr (15, [.ref a_t_s, .ref a_t_f, .ref a_t_before, .ref a_t_beforeF, .ref a_t_aside, .ref a_t_asideF, .ref a_t_saved, .ref a_t_savedF, .int t_isSaved, .ref a_t_past, .ref a_t_pastF, .int t_pastMany, .int t_boiled, .int t_thrown, .ref a_t_refused, .ref a_t_text, .int t_length, .int t_error, .ref a_t_signs, .ref a_t_numbers, .int t_tokens, .int t_spoons, .int t_mostSpoons, .ref a_t_row, .ref a_t_isBrothOn, .ref a_t_dramsOn, .ref a_t_brothOn, .int t_cause, .int t_causeDetail, .ref a_t_lowOn, .ref a_t_highOn, .ref a_t_lowStored, .ref a_t_highStored, .ref a_t_isBrothStored, .int t_storeMany, .ref a_t_step, .ref a_t_stepF, .ref a_t_line, .int t_lineMany])), (a_t_s, .inl (cT 0, 282, .inl t_s)), (a_t_before, .inl (cT 0, 282, .inl t_before)), (a_t_f, .inl (cT 4, 6, .inr (.inr (.inl t_f)))), (a_t_beforeF, .inl (cT 4, 6, .inr (.inr (.inl t_beforeF))))]) : Met l yX12_keep (wA yX12_keep cX12_keep 1 none) ({ frames := 1, cells := 0, slots := 0, locals := 40 } : Room) (PK dC dI cT [.ref a_t] Hh) (va_Qv (fun (_ : Unit) => True) (fun _ t => va_P (dC, dI) vwCl [(a_t, .inr (15, [.ref a_t_s, .ref a_t_f, .ref a_t_before, .ref a_t_beforeF, .ref a_t_aside, .ref a_t_asideF, .ref a_t_saved, .ref a_t_savedF, .int t_isSaved, .ref a_t_past, .ref a_t_pastF, .int t_pastMany, .int t_boiled, .int o.1, .ref a_t_refused, .ref a_t_text, .int t_length, .int t_error, .ref a_t_signs, .ref a_t_numbers, .int t_tokens, .int t_spoons, .int t_mostSpoons, .ref a_t_row, .ref a_t_isBrothOn, .ref a_t_dramsOn, .ref a_t_brothOn, .int t_cause, .int t_causeDetail, .ref a_t_lowOn, .ref a_t_highOn, .ref a_t_lowStored, .ref a_t_highStored, .ref a_t_isBrothStored, .int t_storeMany, .ref a_t_step, .ref a_t_stepF, .ref a_t_line, .int t_lineMany])), (a_t_s, .inl (cT 0, 282, .inl t_s)), (a_t_before, .inl (cT 0, 282, .inl o.2.1)), (a_t_f, .inl (cT 4, 6, .inr (.inr (.inl t_f)))), (a_t_beforeF, .inl (cT 4, 6, .inr (.inr (.inl o.2.2))))] t.heap) (va_A [(a_t, .inr (15, [.ref a_t_s, .ref a_t_f, .ref a_t_before, .ref a_t_beforeF, .ref a_t_aside, .ref a_t_asideF, .ref a_t_saved, .ref a_t_savedF, .int t_isSaved, .ref a_t_past, .ref a_t_pastF, .int t_pastMany, .int t_boiled, .int t_thrown, .ref a_t_refused, .ref a_t_text, .int t_length, .int t_error, .ref a_t_signs, .ref a_t_numbers, .int t_tokens, .int t_spoons, .int t_mostSpoons, .ref a_t_row, .ref a_t_isBrothOn, .ref a_t_dramsOn, .ref a_t_brothOn, .int t_cause, .int t_causeDetail, .ref a_t_lowOn, .ref a_t_highOn, .ref a_t_lowStored, .ref a_t_highStored, .ref a_t_isBrothStored, .int t_storeMany, .ref a_t_step, .ref a_t_stepF, .ref a_t_line, .int t_lineMany])), (a_t_s, .inl (cT 0, 282, .inl t_s)), (a_t_before, .inl (cT 0, 282, .inl t_before)), (a_t_f, .inl (cT 4, 6, .inr (.inr (.inl t_f)))), (a_t_beforeF, .inl (cT 4, 6, .inr (.inr (.inl t_beforeF))))] Hh.size)) 0 0 (va_A [(a_t, .inr (15, [.ref a_t_s, .ref a_t_f, .ref a_t_before, .ref a_t_beforeF, .ref a_t_aside, .ref a_t_asideF, .ref a_t_saved, .ref a_t_savedF, .int t_isSaved, .ref a_t_past, .ref a_t_pastF, .int t_pastMany, .int t_boiled, .int t_thrown, .ref a_t_refused, .ref a_t_text, .int t_length, .int t_error, .ref a_t_signs, .ref a_t_numbers, .int t_tokens, .int t_spoons, .int t_mostSpoons, .ref a_t_row, .ref a_t_isBrothOn, .ref a_t_dramsOn, .ref a_t_brothOn, .int t_cause, .int t_causeDetail, .ref a_t_lowOn, .ref a_t_highOn, .ref a_t_lowStored, .ref a_t_highStored, .ref a_t_isBrothStored, .int t_storeMany, .ref a_t_step, .ref a_t_stepF, .ref a_t_line, .int t_lineMany])), (a_t_s, .inl (cT 0, 282, .inl t_s)), (a_t_before, .inl (cT 0, 282, .inl t_before)), (a_t_f, .inl (cT 4, 6, .inr (.inr (.inl t_f)))), (a_t_beforeF, .inl (cT 4, 6, .inr (.inr (.inl t_beforeF))))] Hh.size) := by
  refine Met.ofW (cc := cX12_keep) (maxL := 1) (ret := none) (by decide) rfl ?_
  intro p e s m args below meth c s₁ B hml hv
  obtain ⟨rfl, hH, hK⟩ := hv
  subst hH
  have hx := B.exec
  have hb := B.bytes
  have hr := B.returns
  have hta : ∀ w ∈ ALLW, w.before [.ref a_t].toArray s = true := fun w hw => atoms_spec (ws := wA yX12_keep cX12_keep 1 none) B.pre w (List.mem_cons_of_mem _ hw)
  have hown : s.vm.findClass RX12 = some m.cls := findClass_of_methodNamed B.named
  have hlocks := B.notSynchronized
  have hD := hD0.self (sz := s.heap.size)
  generalize hAe : va_A [(a_t, .inr (15, [.ref a_t_s, .ref a_t_f, .ref a_t_before, .ref a_t_beforeF, .ref a_t_aside, .ref a_t_asideF, .ref a_t_saved, .ref a_t_savedF, .int t_isSaved, .ref a_t_past, .ref a_t_pastF, .int t_pastMany, .int t_boiled, .int t_thrown, .ref a_t_refused, .ref a_t_text, .int t_length, .int t_error, .ref a_t_signs, .ref a_t_numbers, .int t_tokens, .int t_spoons, .int t_mostSpoons, .ref a_t_row, .ref a_t_isBrothOn, .ref a_t_dramsOn, .ref a_t_brothOn, .int t_cause, .int t_causeDetail, .ref a_t_lowOn, .ref a_t_highOn, .ref a_t_lowStored, .ref a_t_highStored, .ref a_t_isBrothStored, .int t_storeMany, .ref a_t_step, .ref a_t_stepF, .ref a_t_line, .int t_lineMany])), (a_t_s, .inl (cT 0, 282, .inl t_s)), (a_t_before, .inl (cT 0, 282, .inl t_before)), (a_t_f, .inl (cT 4, 6, .inr (.inr (.inl t_f)))), (a_t_beforeF, .inl (cT 4, 6, .inr (.inr (.inl t_beforeF))))] s.heap.size = A at hD ⊢
  have hP := hP0
  have hA : ∀ q : Nat, s.heap.size ≤ q → A q := fun q h => by rw [← hAe]; exact Or.inr h
  have hS : va_S A s.heap s.heap [] := va_S.rf
  have hl := lv_entry [.ref a_t] (n := 1) (Nat.le_of_ble_eq_true rfl)
  rw [lg_entry_eq]
  generalize (lg_sl [.ref a_t] ++ List.replicate (1 - (lg_sl [.ref a_t]).length) Slot.unset).toArray = ls at hl ⊢
  have hl : lv_has ls 1 [(0, .ref a_t)] := hl
  unfold g_X12_keep at h
  refine lv_aload_n hx hb dX12_keep_0 rfl (lv_at hl 0 rfl) ?_
  refine lv_iconst (v := 0) hx hb dX12_keep_1 (by decide) ?_
  refine va_put (D := (dC, dI)) (ci := 15) (v := .int 0) (ty := .int) (C := RX12) (T := TX12) (N := 39) hx hb hta inX12w tyX12 tyX12_ok nmX12 hown hK hP hD hS 0 rfl rfl 13 (by decide) (hta _ lk_X12_96) (fun _ h9 => h9) rfl (by decide +kernel) rfl rfl (Nat.le_of_ble_eq_true rfl) dX12_keep_2 (fun H locs hP hD hS => ?_)
  have hP : va_P (dC, dI) vwCl [(a_t, .inr (15, [.ref a_t_s, .ref a_t_f, .ref a_t_before, .ref a_t_beforeF, .ref a_t_aside, .ref a_t_asideF, .ref a_t_saved, .ref a_t_savedF, .int t_isSaved, .ref a_t_past, .ref a_t_pastF, .int t_pastMany, .int t_boiled, .int 0, .ref a_t_refused, .ref a_t_text, .int t_length, .int t_error, .ref a_t_signs, .ref a_t_numbers, .int t_tokens, .int t_spoons, .int t_mostSpoons, .ref a_t_row, .ref a_t_isBrothOn, .ref a_t_dramsOn, .ref a_t_brothOn, .int t_cause, .int t_causeDetail, .ref a_t_lowOn, .ref a_t_highOn, .ref a_t_lowStored, .ref a_t_highStored, .ref a_t_isBrothStored, .int t_storeMany, .ref a_t_step, .ref a_t_stepF, .ref a_t_line, .int t_lineMany])), (a_t_s, .inl (cT 0, 282, .inl t_s)), (a_t_before, .inl (cT 0, 282, .inl t_before)), (a_t_f, .inl (cT 4, 6, .inr (.inr (.inl t_f)))), (a_t_beforeF, .inl (cT 4, 6, .inr (.inr (.inl t_beforeF))))] H := hP
  have hD : va_D A [(a_t, .inr (15, [.ref a_t_s, .ref a_t_f, .ref a_t_before, .ref a_t_beforeF, .ref a_t_aside, .ref a_t_asideF, .ref a_t_saved, .ref a_t_savedF, .int t_isSaved, .ref a_t_past, .ref a_t_pastF, .int t_pastMany, .int t_boiled, .int 0, .ref a_t_refused, .ref a_t_text, .int t_length, .int t_error, .ref a_t_signs, .ref a_t_numbers, .int t_tokens, .int t_spoons, .int t_mostSpoons, .ref a_t_row, .ref a_t_isBrothOn, .ref a_t_dramsOn, .ref a_t_brothOn, .int t_cause, .int t_causeDetail, .ref a_t_lowOn, .ref a_t_highOn, .ref a_t_lowStored, .ref a_t_highStored, .ref a_t_isBrothStored, .int t_storeMany, .ref a_t_step, .ref a_t_stepF, .ref a_t_line, .int t_lineMany])), (a_t_s, .inl (cT 0, 282, .inl t_s)), (a_t_before, .inl (cT 0, 282, .inl t_before)), (a_t_f, .inl (cT 4, 6, .inr (.inr (.inl t_f)))), (a_t_beforeF, .inl (cT 4, 6, .inr (.inr (.inl t_beforeF))))] := hD
  refine lv_aload_n hx hb dX12_keep_5 rfl (lv_at hl 0 rfl) ?_
  refine va_get (D := (dC, dI)) (ci := 15) (v := .ref a_t_s) (C := RX12) (T := TX12) (N := 39) hx hb hta inX12w hown hK hP 0 rfl rfl 0 (by decide) (hta _ lk_X12_9) (fun _ h9 => h9) rfl dX12_keep_6 ?_
  refine lv_iconst (v := 0) hx hb dX12_keep_9 (by decide) ?_
  refine lv_aload_n hx hb dX12_keep_10 rfl (lv_at hl 0 rfl) ?_
  refine va_get (D := (dC, dI)) (ci := 15) (v := .ref a_t_before) (C := RX12) (T := TX12) (N := 39) hx hb hta inX12w hown hK hP 0 rfl rfl 2 (by decide) (hta _ lk_X12_17) (fun _ h9 => h9) rfl dX12_keep_11 ?_
  refine lv_iconst (v := 0) hx hb dX12_keep_14 (by decide) ?_
  refine lv_sipush (v := 282) hx hb dX12_keep_15 (by decide) ?_
  obtain ⟨hc, h⟩ := gc_some h
  obtain ⟨k1, k2, k3, k4, k5⟩ := cpok_ok hc
  refine va_copyi hx hb (hml.trans hl.1.symm) hown (hta _ lm_X12_99) (hta _ cp_n) (hta _ cp_s) (hta _ cp_i) hK hP hD hS 1 2 0 0 rfl rfl rfl rfl rfl k1 k2 k3 k4 k5 (fun _ _ => rfl) (Nat.le_of_ble_eq_true rfl) (Nat.le_of_ble_eq_true rfl) dX12_keep_18 (fun H locs hP hD hS => ?_)
  have hP : va_P (dC, dI) vwCl [(a_t, .inr (15, [.ref a_t_s, .ref a_t_f, .ref a_t_before, .ref a_t_beforeF, .ref a_t_aside, .ref a_t_asideF, .ref a_t_saved, .ref a_t_savedF, .int t_isSaved, .ref a_t_past, .ref a_t_pastF, .int t_pastMany, .int t_boiled, .int 0, .ref a_t_refused, .ref a_t_text, .int t_length, .int t_error, .ref a_t_signs, .ref a_t_numbers, .int t_tokens, .int t_spoons, .int t_mostSpoons, .ref a_t_row, .ref a_t_isBrothOn, .ref a_t_dramsOn, .ref a_t_brothOn, .int t_cause, .int t_causeDetail, .ref a_t_lowOn, .ref a_t_highOn, .ref a_t_lowStored, .ref a_t_highStored, .ref a_t_isBrothStored, .int t_storeMany, .ref a_t_step, .ref a_t_stepF, .ref a_t_line, .int t_lineMany])), (a_t_s, .inl (cT 0, 282, .inl t_s)), (a_t_before, .inl (cT 0, 282, .inl (va_cpy t_s t_before (0 : Int32).toNatClampNeg (0 : Int32).toNatClampNeg (282 : Int32).toNatClampNeg))), (a_t_f, .inl (cT 4, 6, .inr (.inr (.inl t_f)))), (a_t_beforeF, .inl (cT 4, 6, .inr (.inr (.inl t_beforeF))))] H := hP
  have hD : va_D A [(a_t, .inr (15, [.ref a_t_s, .ref a_t_f, .ref a_t_before, .ref a_t_beforeF, .ref a_t_aside, .ref a_t_asideF, .ref a_t_saved, .ref a_t_savedF, .int t_isSaved, .ref a_t_past, .ref a_t_pastF, .int t_pastMany, .int t_boiled, .int 0, .ref a_t_refused, .ref a_t_text, .int t_length, .int t_error, .ref a_t_signs, .ref a_t_numbers, .int t_tokens, .int t_spoons, .int t_mostSpoons, .ref a_t_row, .ref a_t_isBrothOn, .ref a_t_dramsOn, .ref a_t_brothOn, .int t_cause, .int t_causeDetail, .ref a_t_lowOn, .ref a_t_highOn, .ref a_t_lowStored, .ref a_t_highStored, .ref a_t_isBrothStored, .int t_storeMany, .ref a_t_step, .ref a_t_stepF, .ref a_t_line, .int t_lineMany])), (a_t_s, .inl (cT 0, 282, .inl t_s)), (a_t_before, .inl (cT 0, 282, .inl (va_cpy t_s t_before (0 : Int32).toNatClampNeg (0 : Int32).toNatClampNeg (282 : Int32).toNatClampNeg))), (a_t_f, .inl (cT 4, 6, .inr (.inr (.inl t_f)))), (a_t_beforeF, .inl (cT 4, 6, .inr (.inr (.inl t_beforeF))))] := hD
  refine lv_aload_n hx hb dX12_keep_21 rfl (lv_at hl 0 rfl) ?_
  refine va_get (D := (dC, dI)) (ci := 15) (v := .ref a_t_f) (C := RX12) (T := TX12) (N := 39) hx hb hta inX12w hown hK hP 0 rfl rfl 1 (by decide) (hta _ lk_X12_13) (fun _ h9 => h9) rfl dX12_keep_22 ?_
  refine lv_iconst (v := 0) hx hb dX12_keep_25 (by decide) ?_
  refine lv_aload_n hx hb dX12_keep_26 rfl (lv_at hl 0 rfl) ?_
  refine va_get (D := (dC, dI)) (ci := 15) (v := .ref a_t_beforeF) (C := RX12) (T := TX12) (N := 39) hx hb hta inX12w hown hK hP 0 rfl rfl 3 (by decide) (hta _ lk_X12_20) (fun _ h9 => h9) rfl dX12_keep_27 ?_
  refine lv_iconst (v := 0) hx hb dX12_keep_30 (by decide) ?_
  refine lv_bipush (v := 6) hx hb dX12_keep_31 (by decide) ?_
  obtain ⟨hc, h⟩ := gc_some h
  obtain ⟨k1, k2, k3, k4, k5⟩ := cpok_ok hc
  refine va_copyf hx hb (hml.trans hl.1.symm) hown (hta _ lm_X12_99) (hta _ cp_n) (hta _ cp_s) (hta _ cp_i) hK hP hD hS 3 4 4 4 rfl rfl rfl rfl rfl k1 k2 k3 k4 k5 (fun _ _ => rfl) (Nat.le_of_ble_eq_true rfl) (Nat.le_of_ble_eq_true rfl) dX12_keep_33 (fun H locs hP hD hS => ?_)
  have hP : va_P (dC, dI) vwCl [(a_t, .inr (15, [.ref a_t_s, .ref a_t_f, .ref a_t_before, .ref a_t_beforeF, .ref a_t_aside, .ref a_t_asideF, .ref a_t_saved, .ref a_t_savedF, .int t_isSaved, .ref a_t_past, .ref a_t_pastF, .int t_pastMany, .int t_boiled, .int 0, .ref a_t_refused, .ref a_t_text, .int t_length, .int t_error, .ref a_t_signs, .ref a_t_numbers, .int t_tokens, .int t_spoons, .int t_mostSpoons, .ref a_t_row, .ref a_t_isBrothOn, .ref a_t_dramsOn, .ref a_t_brothOn, .int t_cause, .int t_causeDetail, .ref a_t_lowOn, .ref a_t_highOn, .ref a_t_lowStored, .ref a_t_highStored, .ref a_t_isBrothStored, .int t_storeMany, .ref a_t_step, .ref a_t_stepF, .ref a_t_line, .int t_lineMany])), (a_t_s, .inl (cT 0, 282, .inl t_s)), (a_t_before, .inl (cT 0, 282, .inl (va_cpy t_s t_before (0 : Int32).toNatClampNeg (0 : Int32).toNatClampNeg (282 : Int32).toNatClampNeg))), (a_t_f, .inl (cT 4, 6, .inr (.inr (.inl t_f)))), (a_t_beforeF, .inl (cT 4, 6, .inr (.inr (.inl (va_cpy t_f t_beforeF (0 : Int32).toNatClampNeg (0 : Int32).toNatClampNeg (6 : Int32).toNatClampNeg)))))] H := hP
  have hD : va_D A [(a_t, .inr (15, [.ref a_t_s, .ref a_t_f, .ref a_t_before, .ref a_t_beforeF, .ref a_t_aside, .ref a_t_asideF, .ref a_t_saved, .ref a_t_savedF, .int t_isSaved, .ref a_t_past, .ref a_t_pastF, .int t_pastMany, .int t_boiled, .int 0, .ref a_t_refused, .ref a_t_text, .int t_length, .int t_error, .ref a_t_signs, .ref a_t_numbers, .int t_tokens, .int t_spoons, .int t_mostSpoons, .ref a_t_row, .ref a_t_isBrothOn, .ref a_t_dramsOn, .ref a_t_brothOn, .int t_cause, .int t_causeDetail, .ref a_t_lowOn, .ref a_t_highOn, .ref a_t_lowStored, .ref a_t_highStored, .ref a_t_isBrothStored, .int t_storeMany, .ref a_t_step, .ref a_t_stepF, .ref a_t_line, .int t_lineMany])), (a_t_s, .inl (cT 0, 282, .inl t_s)), (a_t_before, .inl (cT 0, 282, .inl (va_cpy t_s t_before (0 : Int32).toNatClampNeg (0 : Int32).toNatClampNeg (282 : Int32).toNatClampNeg))), (a_t_f, .inl (cT 4, 6, .inr (.inr (.inl t_f)))), (a_t_beforeF, .inl (cT 4, 6, .inr (.inr (.inl (va_cpy t_f t_beforeF (0 : Int32).toNatClampNeg (0 : Int32).toNatClampNeg (6 : Int32).toNatClampNeg)))))] := hD
  have ho := Option.some.inj h
  exact W.vret hx hb hr (fun t ht hW => ⟨⟨(), rfl, trivial, by show va_P (dC, dI) vwCl _ t.heap; rw [ht, ← ho]; exact hP⟩, hS.F ht⟩) hS.2.2 dX12_keep_36
def g_X12_ends_b93 (t_before : Nat → Int32) (t_s : Nat → Int32) (t_beforeF : Nat → UInt32) (t_f : Nat → UInt32) (p1 : Int32) (t_past_93 : Nat → Int32) (t_pastF_93 : Nat → UInt32) (t_pastMany_93 : Int32) : Option (Int32 × Int32 × (Nat → Int32) × (Nat → UInt32) × (Nat → Int32) × (Nat → UInt32)) :=
  gc (cpok (0 : Int32) (282 * t_pastMany_93) (282 : Int32) 282 1692) <|
  gc (cpok (0 : Int32) (6 * t_pastMany_93) (6 : Int32) 6 36) <|
  gl (t_pastMany_93 + 1) fun v2 =>
  some (p1, v2, (va_cpy t_before t_past_93 (0 : Int32).toNatClampNeg (282 * t_pastMany_93).toNatClampNeg (282 : Int32).toNatClampNeg), (va_cpy t_beforeF t_pastF_93 (0 : Int32).toNatClampNeg (6 * t_pastMany_93).toNatClampNeg (6 : Int32).toNatClampNeg), t_s, t_f)
def g_X12_ends (t_pastMany : Int32) (t_thrown : Int32) (t_past : Nat → Int32) (t_pastF : Nat → UInt32) (t_before : Nat → Int32) (t_s : Nat → Int32) (t_beforeF : Nat → UInt32) (t_f : Nat → UInt32) (p1 : Int32) : Option (Int32 × Int32 × (Nat → Int32) × (Nat → UInt32) × (Nat → Int32) × (Nat → UInt32)) :=
  if t_thrown ≤ 0 then
    if t_pastMany = 6 then
      gc (cpok (282 : Int32) (0 : Int32) (1410 : Int32) 1692 1692) <|
      gc (cpok (6 : Int32) (0 : Int32) (30 : Int32) 36 36) <|
      gl (t_pastMany - 1) fun v1 =>
      g_X12_ends_b93 t_before t_s t_beforeF t_f p1 (va_cpy t_past t_past (282 : Int32).toNatClampNeg (0 : Int32).toNatClampNeg (1410 : Int32).toNatClampNeg) (va_cpy t_pastF t_pastF (6 : Int32).toNatClampNeg (0 : Int32).toNatClampNeg (30 : Int32).toNatClampNeg) v1
    else
      g_X12_ends_b93 t_before t_s t_beforeF t_f p1 t_past t_pastF t_pastMany
  else
    gc (cpok (0 : Int32) (0 : Int32) (282 : Int32) 282 282) <|
    gc (cpok (0 : Int32) (0 : Int32) (6 : Int32) 6 6) <|
    some (0, t_pastMany, t_past, t_pastF, (va_cpy t_before t_s (0 : Int32).toNatClampNeg (0 : Int32).toNatClampNeg (282 : Int32).toNatClampNeg), (va_cpy t_beforeF t_f (0 : Int32).toNatClampNeg (0 : Int32).toNatClampNeg (6 : Int32).toNatClampNeg))
set_option maxHeartbeats 4000000 in
set_option maxRecDepth 100000 in
theorem c_X12_ends (l : Launch) (dC : Nat → ClassId) (dI : Nat → Nat → Nat) (cT : Nat → ClassId) {Hh : Heap} {a_t : Nat} {a_t_past : Nat} {a_t_pastF : Nat} {a_t_before : Nat} {a_t_s : Nat} {a_t_beforeF : Nat} {a_t_f : Nat} {a_t_aside : Nat} {a_t_asideF : Nat} {a_t_saved : Nat} {a_t_savedF : Nat} {a_t_refused : Nat} {a_t_text : Nat} {a_t_signs : Nat} {a_t_numbers : Nat} {a_t_row : Nat} {a_t_isBrothOn : Nat} {a_t_dramsOn : Nat} {a_t_brothOn : Nat} {a_t_lowOn : Nat} {a_t_highOn : Nat} {a_t_lowStored : Nat} {a_t_highStored : Nat} {a_t_isBrothStored : Nat} {a_t_step : Nat} {a_t_stepF : Nat} {a_t_line : Nat} {t_pastMany : Int32} {t_thrown : Int32} {t_past : Nat → Int32} {t_pastF : Nat → UInt32} {t_before : Nat → Int32} {t_s : Nat → Int32} {t_beforeF : Nat → UInt32} {t_f : Nat → UInt32} {p1 : Int32} {t_isSaved : Int32} {t_boiled : Int32} {t_length : Int32} {t_error : Int32} {t_tokens : Int32} {t_spoons : Int32} {t_mostSpoons : Int32} {t_cause : Int32} {t_causeDetail : Int32} {t_storeMany : Int32} {t_lineMany : Int32} {o : Int32 × Int32 × (Nat → Int32) × (Nat → UInt32) × (Nat → Int32) × (Nat → UInt32)} (h : g_X12_ends t_pastMany t_thrown t_past t_pastF t_before t_s t_beforeF t_f p1 = some o) (hP0 : va_P (dC, dI) vwCl [(a_t, .inr (15, [.ref a_t_s, .ref a_t_f, .ref a_t_before, .ref a_t_beforeF, .ref a_t_aside, .ref a_t_asideF, .ref a_t_saved, .ref a_t_savedF, .int t_isSaved, .ref a_t_past, .ref a_t_pastF, .int t_pastMany, .int t_boiled, .int t_thrown, .ref a_t_refused, .ref a_t_text, .int t_length, .int t_error, .ref a_t_signs, .ref a_t_numbers, .int t_tokens, .int t_spoons, .int t_mostSpoons, .ref a_t_row, .ref a_t_isBrothOn, .ref a_t_dramsOn, .ref a_t_brothOn, .int t_cause, .int t_causeDetail, .ref a_t_lowOn, .ref a_t_highOn, .ref a_t_lowStored, .ref a_t_highStored, .ref a_t_isBrothStored, .int t_storeMany, .ref a_t_step, .ref a_t_stepF, .ref a_t_line, .int t_lineMany])), (a_t_past, .inl (cT 0, 1692, .inl t_past)), (a_t_pastF, .inl (cT 4, 36, .inr (.inr (.inl t_pastF)))), (a_t_before, .inl (cT 0, 282, .inl t_before)), (a_t_s, .inl (cT 0, 282, .inl t_s)), (a_t_beforeF, .inl (cT 4, 6, .inr (.inr (.inl t_beforeF)))), (a_t_f, .inl (cT 4, 6, .inr (.inr (.inl t_f))))] Hh) (hD0 : va_D (fun _ => True) [(a_t, .inr (15, [.ref a_t_s, .ref a_t_f, .ref a_t_before, .ref a_t_beforeF, .ref a_t_aside, .ref a_t_asideF, .ref a_t_saved, .ref a_t_savedF, .int t_isSaved, .ref a_t_past, .ref a_t_pastF, .int t_pastMany, .int t_boiled, .int t_thrown, .ref a_t_refused, .ref a_t_text, .int t_length, .int t_error, .ref a_t_signs, .ref a_t_numbers, .int t_tokens, .int t_spoons, .int t_mostSpoons, .ref a_t_row, .ref a_t_isBrothOn, .ref a_t_dramsOn, .ref a_t_brothOn, .int t_cause, .int t_causeDetail, .ref a_t_lowOn, .ref a_t_highOn, .ref a_t_lowStored, .ref a_t_highStored, .ref a_t_isBrothStored, .int t_storeMany, .ref a_t_step, .ref a_t_stepF, .ref a_t_line, .int t_lineMany])), (a_t_past, .inl (cT 0, 1692, .inl t_past)), (a_t_pastF, .inl (cT 4, 36, .inr (.inr (.inl t_pastF)))), (a_t_before, .inl (cT 0, 282, .inl t_before)), (a_t_s, .inl (cT 0, 282, .inl t_s)), (a_t_beforeF, .inl (cT 4, 6, .inr (.inr (.inl t_beforeF)))), (a_t_f, .inl (cT 4, 6, .inr (.inr (.inl t_f))))]) : Met l yX12_ends (wA yX12_ends cX12_ends 2 (some .int)) ({ frames := 1, cells := 0, slots := 0, locals := 40 } : Room) (PK dC dI cT [.ref a_t, .int p1] Hh) (va_Qi (fun x (_ : Unit) => x = o.1) (fun _ t => va_P (dC, dI) vwCl [(a_t, .inr (15, [.ref a_t_s, .ref a_t_f, .ref a_t_before, .ref a_t_beforeF, .ref a_t_aside, .ref a_t_asideF, .ref a_t_saved, .ref a_t_savedF, .int t_isSaved, .ref a_t_past, .ref a_t_pastF, .int o.2.1, .int t_boiled, .int t_thrown, .ref a_t_refused, .ref a_t_text, .int t_length, .int t_error, .ref a_t_signs, .ref a_t_numbers, .int t_tokens, .int t_spoons, .int t_mostSpoons, .ref a_t_row, .ref a_t_isBrothOn, .ref a_t_dramsOn, .ref a_t_brothOn, .int t_cause, .int t_causeDetail, .ref a_t_lowOn, .ref a_t_highOn, .ref a_t_lowStored, .ref a_t_highStored, .ref a_t_isBrothStored, .int t_storeMany, .ref a_t_step, .ref a_t_stepF, .ref a_t_line, .int t_lineMany])), (a_t_past, .inl (cT 0, 1692, .inl o.2.2.1)), (a_t_pastF, .inl (cT 4, 36, .inr (.inr (.inl o.2.2.2.1)))), (a_t_before, .inl (cT 0, 282, .inl t_before)), (a_t_s, .inl (cT 0, 282, .inl o.2.2.2.2.1)), (a_t_beforeF, .inl (cT 4, 6, .inr (.inr (.inl t_beforeF)))), (a_t_f, .inl (cT 4, 6, .inr (.inr (.inl o.2.2.2.2.2))))] t.heap) (va_A [(a_t, .inr (15, [.ref a_t_s, .ref a_t_f, .ref a_t_before, .ref a_t_beforeF, .ref a_t_aside, .ref a_t_asideF, .ref a_t_saved, .ref a_t_savedF, .int t_isSaved, .ref a_t_past, .ref a_t_pastF, .int t_pastMany, .int t_boiled, .int t_thrown, .ref a_t_refused, .ref a_t_text, .int t_length, .int t_error, .ref a_t_signs, .ref a_t_numbers, .int t_tokens, .int t_spoons, .int t_mostSpoons, .ref a_t_row, .ref a_t_isBrothOn, .ref a_t_dramsOn, .ref a_t_brothOn, .int t_cause, .int t_causeDetail, .ref a_t_lowOn, .ref a_t_highOn, .ref a_t_lowStored, .ref a_t_highStored, .ref a_t_isBrothStored, .int t_storeMany, .ref a_t_step, .ref a_t_stepF, .ref a_t_line, .int t_lineMany])), (a_t_past, .inl (cT 0, 1692, .inl t_past)), (a_t_pastF, .inl (cT 4, 36, .inr (.inr (.inl t_pastF)))), (a_t_before, .inl (cT 0, 282, .inl t_before)), (a_t_s, .inl (cT 0, 282, .inl t_s)), (a_t_beforeF, .inl (cT 4, 6, .inr (.inr (.inl t_beforeF)))), (a_t_f, .inl (cT 4, 6, .inr (.inr (.inl t_f))))] Hh.size)) 0 0 (va_A [(a_t, .inr (15, [.ref a_t_s, .ref a_t_f, .ref a_t_before, .ref a_t_beforeF, .ref a_t_aside, .ref a_t_asideF, .ref a_t_saved, .ref a_t_savedF, .int t_isSaved, .ref a_t_past, .ref a_t_pastF, .int t_pastMany, .int t_boiled, .int t_thrown, .ref a_t_refused, .ref a_t_text, .int t_length, .int t_error, .ref a_t_signs, .ref a_t_numbers, .int t_tokens, .int t_spoons, .int t_mostSpoons, .ref a_t_row, .ref a_t_isBrothOn, .ref a_t_dramsOn, .ref a_t_brothOn, .int t_cause, .int t_causeDetail, .ref a_t_lowOn, .ref a_t_highOn, .ref a_t_lowStored, .ref a_t_highStored, .ref a_t_isBrothStored, .int t_storeMany, .ref a_t_step, .ref a_t_stepF, .ref a_t_line, .int t_lineMany])), (a_t_past, .inl (cT 0, 1692, .inl t_past)), (a_t_pastF, .inl (cT 4, 36, .inr (.inr (.inl t_pastF)))), (a_t_before, .inl (cT 0, 282, .inl t_before)), (a_t_s, .inl (cT 0, 282, .inl t_s)), (a_t_beforeF, .inl (cT 4, 6, .inr (.inr (.inl t_beforeF)))), (a_t_f, .inl (cT 4, 6, .inr (.inr (.inl t_f))))] Hh.size) := by
  refine Met.ofW (cc := cX12_ends) (maxL := 2) (ret := (some .int)) (by decide) rfl ?_
  intro p e s m args below meth c s₁ B hml hv
  obtain ⟨rfl, hH, hK⟩ := hv
  subst hH
  have hx := B.exec
  have hb := B.bytes
  have hr := B.returns
  have hta : ∀ w ∈ ALLW, w.before [.ref a_t, .int p1].toArray s = true := fun w hw => atoms_spec (ws := wA yX12_ends cX12_ends 2 (some .int)) B.pre w (List.mem_cons_of_mem _ hw)
  have hown : s.vm.findClass RX12 = some m.cls := findClass_of_methodNamed B.named
  have hlocks := B.notSynchronized
  have hD := hD0.self (sz := s.heap.size)
  generalize hAe : va_A [(a_t, .inr (15, [.ref a_t_s, .ref a_t_f, .ref a_t_before, .ref a_t_beforeF, .ref a_t_aside, .ref a_t_asideF, .ref a_t_saved, .ref a_t_savedF, .int t_isSaved, .ref a_t_past, .ref a_t_pastF, .int t_pastMany, .int t_boiled, .int t_thrown, .ref a_t_refused, .ref a_t_text, .int t_length, .int t_error, .ref a_t_signs, .ref a_t_numbers, .int t_tokens, .int t_spoons, .int t_mostSpoons, .ref a_t_row, .ref a_t_isBrothOn, .ref a_t_dramsOn, .ref a_t_brothOn, .int t_cause, .int t_causeDetail, .ref a_t_lowOn, .ref a_t_highOn, .ref a_t_lowStored, .ref a_t_highStored, .ref a_t_isBrothStored, .int t_storeMany, .ref a_t_step, .ref a_t_stepF, .ref a_t_line, .int t_lineMany])), (a_t_past, .inl (cT 0, 1692, .inl t_past)), (a_t_pastF, .inl (cT 4, 36, .inr (.inr (.inl t_pastF)))), (a_t_before, .inl (cT 0, 282, .inl t_before)), (a_t_s, .inl (cT 0, 282, .inl t_s)), (a_t_beforeF, .inl (cT 4, 6, .inr (.inr (.inl t_beforeF)))), (a_t_f, .inl (cT 4, 6, .inr (.inr (.inl t_f))))] s.heap.size = A at hD ⊢
  have hP := hP0
  have hA : ∀ q : Nat, s.heap.size ≤ q → A q := fun q h => by rw [← hAe]; exact Or.inr h
  have hS : va_S A s.heap s.heap [] := va_S.rf
  have hl := lv_entry [.ref a_t, .int p1] (n := 2) (Nat.le_of_ble_eq_true rfl)
  rw [lg_entry_eq]
  generalize (lg_sl [.ref a_t, .int p1] ++ List.replicate (2 - (lg_sl [.ref a_t, .int p1]).length) Slot.unset).toArray = ls at hl ⊢
  have hl : lv_has ls 2 [(0, .ref a_t), (1, .int p1)] := hl
  obtain ⟨Q, hQ⟩ : ∃ Q, Q = MQ below (va_Qi (fun x (_ : Unit) => x = o.1) (fun _ t => va_P (dC, dI) vwCl [(a_t, .inr (15, [.ref a_t_s, .ref a_t_f, .ref a_t_before, .ref a_t_beforeF, .ref a_t_aside, .ref a_t_asideF, .ref a_t_saved, .ref a_t_savedF, .int t_isSaved, .ref a_t_past, .ref a_t_pastF, .int o.2.1, .int t_boiled, .int t_thrown, .ref a_t_refused, .ref a_t_text, .int t_length, .int t_error, .ref a_t_signs, .ref a_t_numbers, .int t_tokens, .int t_spoons, .int t_mostSpoons, .ref a_t_row, .ref a_t_isBrothOn, .ref a_t_dramsOn, .ref a_t_brothOn, .int t_cause, .int t_causeDetail, .ref a_t_lowOn, .ref a_t_highOn, .ref a_t_lowStored, .ref a_t_highStored, .ref a_t_isBrothStored, .int t_storeMany, .ref a_t_step, .ref a_t_stepF, .ref a_t_line, .int t_lineMany])), (a_t_past, .inl (cT 0, 1692, .inl o.2.2.1)), (a_t_pastF, .inl (cT 4, 36, .inr (.inr (.inl o.2.2.2.1)))), (a_t_before, .inl (cT 0, 282, .inl t_before)), (a_t_s, .inl (cT 0, 282, .inl o.2.2.2.2.1)), (a_t_beforeF, .inl (cT 4, 6, .inr (.inr (.inl t_beforeF)))), (a_t_f, .inl (cT 4, 6, .inr (.inr (.inl o.2.2.2.2.2))))] t.heap) A) [.ref a_t, .int p1].toArray s 0 0 A := ⟨_, rfl⟩
  rw [← hQ]
  have wB_93 : ∀ (t_past_93 : Nat → Int32) (t_pastF_93 : Nat → UInt32) (t_pastMany_93 : Int32) (H : Heap) (locs : List Loc) (ls : Array Slot), g_X12_ends_b93 t_before t_s t_beforeF t_f p1 t_past_93 t_pastF_93 t_pastMany_93 = some o → va_P (dC, dI) vwCl [(a_t, .inr (15, [.ref a_t_s, .ref a_t_f, .ref a_t_before, .ref a_t_beforeF, .ref a_t_aside, .ref a_t_asideF, .ref a_t_saved, .ref a_t_savedF, .int t_isSaved, .ref a_t_past, .ref a_t_pastF, .int t_pastMany_93, .int t_boiled, .int t_thrown, .ref a_t_refused, .ref a_t_text, .int t_length, .int t_error, .ref a_t_signs, .ref a_t_numbers, .int t_tokens, .int t_spoons, .int t_mostSpoons, .ref a_t_row, .ref a_t_isBrothOn, .ref a_t_dramsOn, .ref a_t_brothOn, .int t_cause, .int t_causeDetail, .ref a_t_lowOn, .ref a_t_highOn, .ref a_t_lowStored, .ref a_t_highStored, .ref a_t_isBrothStored, .int t_storeMany, .ref a_t_step, .ref a_t_stepF, .ref a_t_line, .int t_lineMany])), (a_t_past, .inl (cT 0, 1692, .inl t_past_93)), (a_t_pastF, .inl (cT 4, 36, .inr (.inr (.inl t_pastF_93)))), (a_t_before, .inl (cT 0, 282, .inl t_before)), (a_t_s, .inl (cT 0, 282, .inl t_s)), (a_t_beforeF, .inl (cT 4, 6, .inr (.inr (.inl t_beforeF)))), (a_t_f, .inl (cT 4, 6, .inr (.inr (.inl t_f))))] H → va_D A [(a_t, .inr (15, [.ref a_t_s, .ref a_t_f, .ref a_t_before, .ref a_t_beforeF, .ref a_t_aside, .ref a_t_asideF, .ref a_t_saved, .ref a_t_savedF, .int t_isSaved, .ref a_t_past, .ref a_t_pastF, .int t_pastMany_93, .int t_boiled, .int t_thrown, .ref a_t_refused, .ref a_t_text, .int t_length, .int t_error, .ref a_t_signs, .ref a_t_numbers, .int t_tokens, .int t_spoons, .int t_mostSpoons, .ref a_t_row, .ref a_t_isBrothOn, .ref a_t_dramsOn, .ref a_t_brothOn, .int t_cause, .int t_causeDetail, .ref a_t_lowOn, .ref a_t_highOn, .ref a_t_lowStored, .ref a_t_highStored, .ref a_t_isBrothStored, .int t_storeMany, .ref a_t_step, .ref a_t_stepF, .ref a_t_line, .int t_lineMany])), (a_t_past, .inl (cT 0, 1692, .inl t_past_93)), (a_t_pastF, .inl (cT 4, 36, .inr (.inr (.inl t_pastF_93)))), (a_t_before, .inl (cT 0, 282, .inl t_before)), (a_t_s, .inl (cT 0, 282, .inl t_s)), (a_t_beforeF, .inl (cT 4, 6, .inr (.inr (.inl t_beforeF)))), (a_t_f, .inl (cT 4, 6, .inr (.inr (.inl t_f))))] → va_S A s.heap H locs → lv_has ls 2 [(0, .ref a_t), (1, .int p1)] → W p l e ({ frames := 1, cells := 0, slots := 0, locals := 40 } : Room) s m [.ref a_t, .int p1].toArray below meth c H locs 0 0 Q (F0 m 93 ls []) := by
    intro t_past_93 t_pastF_93 t_pastMany_93 H locs ls h hP hD hS hl
    unfold g_X12_ends_b93 at h
    refine lv_aload_n hx hb dX12_ends_93 rfl (lv_at hl 0 rfl) ?_
    refine va_get (D := (dC, dI)) (ci := 15) (v := .ref a_t_before) (C := RX12) (T := TX12) (N := 39) hx hb hta inX12w hown hK hP 0 rfl rfl 2 (by decide) (hta _ lk_X12_17) (fun _ h9 => h9) rfl dX12_ends_94 ?_
    refine lv_iconst (v := 0) hx hb dX12_ends_97 (by decide) ?_
    refine lv_aload_n hx hb dX12_ends_98 rfl (lv_at hl 0 rfl) ?_
    refine va_get (D := (dC, dI)) (ci := 15) (v := .ref a_t_past) (C := RX12) (T := TX12) (N := 39) hx hb hta inX12w hown hK hP 0 rfl rfl 9 (by decide) (hta _ lk_X12_35) (fun _ h9 => h9) rfl dX12_ends_99 ?_
    refine lv_sipush (v := 282) hx hb dX12_ends_102 (by decide) ?_
    refine lv_aload_n hx hb dX12_ends_105 rfl (lv_at hl 0 rfl) ?_
    refine va_get (D := (dC, dI)) (ci := 15) (v := .int t_pastMany_93) (C := RX12) (T := TX12) (N := 39) hx hb hta inX12w hown hK hP 0 rfl rfl 11 (by decide) (hta _ lk_X12_105) (fun _ h9 => h9) rfl dX12_ends_106 ?_
    refine lv_imul hx hb dX12_ends_109 ?_
    refine lv_sipush (v := 282) hx hb dX12_ends_110 (by decide) ?_
    obtain ⟨hc, h⟩ := gc_some h
    obtain ⟨k1, k2, k3, k4, k5⟩ := cpok_ok hc
    refine va_copyi hx hb (hml.trans hl.1.symm) hown (hta _ lm_X12_99) (hta _ cp_n) (hta _ cp_s) (hta _ cp_i) hK hP hD hS 3 1 0 0 rfl rfl rfl rfl rfl k1 k2 k3 k4 k5 (fun _ _ => rfl) (Nat.le_of_ble_eq_true rfl) (Nat.le_of_ble_eq_true rfl) dX12_ends_113 (fun H locs hP hD hS => ?_)
    have hP : va_P (dC, dI) vwCl [(a_t, .inr (15, [.ref a_t_s, .ref a_t_f, .ref a_t_before, .ref a_t_beforeF, .ref a_t_aside, .ref a_t_asideF, .ref a_t_saved, .ref a_t_savedF, .int t_isSaved, .ref a_t_past, .ref a_t_pastF, .int t_pastMany_93, .int t_boiled, .int t_thrown, .ref a_t_refused, .ref a_t_text, .int t_length, .int t_error, .ref a_t_signs, .ref a_t_numbers, .int t_tokens, .int t_spoons, .int t_mostSpoons, .ref a_t_row, .ref a_t_isBrothOn, .ref a_t_dramsOn, .ref a_t_brothOn, .int t_cause, .int t_causeDetail, .ref a_t_lowOn, .ref a_t_highOn, .ref a_t_lowStored, .ref a_t_highStored, .ref a_t_isBrothStored, .int t_storeMany, .ref a_t_step, .ref a_t_stepF, .ref a_t_line, .int t_lineMany])), (a_t_past, .inl (cT 0, 1692, .inl (va_cpy t_before t_past_93 (0 : Int32).toNatClampNeg (282 * t_pastMany_93).toNatClampNeg (282 : Int32).toNatClampNeg))), (a_t_pastF, .inl (cT 4, 36, .inr (.inr (.inl t_pastF_93)))), (a_t_before, .inl (cT 0, 282, .inl t_before)), (a_t_s, .inl (cT 0, 282, .inl t_s)), (a_t_beforeF, .inl (cT 4, 6, .inr (.inr (.inl t_beforeF)))), (a_t_f, .inl (cT 4, 6, .inr (.inr (.inl t_f))))] H := hP
    have hD : va_D A [(a_t, .inr (15, [.ref a_t_s, .ref a_t_f, .ref a_t_before, .ref a_t_beforeF, .ref a_t_aside, .ref a_t_asideF, .ref a_t_saved, .ref a_t_savedF, .int t_isSaved, .ref a_t_past, .ref a_t_pastF, .int t_pastMany_93, .int t_boiled, .int t_thrown, .ref a_t_refused, .ref a_t_text, .int t_length, .int t_error, .ref a_t_signs, .ref a_t_numbers, .int t_tokens, .int t_spoons, .int t_mostSpoons, .ref a_t_row, .ref a_t_isBrothOn, .ref a_t_dramsOn, .ref a_t_brothOn, .int t_cause, .int t_causeDetail, .ref a_t_lowOn, .ref a_t_highOn, .ref a_t_lowStored, .ref a_t_highStored, .ref a_t_isBrothStored, .int t_storeMany, .ref a_t_step, .ref a_t_stepF, .ref a_t_line, .int t_lineMany])), (a_t_past, .inl (cT 0, 1692, .inl (va_cpy t_before t_past_93 (0 : Int32).toNatClampNeg (282 * t_pastMany_93).toNatClampNeg (282 : Int32).toNatClampNeg))), (a_t_pastF, .inl (cT 4, 36, .inr (.inr (.inl t_pastF_93)))), (a_t_before, .inl (cT 0, 282, .inl t_before)), (a_t_s, .inl (cT 0, 282, .inl t_s)), (a_t_beforeF, .inl (cT 4, 6, .inr (.inr (.inl t_beforeF)))), (a_t_f, .inl (cT 4, 6, .inr (.inr (.inl t_f))))] := hD
    refine lv_aload_n hx hb dX12_ends_116 rfl (lv_at hl 0 rfl) ?_
    refine va_get (D := (dC, dI)) (ci := 15) (v := .ref a_t_beforeF) (C := RX12) (T := TX12) (N := 39) hx hb hta inX12w hown hK hP 0 rfl rfl 3 (by decide) (hta _ lk_X12_20) (fun _ h9 => h9) rfl dX12_ends_117 ?_
    refine lv_iconst (v := 0) hx hb dX12_ends_120 (by decide) ?_
    refine lv_aload_n hx hb dX12_ends_121 rfl (lv_at hl 0 rfl) ?_
    refine va_get (D := (dC, dI)) (ci := 15) (v := .ref a_t_pastF) (C := RX12) (T := TX12) (N := 39) hx hb hta inX12w hown hK hP 0 rfl rfl 10 (by decide) (hta _ lk_X12_38) (fun _ h9 => h9) rfl dX12_ends_122 ?_
    refine lv_bipush (v := 6) hx hb dX12_ends_125 (by decide) ?_
    refine lv_aload_n hx hb dX12_ends_127 rfl (lv_at hl 0 rfl) ?_
    refine va_get (D := (dC, dI)) (ci := 15) (v := .int t_pastMany_93) (C := RX12) (T := TX12) (N := 39) hx hb hta inX12w hown hK hP 0 rfl rfl 11 (by decide) (hta _ lk_X12_105) (fun _ h9 => h9) rfl dX12_ends_128 ?_
    refine lv_imul hx hb dX12_ends_131 ?_
    refine lv_bipush (v := 6) hx hb dX12_ends_132 (by decide) ?_
    obtain ⟨hc, h⟩ := gc_some h
    obtain ⟨k1, k2, k3, k4, k5⟩ := cpok_ok hc
    refine va_copyf hx hb (hml.trans hl.1.symm) hown (hta _ lm_X12_99) (hta _ cp_n) (hta _ cp_s) (hta _ cp_i) hK hP hD hS 5 2 4 4 rfl rfl rfl rfl rfl k1 k2 k3 k4 k5 (fun _ _ => rfl) (Nat.le_of_ble_eq_true rfl) (Nat.le_of_ble_eq_true rfl) dX12_ends_134 (fun H locs hP hD hS => ?_)
    have hP : va_P (dC, dI) vwCl [(a_t, .inr (15, [.ref a_t_s, .ref a_t_f, .ref a_t_before, .ref a_t_beforeF, .ref a_t_aside, .ref a_t_asideF, .ref a_t_saved, .ref a_t_savedF, .int t_isSaved, .ref a_t_past, .ref a_t_pastF, .int t_pastMany_93, .int t_boiled, .int t_thrown, .ref a_t_refused, .ref a_t_text, .int t_length, .int t_error, .ref a_t_signs, .ref a_t_numbers, .int t_tokens, .int t_spoons, .int t_mostSpoons, .ref a_t_row, .ref a_t_isBrothOn, .ref a_t_dramsOn, .ref a_t_brothOn, .int t_cause, .int t_causeDetail, .ref a_t_lowOn, .ref a_t_highOn, .ref a_t_lowStored, .ref a_t_highStored, .ref a_t_isBrothStored, .int t_storeMany, .ref a_t_step, .ref a_t_stepF, .ref a_t_line, .int t_lineMany])), (a_t_past, .inl (cT 0, 1692, .inl (va_cpy t_before t_past_93 (0 : Int32).toNatClampNeg (282 * t_pastMany_93).toNatClampNeg (282 : Int32).toNatClampNeg))), (a_t_pastF, .inl (cT 4, 36, .inr (.inr (.inl (va_cpy t_beforeF t_pastF_93 (0 : Int32).toNatClampNeg (6 * t_pastMany_93).toNatClampNeg (6 : Int32).toNatClampNeg))))), (a_t_before, .inl (cT 0, 282, .inl t_before)), (a_t_s, .inl (cT 0, 282, .inl t_s)), (a_t_beforeF, .inl (cT 4, 6, .inr (.inr (.inl t_beforeF)))), (a_t_f, .inl (cT 4, 6, .inr (.inr (.inl t_f))))] H := hP
    have hD : va_D A [(a_t, .inr (15, [.ref a_t_s, .ref a_t_f, .ref a_t_before, .ref a_t_beforeF, .ref a_t_aside, .ref a_t_asideF, .ref a_t_saved, .ref a_t_savedF, .int t_isSaved, .ref a_t_past, .ref a_t_pastF, .int t_pastMany_93, .int t_boiled, .int t_thrown, .ref a_t_refused, .ref a_t_text, .int t_length, .int t_error, .ref a_t_signs, .ref a_t_numbers, .int t_tokens, .int t_spoons, .int t_mostSpoons, .ref a_t_row, .ref a_t_isBrothOn, .ref a_t_dramsOn, .ref a_t_brothOn, .int t_cause, .int t_causeDetail, .ref a_t_lowOn, .ref a_t_highOn, .ref a_t_lowStored, .ref a_t_highStored, .ref a_t_isBrothStored, .int t_storeMany, .ref a_t_step, .ref a_t_stepF, .ref a_t_line, .int t_lineMany])), (a_t_past, .inl (cT 0, 1692, .inl (va_cpy t_before t_past_93 (0 : Int32).toNatClampNeg (282 * t_pastMany_93).toNatClampNeg (282 : Int32).toNatClampNeg))), (a_t_pastF, .inl (cT 4, 36, .inr (.inr (.inl (va_cpy t_beforeF t_pastF_93 (0 : Int32).toNatClampNeg (6 * t_pastMany_93).toNatClampNeg (6 : Int32).toNatClampNeg))))), (a_t_before, .inl (cT 0, 282, .inl t_before)), (a_t_s, .inl (cT 0, 282, .inl t_s)), (a_t_beforeF, .inl (cT 4, 6, .inr (.inr (.inl t_beforeF)))), (a_t_f, .inl (cT 4, 6, .inr (.inr (.inl t_f))))] := hD
    refine lv_aload_n hx hb dX12_ends_137 rfl (lv_at hl 0 rfl) ?_
    refine lv_dup hx hb dX12_ends_138 rfl ?_
    refine va_get (D := (dC, dI)) (ci := 15) (v := .int t_pastMany_93) (C := RX12) (T := TX12) (N := 39) hx hb hta inX12w hown hK hP 0 rfl rfl 11 (by decide) (hta _ lk_X12_105) (fun _ h9 => h9) rfl dX12_ends_139 ?_
    refine lv_iconst (v := 1) hx hb dX12_ends_142 (by decide) ?_
    refine lv_iadd hx hb dX12_ends_143 ?_
    refine lv_topi (fun v2 e_v2 => ?_)
    have h := gl_use e_v2 h
    refine va_put (D := (dC, dI)) (ci := 15) (v := .int v2) (ty := .int) (C := RX12) (T := TX12) (N := 39) hx hb hta inX12w tyX12 tyX12_ok nmX12 hown hK hP hD hS 0 rfl rfl 11 (by decide) (hta _ lk_X12_105) (fun _ h9 => h9) rfl (by decide +kernel) rfl rfl (Nat.le_of_ble_eq_true rfl) dX12_ends_144 (fun H locs hP hD hS => ?_)
    have hP : va_P (dC, dI) vwCl [(a_t, .inr (15, [.ref a_t_s, .ref a_t_f, .ref a_t_before, .ref a_t_beforeF, .ref a_t_aside, .ref a_t_asideF, .ref a_t_saved, .ref a_t_savedF, .int t_isSaved, .ref a_t_past, .ref a_t_pastF, .int v2, .int t_boiled, .int t_thrown, .ref a_t_refused, .ref a_t_text, .int t_length, .int t_error, .ref a_t_signs, .ref a_t_numbers, .int t_tokens, .int t_spoons, .int t_mostSpoons, .ref a_t_row, .ref a_t_isBrothOn, .ref a_t_dramsOn, .ref a_t_brothOn, .int t_cause, .int t_causeDetail, .ref a_t_lowOn, .ref a_t_highOn, .ref a_t_lowStored, .ref a_t_highStored, .ref a_t_isBrothStored, .int t_storeMany, .ref a_t_step, .ref a_t_stepF, .ref a_t_line, .int t_lineMany])), (a_t_past, .inl (cT 0, 1692, .inl (va_cpy t_before t_past_93 (0 : Int32).toNatClampNeg (282 * t_pastMany_93).toNatClampNeg (282 : Int32).toNatClampNeg))), (a_t_pastF, .inl (cT 4, 36, .inr (.inr (.inl (va_cpy t_beforeF t_pastF_93 (0 : Int32).toNatClampNeg (6 * t_pastMany_93).toNatClampNeg (6 : Int32).toNatClampNeg))))), (a_t_before, .inl (cT 0, 282, .inl t_before)), (a_t_s, .inl (cT 0, 282, .inl t_s)), (a_t_beforeF, .inl (cT 4, 6, .inr (.inr (.inl t_beforeF)))), (a_t_f, .inl (cT 4, 6, .inr (.inr (.inl t_f))))] H := hP
    have hD : va_D A [(a_t, .inr (15, [.ref a_t_s, .ref a_t_f, .ref a_t_before, .ref a_t_beforeF, .ref a_t_aside, .ref a_t_asideF, .ref a_t_saved, .ref a_t_savedF, .int t_isSaved, .ref a_t_past, .ref a_t_pastF, .int v2, .int t_boiled, .int t_thrown, .ref a_t_refused, .ref a_t_text, .int t_length, .int t_error, .ref a_t_signs, .ref a_t_numbers, .int t_tokens, .int t_spoons, .int t_mostSpoons, .ref a_t_row, .ref a_t_isBrothOn, .ref a_t_dramsOn, .ref a_t_brothOn, .int t_cause, .int t_causeDetail, .ref a_t_lowOn, .ref a_t_highOn, .ref a_t_lowStored, .ref a_t_highStored, .ref a_t_isBrothStored, .int t_storeMany, .ref a_t_step, .ref a_t_stepF, .ref a_t_line, .int t_lineMany])), (a_t_past, .inl (cT 0, 1692, .inl (va_cpy t_before t_past_93 (0 : Int32).toNatClampNeg (282 * t_pastMany_93).toNatClampNeg (282 : Int32).toNatClampNeg))), (a_t_pastF, .inl (cT 4, 36, .inr (.inr (.inl (va_cpy t_beforeF t_pastF_93 (0 : Int32).toNatClampNeg (6 * t_pastMany_93).toNatClampNeg (6 : Int32).toNatClampNeg))))), (a_t_before, .inl (cT 0, 282, .inl t_before)), (a_t_s, .inl (cT 0, 282, .inl t_s)), (a_t_beforeF, .inl (cT 4, 6, .inr (.inr (.inl t_beforeF)))), (a_t_f, .inl (cT 4, 6, .inr (.inr (.inl t_f))))] := hD
    refine lv_iload_n hx hb dX12_ends_147 rfl (lv_at hl 1 rfl) ?_
    have ho := Option.some.inj h
    rw [hQ]
    exact W.iret (v := p1) hx hb hr (fun t ht hW => ⟨⟨p1, (), rfl, by rw [← ho], by show va_P (dC, dI) vwCl _ t.heap; rw [ht, ← ho]; exact hP⟩, hS.F ht⟩) hS.2.2 dX12_ends_148
  unfold g_X12_ends at h
  refine lv_aload_n hx hb dX12_ends_0 rfl (lv_at hl 0 rfl) ?_
  refine va_get (D := (dC, dI)) (ci := 15) (v := .int t_thrown) (C := RX12) (T := TX12) (N := 39) hx hb hta inX12w hown hK hP 0 rfl rfl 13 (by decide) (hta _ lk_X12_96) (fun _ h9 => h9) rfl dX12_ends_1 ?_
  refine lv_if_le (tgt := 40) hx hb dX12_ends_4 (by decide) (fun c0 => ?_) (fun c0 => ?_)
  · have h := (if_pos c0).symm.trans h
    refine lv_aload_n hx hb dX12_ends_40 rfl (lv_at hl 0 rfl) ?_
    refine va_get (D := (dC, dI)) (ci := 15) (v := .int t_pastMany) (C := RX12) (T := TX12) (N := 39) hx hb hta inX12w hown hK hP 0 rfl rfl 11 (by decide) (hta _ lk_X12_105) (fun _ h9 => h9) rfl dX12_ends_41 ?_
    refine lv_bipush (v := 6) hx hb dX12_ends_44 (by decide) ?_
    refine lv_icmp_ne (tgt := 93) hx hb dX12_ends_46 (by decide) (fun c0 => ?_) (fun c0 => ?_)
    · have h := (if_neg c0).symm.trans h
      exact wB_93 t_past t_pastF t_pastMany _ _ _ h hP hD hS (lv_sub hl [0, 1] rfl)
    · have h := (if_pos c0).symm.trans h
      refine lv_aload_n hx hb dX12_ends_49 rfl (lv_at hl 0 rfl) ?_
      refine va_get (D := (dC, dI)) (ci := 15) (v := .ref a_t_past) (C := RX12) (T := TX12) (N := 39) hx hb hta inX12w hown hK hP 0 rfl rfl 9 (by decide) (hta _ lk_X12_35) (fun _ h9 => h9) rfl dX12_ends_50 ?_
      refine lv_sipush (v := 282) hx hb dX12_ends_53 (by decide) ?_
      refine lv_aload_n hx hb dX12_ends_56 rfl (lv_at hl 0 rfl) ?_
      refine va_get (D := (dC, dI)) (ci := 15) (v := .ref a_t_past) (C := RX12) (T := TX12) (N := 39) hx hb hta inX12w hown hK hP 0 rfl rfl 9 (by decide) (hta _ lk_X12_35) (fun _ h9 => h9) rfl dX12_ends_57 ?_
      refine lv_iconst (v := 0) hx hb dX12_ends_60 (by decide) ?_
      refine lv_sipush (v := 1410) hx hb dX12_ends_61 (by decide) ?_
      obtain ⟨hc, h⟩ := gc_some h
      obtain ⟨k1, k2, k3, k4, k5⟩ := cpok_ok hc
      refine va_copyi hx hb (hml.trans hl.1.symm) hown (hta _ lm_X12_99) (hta _ cp_n) (hta _ cp_s) (hta _ cp_i) hK hP hD hS 1 1 0 0 rfl rfl rfl rfl rfl k1 k2 k3 k4 k5 (fun _ _ => rfl) (Nat.le_of_ble_eq_true rfl) (Nat.le_of_ble_eq_true rfl) dX12_ends_64 (fun H locs hP hD hS => ?_)
      have hP : va_P (dC, dI) vwCl [(a_t, .inr (15, [.ref a_t_s, .ref a_t_f, .ref a_t_before, .ref a_t_beforeF, .ref a_t_aside, .ref a_t_asideF, .ref a_t_saved, .ref a_t_savedF, .int t_isSaved, .ref a_t_past, .ref a_t_pastF, .int t_pastMany, .int t_boiled, .int t_thrown, .ref a_t_refused, .ref a_t_text, .int t_length, .int t_error, .ref a_t_signs, .ref a_t_numbers, .int t_tokens, .int t_spoons, .int t_mostSpoons, .ref a_t_row, .ref a_t_isBrothOn, .ref a_t_dramsOn, .ref a_t_brothOn, .int t_cause, .int t_causeDetail, .ref a_t_lowOn, .ref a_t_highOn, .ref a_t_lowStored, .ref a_t_highStored, .ref a_t_isBrothStored, .int t_storeMany, .ref a_t_step, .ref a_t_stepF, .ref a_t_line, .int t_lineMany])), (a_t_past, .inl (cT 0, 1692, .inl (va_cpy t_past t_past (282 : Int32).toNatClampNeg (0 : Int32).toNatClampNeg (1410 : Int32).toNatClampNeg))), (a_t_pastF, .inl (cT 4, 36, .inr (.inr (.inl t_pastF)))), (a_t_before, .inl (cT 0, 282, .inl t_before)), (a_t_s, .inl (cT 0, 282, .inl t_s)), (a_t_beforeF, .inl (cT 4, 6, .inr (.inr (.inl t_beforeF)))), (a_t_f, .inl (cT 4, 6, .inr (.inr (.inl t_f))))] H := hP
      have hD : va_D A [(a_t, .inr (15, [.ref a_t_s, .ref a_t_f, .ref a_t_before, .ref a_t_beforeF, .ref a_t_aside, .ref a_t_asideF, .ref a_t_saved, .ref a_t_savedF, .int t_isSaved, .ref a_t_past, .ref a_t_pastF, .int t_pastMany, .int t_boiled, .int t_thrown, .ref a_t_refused, .ref a_t_text, .int t_length, .int t_error, .ref a_t_signs, .ref a_t_numbers, .int t_tokens, .int t_spoons, .int t_mostSpoons, .ref a_t_row, .ref a_t_isBrothOn, .ref a_t_dramsOn, .ref a_t_brothOn, .int t_cause, .int t_causeDetail, .ref a_t_lowOn, .ref a_t_highOn, .ref a_t_lowStored, .ref a_t_highStored, .ref a_t_isBrothStored, .int t_storeMany, .ref a_t_step, .ref a_t_stepF, .ref a_t_line, .int t_lineMany])), (a_t_past, .inl (cT 0, 1692, .inl (va_cpy t_past t_past (282 : Int32).toNatClampNeg (0 : Int32).toNatClampNeg (1410 : Int32).toNatClampNeg))), (a_t_pastF, .inl (cT 4, 36, .inr (.inr (.inl t_pastF)))), (a_t_before, .inl (cT 0, 282, .inl t_before)), (a_t_s, .inl (cT 0, 282, .inl t_s)), (a_t_beforeF, .inl (cT 4, 6, .inr (.inr (.inl t_beforeF)))), (a_t_f, .inl (cT 4, 6, .inr (.inr (.inl t_f))))] := hD
      refine lv_aload_n hx hb dX12_ends_67 rfl (lv_at hl 0 rfl) ?_
      refine va_get (D := (dC, dI)) (ci := 15) (v := .ref a_t_pastF) (C := RX12) (T := TX12) (N := 39) hx hb hta inX12w hown hK hP 0 rfl rfl 10 (by decide) (hta _ lk_X12_38) (fun _ h9 => h9) rfl dX12_ends_68 ?_
      refine lv_bipush (v := 6) hx hb dX12_ends_71 (by decide) ?_
      refine lv_aload_n hx hb dX12_ends_73 rfl (lv_at hl 0 rfl) ?_
      refine va_get (D := (dC, dI)) (ci := 15) (v := .ref a_t_pastF) (C := RX12) (T := TX12) (N := 39) hx hb hta inX12w hown hK hP 0 rfl rfl 10 (by decide) (hta _ lk_X12_38) (fun _ h9 => h9) rfl dX12_ends_74 ?_
      refine lv_iconst (v := 0) hx hb dX12_ends_77 (by decide) ?_
      refine lv_bipush (v := 30) hx hb dX12_ends_78 (by decide) ?_
      obtain ⟨hc, h⟩ := gc_some h
      obtain ⟨k1, k2, k3, k4, k5⟩ := cpok_ok hc
      refine va_copyf hx hb (hml.trans hl.1.symm) hown (hta _ lm_X12_99) (hta _ cp_n) (hta _ cp_s) (hta _ cp_i) hK hP hD hS 2 2 4 4 rfl rfl rfl rfl rfl k1 k2 k3 k4 k5 (fun _ _ => rfl) (Nat.le_of_ble_eq_true rfl) (Nat.le_of_ble_eq_true rfl) dX12_ends_80 (fun H locs hP hD hS => ?_)
      have hP : va_P (dC, dI) vwCl [(a_t, .inr (15, [.ref a_t_s, .ref a_t_f, .ref a_t_before, .ref a_t_beforeF, .ref a_t_aside, .ref a_t_asideF, .ref a_t_saved, .ref a_t_savedF, .int t_isSaved, .ref a_t_past, .ref a_t_pastF, .int t_pastMany, .int t_boiled, .int t_thrown, .ref a_t_refused, .ref a_t_text, .int t_length, .int t_error, .ref a_t_signs, .ref a_t_numbers, .int t_tokens, .int t_spoons, .int t_mostSpoons, .ref a_t_row, .ref a_t_isBrothOn, .ref a_t_dramsOn, .ref a_t_brothOn, .int t_cause, .int t_causeDetail, .ref a_t_lowOn, .ref a_t_highOn, .ref a_t_lowStored, .ref a_t_highStored, .ref a_t_isBrothStored, .int t_storeMany, .ref a_t_step, .ref a_t_stepF, .ref a_t_line, .int t_lineMany])), (a_t_past, .inl (cT 0, 1692, .inl (va_cpy t_past t_past (282 : Int32).toNatClampNeg (0 : Int32).toNatClampNeg (1410 : Int32).toNatClampNeg))), (a_t_pastF, .inl (cT 4, 36, .inr (.inr (.inl (va_cpy t_pastF t_pastF (6 : Int32).toNatClampNeg (0 : Int32).toNatClampNeg (30 : Int32).toNatClampNeg))))), (a_t_before, .inl (cT 0, 282, .inl t_before)), (a_t_s, .inl (cT 0, 282, .inl t_s)), (a_t_beforeF, .inl (cT 4, 6, .inr (.inr (.inl t_beforeF)))), (a_t_f, .inl (cT 4, 6, .inr (.inr (.inl t_f))))] H := hP
      have hD : va_D A [(a_t, .inr (15, [.ref a_t_s, .ref a_t_f, .ref a_t_before, .ref a_t_beforeF, .ref a_t_aside, .ref a_t_asideF, .ref a_t_saved, .ref a_t_savedF, .int t_isSaved, .ref a_t_past, .ref a_t_pastF, .int t_pastMany, .int t_boiled, .int t_thrown, .ref a_t_refused, .ref a_t_text, .int t_length, .int t_error, .ref a_t_signs, .ref a_t_numbers, .int t_tokens, .int t_spoons, .int t_mostSpoons, .ref a_t_row, .ref a_t_isBrothOn, .ref a_t_dramsOn, .ref a_t_brothOn, .int t_cause, .int t_causeDetail, .ref a_t_lowOn, .ref a_t_highOn, .ref a_t_lowStored, .ref a_t_highStored, .ref a_t_isBrothStored, .int t_storeMany, .ref a_t_step, .ref a_t_stepF, .ref a_t_line, .int t_lineMany])), (a_t_past, .inl (cT 0, 1692, .inl (va_cpy t_past t_past (282 : Int32).toNatClampNeg (0 : Int32).toNatClampNeg (1410 : Int32).toNatClampNeg))), (a_t_pastF, .inl (cT 4, 36, .inr (.inr (.inl (va_cpy t_pastF t_pastF (6 : Int32).toNatClampNeg (0 : Int32).toNatClampNeg (30 : Int32).toNatClampNeg))))), (a_t_before, .inl (cT 0, 282, .inl t_before)), (a_t_s, .inl (cT 0, 282, .inl t_s)), (a_t_beforeF, .inl (cT 4, 6, .inr (.inr (.inl t_beforeF)))), (a_t_f, .inl (cT 4, 6, .inr (.inr (.inl t_f))))] := hD
      refine lv_aload_n hx hb dX12_ends_83 rfl (lv_at hl 0 rfl) ?_
      refine lv_dup hx hb dX12_ends_84 rfl ?_
      refine va_get (D := (dC, dI)) (ci := 15) (v := .int t_pastMany) (C := RX12) (T := TX12) (N := 39) hx hb hta inX12w hown hK hP 0 rfl rfl 11 (by decide) (hta _ lk_X12_105) (fun _ h9 => h9) rfl dX12_ends_85 ?_
      refine lv_iconst (v := 1) hx hb dX12_ends_88 (by decide) ?_
      refine lv_isub hx hb dX12_ends_89 ?_
      refine lv_topi (fun v1 e_v1 => ?_)
      have h := gl_use e_v1 h
      refine va_put (D := (dC, dI)) (ci := 15) (v := .int v1) (ty := .int) (C := RX12) (T := TX12) (N := 39) hx hb hta inX12w tyX12 tyX12_ok nmX12 hown hK hP hD hS 0 rfl rfl 11 (by decide) (hta _ lk_X12_105) (fun _ h9 => h9) rfl (by decide +kernel) rfl rfl (Nat.le_of_ble_eq_true rfl) dX12_ends_90 (fun H locs hP hD hS => ?_)
      have hP : va_P (dC, dI) vwCl [(a_t, .inr (15, [.ref a_t_s, .ref a_t_f, .ref a_t_before, .ref a_t_beforeF, .ref a_t_aside, .ref a_t_asideF, .ref a_t_saved, .ref a_t_savedF, .int t_isSaved, .ref a_t_past, .ref a_t_pastF, .int v1, .int t_boiled, .int t_thrown, .ref a_t_refused, .ref a_t_text, .int t_length, .int t_error, .ref a_t_signs, .ref a_t_numbers, .int t_tokens, .int t_spoons, .int t_mostSpoons, .ref a_t_row, .ref a_t_isBrothOn, .ref a_t_dramsOn, .ref a_t_brothOn, .int t_cause, .int t_causeDetail, .ref a_t_lowOn, .ref a_t_highOn, .ref a_t_lowStored, .ref a_t_highStored, .ref a_t_isBrothStored, .int t_storeMany, .ref a_t_step, .ref a_t_stepF, .ref a_t_line, .int t_lineMany])), (a_t_past, .inl (cT 0, 1692, .inl (va_cpy t_past t_past (282 : Int32).toNatClampNeg (0 : Int32).toNatClampNeg (1410 : Int32).toNatClampNeg))), (a_t_pastF, .inl (cT 4, 36, .inr (.inr (.inl (va_cpy t_pastF t_pastF (6 : Int32).toNatClampNeg (0 : Int32).toNatClampNeg (30 : Int32).toNatClampNeg))))), (a_t_before, .inl (cT 0, 282, .inl t_before)), (a_t_s, .inl (cT 0, 282, .inl t_s)), (a_t_beforeF, .inl (cT 4, 6, .inr (.inr (.inl t_beforeF)))), (a_t_f, .inl (cT 4, 6, .inr (.inr (.inl t_f))))] H := hP
      have hD : va_D A [(a_t, .inr (15, [.ref a_t_s, .ref a_t_f, .ref a_t_before, .ref a_t_beforeF, .ref a_t_aside, .ref a_t_asideF, .ref a_t_saved, .ref a_t_savedF, .int t_isSaved, .ref a_t_past, .ref a_t_pastF, .int v1, .int t_boiled, .int t_thrown, .ref a_t_refused, .ref a_t_text, .int t_length, .int t_error, .ref a_t_signs, .ref a_t_numbers, .int t_tokens, .int t_spoons, .int t_mostSpoons, .ref a_t_row, .ref a_t_isBrothOn, .ref a_t_dramsOn, .ref a_t_brothOn, .int t_cause, .int t_causeDetail, .ref a_t_lowOn, .ref a_t_highOn, .ref a_t_lowStored, .ref a_t_highStored, .ref a_t_isBrothStored, .int t_storeMany, .ref a_t_step, .ref a_t_stepF, .ref a_t_line, .int t_lineMany])), (a_t_past, .inl (cT 0, 1692, .inl (va_cpy t_past t_past (282 : Int32).toNatClampNeg (0 : Int32).toNatClampNeg (1410 : Int32).toNatClampNeg))), (a_t_pastF, .inl (cT 4, 36, .inr (.inr (.inl (va_cpy t_pastF t_pastF (6 : Int32).toNatClampNeg (0 : Int32).toNatClampNeg (30 : Int32).toNatClampNeg))))), (a_t_before, .inl (cT 0, 282, .inl t_before)), (a_t_s, .inl (cT 0, 282, .inl t_s)), (a_t_beforeF, .inl (cT 4, 6, .inr (.inr (.inl t_beforeF)))), (a_t_f, .inl (cT 4, 6, .inr (.inr (.inl t_f))))] := hD
      exact wB_93 (va_cpy t_past t_past (282 : Int32).toNatClampNeg (0 : Int32).toNatClampNeg (1410 : Int32).toNatClampNeg) (va_cpy t_pastF t_pastF (6 : Int32).toNatClampNeg (0 : Int32).toNatClampNeg (30 : Int32).toNatClampNeg) v1 _ _ _ h hP hD hS (lv_sub hl [0, 1] rfl)
  · have h := (if_neg c0).symm.trans h
    refine lv_aload_n hx hb dX12_ends_7 rfl (lv_at hl 0 rfl) ?_
    refine va_get (D := (dC, dI)) (ci := 15) (v := .ref a_t_before) (C := RX12) (T := TX12) (N := 39) hx hb hta inX12w hown hK hP 0 rfl rfl 2 (by decide) (hta _ lk_X12_17) (fun _ h9 => h9) rfl dX12_ends_8 ?_
    refine lv_iconst (v := 0) hx hb dX12_ends_11 (by decide) ?_
    refine lv_aload_n hx hb dX12_ends_12 rfl (lv_at hl 0 rfl) ?_
    refine va_get (D := (dC, dI)) (ci := 15) (v := .ref a_t_s) (C := RX12) (T := TX12) (N := 39) hx hb hta inX12w hown hK hP 0 rfl rfl 0 (by decide) (hta _ lk_X12_9) (fun _ h9 => h9) rfl dX12_ends_13 ?_
    refine lv_iconst (v := 0) hx hb dX12_ends_16 (by decide) ?_
    refine lv_sipush (v := 282) hx hb dX12_ends_17 (by decide) ?_
    obtain ⟨hc, h⟩ := gc_some h
    obtain ⟨k1, k2, k3, k4, k5⟩ := cpok_ok hc
    refine va_copyi hx hb (hml.trans hl.1.symm) hown (hta _ lm_X12_99) (hta _ cp_n) (hta _ cp_s) (hta _ cp_i) hK hP hD hS 3 4 0 0 rfl rfl rfl rfl rfl k1 k2 k3 k4 k5 (fun _ _ => rfl) (Nat.le_of_ble_eq_true rfl) (Nat.le_of_ble_eq_true rfl) dX12_ends_20 (fun H locs hP hD hS => ?_)
    have hP : va_P (dC, dI) vwCl [(a_t, .inr (15, [.ref a_t_s, .ref a_t_f, .ref a_t_before, .ref a_t_beforeF, .ref a_t_aside, .ref a_t_asideF, .ref a_t_saved, .ref a_t_savedF, .int t_isSaved, .ref a_t_past, .ref a_t_pastF, .int t_pastMany, .int t_boiled, .int t_thrown, .ref a_t_refused, .ref a_t_text, .int t_length, .int t_error, .ref a_t_signs, .ref a_t_numbers, .int t_tokens, .int t_spoons, .int t_mostSpoons, .ref a_t_row, .ref a_t_isBrothOn, .ref a_t_dramsOn, .ref a_t_brothOn, .int t_cause, .int t_causeDetail, .ref a_t_lowOn, .ref a_t_highOn, .ref a_t_lowStored, .ref a_t_highStored, .ref a_t_isBrothStored, .int t_storeMany, .ref a_t_step, .ref a_t_stepF, .ref a_t_line, .int t_lineMany])), (a_t_past, .inl (cT 0, 1692, .inl t_past)), (a_t_pastF, .inl (cT 4, 36, .inr (.inr (.inl t_pastF)))), (a_t_before, .inl (cT 0, 282, .inl t_before)), (a_t_s, .inl (cT 0, 282, .inl (va_cpy t_before t_s (0 : Int32).toNatClampNeg (0 : Int32).toNatClampNeg (282 : Int32).toNatClampNeg))), (a_t_beforeF, .inl (cT 4, 6, .inr (.inr (.inl t_beforeF)))), (a_t_f, .inl (cT 4, 6, .inr (.inr (.inl t_f))))] H := hP
    have hD : va_D A [(a_t, .inr (15, [.ref a_t_s, .ref a_t_f, .ref a_t_before, .ref a_t_beforeF, .ref a_t_aside, .ref a_t_asideF, .ref a_t_saved, .ref a_t_savedF, .int t_isSaved, .ref a_t_past, .ref a_t_pastF, .int t_pastMany, .int t_boiled, .int t_thrown, .ref a_t_refused, .ref a_t_text, .int t_length, .int t_error, .ref a_t_signs, .ref a_t_numbers, .int t_tokens, .int t_spoons, .int t_mostSpoons, .ref a_t_row, .ref a_t_isBrothOn, .ref a_t_dramsOn, .ref a_t_brothOn, .int t_cause, .int t_causeDetail, .ref a_t_lowOn, .ref a_t_highOn, .ref a_t_lowStored, .ref a_t_highStored, .ref a_t_isBrothStored, .int t_storeMany, .ref a_t_step, .ref a_t_stepF, .ref a_t_line, .int t_lineMany])), (a_t_past, .inl (cT 0, 1692, .inl t_past)), (a_t_pastF, .inl (cT 4, 36, .inr (.inr (.inl t_pastF)))), (a_t_before, .inl (cT 0, 282, .inl t_before)), (a_t_s, .inl (cT 0, 282, .inl (va_cpy t_before t_s (0 : Int32).toNatClampNeg (0 : Int32).toNatClampNeg (282 : Int32).toNatClampNeg))), (a_t_beforeF, .inl (cT 4, 6, .inr (.inr (.inl t_beforeF)))), (a_t_f, .inl (cT 4, 6, .inr (.inr (.inl t_f))))] := hD
    refine lv_aload_n hx hb dX12_ends_23 rfl (lv_at hl 0 rfl) ?_
    refine va_get (D := (dC, dI)) (ci := 15) (v := .ref a_t_beforeF) (C := RX12) (T := TX12) (N := 39) hx hb hta inX12w hown hK hP 0 rfl rfl 3 (by decide) (hta _ lk_X12_20) (fun _ h9 => h9) rfl dX12_ends_24 ?_
    refine lv_iconst (v := 0) hx hb dX12_ends_27 (by decide) ?_
    refine lv_aload_n hx hb dX12_ends_28 rfl (lv_at hl 0 rfl) ?_
    refine va_get (D := (dC, dI)) (ci := 15) (v := .ref a_t_f) (C := RX12) (T := TX12) (N := 39) hx hb hta inX12w hown hK hP 0 rfl rfl 1 (by decide) (hta _ lk_X12_13) (fun _ h9 => h9) rfl dX12_ends_29 ?_
    refine lv_iconst (v := 0) hx hb dX12_ends_32 (by decide) ?_
    refine lv_bipush (v := 6) hx hb dX12_ends_33 (by decide) ?_
    obtain ⟨hc, h⟩ := gc_some h
    obtain ⟨k1, k2, k3, k4, k5⟩ := cpok_ok hc
    refine va_copyf hx hb (hml.trans hl.1.symm) hown (hta _ lm_X12_99) (hta _ cp_n) (hta _ cp_s) (hta _ cp_i) hK hP hD hS 5 6 4 4 rfl rfl rfl rfl rfl k1 k2 k3 k4 k5 (fun _ _ => rfl) (Nat.le_of_ble_eq_true rfl) (Nat.le_of_ble_eq_true rfl) dX12_ends_35 (fun H locs hP hD hS => ?_)
    have hP : va_P (dC, dI) vwCl [(a_t, .inr (15, [.ref a_t_s, .ref a_t_f, .ref a_t_before, .ref a_t_beforeF, .ref a_t_aside, .ref a_t_asideF, .ref a_t_saved, .ref a_t_savedF, .int t_isSaved, .ref a_t_past, .ref a_t_pastF, .int t_pastMany, .int t_boiled, .int t_thrown, .ref a_t_refused, .ref a_t_text, .int t_length, .int t_error, .ref a_t_signs, .ref a_t_numbers, .int t_tokens, .int t_spoons, .int t_mostSpoons, .ref a_t_row, .ref a_t_isBrothOn, .ref a_t_dramsOn, .ref a_t_brothOn, .int t_cause, .int t_causeDetail, .ref a_t_lowOn, .ref a_t_highOn, .ref a_t_lowStored, .ref a_t_highStored, .ref a_t_isBrothStored, .int t_storeMany, .ref a_t_step, .ref a_t_stepF, .ref a_t_line, .int t_lineMany])), (a_t_past, .inl (cT 0, 1692, .inl t_past)), (a_t_pastF, .inl (cT 4, 36, .inr (.inr (.inl t_pastF)))), (a_t_before, .inl (cT 0, 282, .inl t_before)), (a_t_s, .inl (cT 0, 282, .inl (va_cpy t_before t_s (0 : Int32).toNatClampNeg (0 : Int32).toNatClampNeg (282 : Int32).toNatClampNeg))), (a_t_beforeF, .inl (cT 4, 6, .inr (.inr (.inl t_beforeF)))), (a_t_f, .inl (cT 4, 6, .inr (.inr (.inl (va_cpy t_beforeF t_f (0 : Int32).toNatClampNeg (0 : Int32).toNatClampNeg (6 : Int32).toNatClampNeg)))))] H := hP
    have hD : va_D A [(a_t, .inr (15, [.ref a_t_s, .ref a_t_f, .ref a_t_before, .ref a_t_beforeF, .ref a_t_aside, .ref a_t_asideF, .ref a_t_saved, .ref a_t_savedF, .int t_isSaved, .ref a_t_past, .ref a_t_pastF, .int t_pastMany, .int t_boiled, .int t_thrown, .ref a_t_refused, .ref a_t_text, .int t_length, .int t_error, .ref a_t_signs, .ref a_t_numbers, .int t_tokens, .int t_spoons, .int t_mostSpoons, .ref a_t_row, .ref a_t_isBrothOn, .ref a_t_dramsOn, .ref a_t_brothOn, .int t_cause, .int t_causeDetail, .ref a_t_lowOn, .ref a_t_highOn, .ref a_t_lowStored, .ref a_t_highStored, .ref a_t_isBrothStored, .int t_storeMany, .ref a_t_step, .ref a_t_stepF, .ref a_t_line, .int t_lineMany])), (a_t_past, .inl (cT 0, 1692, .inl t_past)), (a_t_pastF, .inl (cT 4, 36, .inr (.inr (.inl t_pastF)))), (a_t_before, .inl (cT 0, 282, .inl t_before)), (a_t_s, .inl (cT 0, 282, .inl (va_cpy t_before t_s (0 : Int32).toNatClampNeg (0 : Int32).toNatClampNeg (282 : Int32).toNatClampNeg))), (a_t_beforeF, .inl (cT 4, 6, .inr (.inr (.inl t_beforeF)))), (a_t_f, .inl (cT 4, 6, .inr (.inr (.inl (va_cpy t_beforeF t_f (0 : Int32).toNatClampNeg (0 : Int32).toNatClampNeg (6 : Int32).toNatClampNeg)))))] := hD
    refine lv_iconst (v := 0) hx hb dX12_ends_38 (by decide) ?_
    have ho := Option.some.inj h
    rw [hQ]
    exact W.iret (v := 0) hx hb hr (fun t ht hW => ⟨⟨0, (), rfl, by rw [← ho], by show va_P (dC, dI) vwCl _ t.heap; rw [ht, ← ho]; exact hP⟩, hS.F ht⟩) hS.2.2 dX12_ends_39
def g_X12_fails (t_thrown : Int32) (p1 : Int32) : Option (Int32 × Int32) :=
  some (0, p1)
set_option maxHeartbeats 4000000 in
set_option maxRecDepth 100000 in
theorem c_X12_fails (l : Launch) (dC : Nat → ClassId) (dI : Nat → Nat → Nat) (cT : Nat → ClassId) {Hh : Heap} {a_t : Nat} {a_t_s : Nat} {a_t_f : Nat} {a_t_before : Nat} {a_t_beforeF : Nat} {a_t_aside : Nat} {a_t_asideF : Nat} {a_t_saved : Nat} {a_t_savedF : Nat} {a_t_past : Nat} {a_t_pastF : Nat} {a_t_refused : Nat} {a_t_text : Nat} {a_t_signs : Nat} {a_t_numbers : Nat} {a_t_row : Nat} {a_t_isBrothOn : Nat} {a_t_dramsOn : Nat} {a_t_brothOn : Nat} {a_t_lowOn : Nat} {a_t_highOn : Nat} {a_t_lowStored : Nat} {a_t_highStored : Nat} {a_t_isBrothStored : Nat} {a_t_step : Nat} {a_t_stepF : Nat} {a_t_line : Nat} {t_thrown : Int32} {p1 : Int32} {t_isSaved : Int32} {t_pastMany : Int32} {t_boiled : Int32} {t_length : Int32} {t_error : Int32} {t_tokens : Int32} {t_spoons : Int32} {t_mostSpoons : Int32} {t_cause : Int32} {t_causeDetail : Int32} {t_storeMany : Int32} {t_lineMany : Int32} {o : Int32 × Int32} (h : g_X12_fails t_thrown p1 = some o) (hP0 : va_P (dC, dI) vwCl [(a_t, .inr (15, [.ref a_t_s, .ref a_t_f, .ref a_t_before, .ref a_t_beforeF, .ref a_t_aside, .ref a_t_asideF, .ref a_t_saved, .ref a_t_savedF, .int t_isSaved, .ref a_t_past, .ref a_t_pastF, .int t_pastMany, .int t_boiled, .int t_thrown, .ref a_t_refused, .ref a_t_text, .int t_length, .int t_error, .ref a_t_signs, .ref a_t_numbers, .int t_tokens, .int t_spoons, .int t_mostSpoons, .ref a_t_row, .ref a_t_isBrothOn, .ref a_t_dramsOn, .ref a_t_brothOn, .int t_cause, .int t_causeDetail, .ref a_t_lowOn, .ref a_t_highOn, .ref a_t_lowStored, .ref a_t_highStored, .ref a_t_isBrothStored, .int t_storeMany, .ref a_t_step, .ref a_t_stepF, .ref a_t_line, .int t_lineMany]))] Hh) (hD0 : va_D (fun _ => True) [(a_t, .inr (15, [.ref a_t_s, .ref a_t_f, .ref a_t_before, .ref a_t_beforeF, .ref a_t_aside, .ref a_t_asideF, .ref a_t_saved, .ref a_t_savedF, .int t_isSaved, .ref a_t_past, .ref a_t_pastF, .int t_pastMany, .int t_boiled, .int t_thrown, .ref a_t_refused, .ref a_t_text, .int t_length, .int t_error, .ref a_t_signs, .ref a_t_numbers, .int t_tokens, .int t_spoons, .int t_mostSpoons, .ref a_t_row, .ref a_t_isBrothOn, .ref a_t_dramsOn, .ref a_t_brothOn, .int t_cause, .int t_causeDetail, .ref a_t_lowOn, .ref a_t_highOn, .ref a_t_lowStored, .ref a_t_highStored, .ref a_t_isBrothStored, .int t_storeMany, .ref a_t_step, .ref a_t_stepF, .ref a_t_line, .int t_lineMany]))]) : Met l yX12_fails (wA yX12_fails cX12_fails 2 (some .int)) ({ frames := 0, cells := 0, slots := 0, locals := 0 } : Room) (PK dC dI cT [.ref a_t, .int p1] Hh) (va_Qi (fun x (_ : Unit) => x = o.1) (fun _ t => va_P (dC, dI) vwCl [(a_t, .inr (15, [.ref a_t_s, .ref a_t_f, .ref a_t_before, .ref a_t_beforeF, .ref a_t_aside, .ref a_t_asideF, .ref a_t_saved, .ref a_t_savedF, .int t_isSaved, .ref a_t_past, .ref a_t_pastF, .int t_pastMany, .int t_boiled, .int o.2, .ref a_t_refused, .ref a_t_text, .int t_length, .int t_error, .ref a_t_signs, .ref a_t_numbers, .int t_tokens, .int t_spoons, .int t_mostSpoons, .ref a_t_row, .ref a_t_isBrothOn, .ref a_t_dramsOn, .ref a_t_brothOn, .int t_cause, .int t_causeDetail, .ref a_t_lowOn, .ref a_t_highOn, .ref a_t_lowStored, .ref a_t_highStored, .ref a_t_isBrothStored, .int t_storeMany, .ref a_t_step, .ref a_t_stepF, .ref a_t_line, .int t_lineMany]))] t.heap) (va_A [(a_t, .inr (15, [.ref a_t_s, .ref a_t_f, .ref a_t_before, .ref a_t_beforeF, .ref a_t_aside, .ref a_t_asideF, .ref a_t_saved, .ref a_t_savedF, .int t_isSaved, .ref a_t_past, .ref a_t_pastF, .int t_pastMany, .int t_boiled, .int t_thrown, .ref a_t_refused, .ref a_t_text, .int t_length, .int t_error, .ref a_t_signs, .ref a_t_numbers, .int t_tokens, .int t_spoons, .int t_mostSpoons, .ref a_t_row, .ref a_t_isBrothOn, .ref a_t_dramsOn, .ref a_t_brothOn, .int t_cause, .int t_causeDetail, .ref a_t_lowOn, .ref a_t_highOn, .ref a_t_lowStored, .ref a_t_highStored, .ref a_t_isBrothStored, .int t_storeMany, .ref a_t_step, .ref a_t_stepF, .ref a_t_line, .int t_lineMany]))] Hh.size)) 0 0 (va_A [(a_t, .inr (15, [.ref a_t_s, .ref a_t_f, .ref a_t_before, .ref a_t_beforeF, .ref a_t_aside, .ref a_t_asideF, .ref a_t_saved, .ref a_t_savedF, .int t_isSaved, .ref a_t_past, .ref a_t_pastF, .int t_pastMany, .int t_boiled, .int t_thrown, .ref a_t_refused, .ref a_t_text, .int t_length, .int t_error, .ref a_t_signs, .ref a_t_numbers, .int t_tokens, .int t_spoons, .int t_mostSpoons, .ref a_t_row, .ref a_t_isBrothOn, .ref a_t_dramsOn, .ref a_t_brothOn, .int t_cause, .int t_causeDetail, .ref a_t_lowOn, .ref a_t_highOn, .ref a_t_lowStored, .ref a_t_highStored, .ref a_t_isBrothStored, .int t_storeMany, .ref a_t_step, .ref a_t_stepF, .ref a_t_line, .int t_lineMany]))] Hh.size) := by
  refine Met.ofW (cc := cX12_fails) (maxL := 2) (ret := (some .int)) (by decide) rfl ?_
  intro p e s m args below meth c s₁ B hml hv
  obtain ⟨rfl, hH, hK⟩ := hv
  subst hH
  have hx := B.exec
  have hb := B.bytes
  have hr := B.returns
  have hta : ∀ w ∈ ALLW, w.before [.ref a_t, .int p1].toArray s = true := fun w hw => atoms_spec (ws := wA yX12_fails cX12_fails 2 (some .int)) B.pre w (List.mem_cons_of_mem _ hw)
  have hown : s.vm.findClass RX12 = some m.cls := findClass_of_methodNamed B.named
  have hlocks := B.notSynchronized
  have hD := hD0.self (sz := s.heap.size)
  generalize hAe : va_A [(a_t, .inr (15, [.ref a_t_s, .ref a_t_f, .ref a_t_before, .ref a_t_beforeF, .ref a_t_aside, .ref a_t_asideF, .ref a_t_saved, .ref a_t_savedF, .int t_isSaved, .ref a_t_past, .ref a_t_pastF, .int t_pastMany, .int t_boiled, .int t_thrown, .ref a_t_refused, .ref a_t_text, .int t_length, .int t_error, .ref a_t_signs, .ref a_t_numbers, .int t_tokens, .int t_spoons, .int t_mostSpoons, .ref a_t_row, .ref a_t_isBrothOn, .ref a_t_dramsOn, .ref a_t_brothOn, .int t_cause, .int t_causeDetail, .ref a_t_lowOn, .ref a_t_highOn, .ref a_t_lowStored, .ref a_t_highStored, .ref a_t_isBrothStored, .int t_storeMany, .ref a_t_step, .ref a_t_stepF, .ref a_t_line, .int t_lineMany]))] s.heap.size = A at hD ⊢
  have hP := hP0
  have hA : ∀ q : Nat, s.heap.size ≤ q → A q := fun q h => by rw [← hAe]; exact Or.inr h
  have hS : va_S A s.heap s.heap [] := va_S.rf
  have hl := lv_entry [.ref a_t, .int p1] (n := 2) (Nat.le_of_ble_eq_true rfl)
  rw [lg_entry_eq]
  generalize (lg_sl [.ref a_t, .int p1] ++ List.replicate (2 - (lg_sl [.ref a_t, .int p1]).length) Slot.unset).toArray = ls at hl ⊢
  have hl : lv_has ls 2 [(0, .ref a_t), (1, .int p1)] := hl
  unfold g_X12_fails at h
  refine lv_aload_n hx hb dX12_fails_0 rfl (lv_at hl 0 rfl) ?_
  refine lv_iload_n hx hb dX12_fails_1 rfl (lv_at hl 1 rfl) ?_
  refine va_put (D := (dC, dI)) (ci := 15) (v := .int p1) (ty := .int) (C := RX12) (T := TX12) (N := 39) hx hb hta inX12w tyX12 tyX12_ok nmX12 hown hK hP hD hS 0 rfl rfl 13 (by decide) (hta _ lk_X12_96) (fun _ h9 => h9) rfl (by decide +kernel) rfl rfl (Nat.le_of_ble_eq_true rfl) dX12_fails_2 (fun H locs hP hD hS => ?_)
  have hP : va_P (dC, dI) vwCl [(a_t, .inr (15, [.ref a_t_s, .ref a_t_f, .ref a_t_before, .ref a_t_beforeF, .ref a_t_aside, .ref a_t_asideF, .ref a_t_saved, .ref a_t_savedF, .int t_isSaved, .ref a_t_past, .ref a_t_pastF, .int t_pastMany, .int t_boiled, .int p1, .ref a_t_refused, .ref a_t_text, .int t_length, .int t_error, .ref a_t_signs, .ref a_t_numbers, .int t_tokens, .int t_spoons, .int t_mostSpoons, .ref a_t_row, .ref a_t_isBrothOn, .ref a_t_dramsOn, .ref a_t_brothOn, .int t_cause, .int t_causeDetail, .ref a_t_lowOn, .ref a_t_highOn, .ref a_t_lowStored, .ref a_t_highStored, .ref a_t_isBrothStored, .int t_storeMany, .ref a_t_step, .ref a_t_stepF, .ref a_t_line, .int t_lineMany]))] H := hP
  have hD : va_D A [(a_t, .inr (15, [.ref a_t_s, .ref a_t_f, .ref a_t_before, .ref a_t_beforeF, .ref a_t_aside, .ref a_t_asideF, .ref a_t_saved, .ref a_t_savedF, .int t_isSaved, .ref a_t_past, .ref a_t_pastF, .int t_pastMany, .int t_boiled, .int p1, .ref a_t_refused, .ref a_t_text, .int t_length, .int t_error, .ref a_t_signs, .ref a_t_numbers, .int t_tokens, .int t_spoons, .int t_mostSpoons, .ref a_t_row, .ref a_t_isBrothOn, .ref a_t_dramsOn, .ref a_t_brothOn, .int t_cause, .int t_causeDetail, .ref a_t_lowOn, .ref a_t_highOn, .ref a_t_lowStored, .ref a_t_highStored, .ref a_t_isBrothStored, .int t_storeMany, .ref a_t_step, .ref a_t_stepF, .ref a_t_line, .int t_lineMany]))] := hD
  refine lv_iconst (v := 0) hx hb dX12_fails_5 (by decide) ?_
  have ho := Option.some.inj h
  exact W.iret (v := 0) hx hb hr (fun t ht hW => ⟨⟨0, (), rfl, by rw [← ho], by show va_P (dC, dI) vwCl _ t.heap; rw [ht, ← ho]; exact hP⟩, hS.F ht⟩) hS.2.2 dX12_fails_6
def g_X12_refuseFor (t_thrown : Int32) (t_refused : Nat → Int32) (p1 : Int32) (p2 : Int32) (p3 : Int32) (p4 : Int32) (p5 : Int32) : Option (Int32 × Int32 × (Nat → Int32)) :=
  gc (inb (0 : Int32) 4) <|
  gc (inb (1 : Int32) 4) <|
  gc (inb (2 : Int32) 4) <|
  gc (inb (3 : Int32) 4) <|
  some (0, p1, (upd (upd (upd (upd t_refused (0 : Int32).toNatClampNeg p2) (1 : Int32).toNatClampNeg p3) (2 : Int32).toNatClampNeg p4) (3 : Int32).toNatClampNeg p5))
set_option maxHeartbeats 4000000 in
set_option maxRecDepth 100000 in
theorem c_X12_refuseFor (l : Launch) (dC : Nat → ClassId) (dI : Nat → Nat → Nat) (cT : Nat → ClassId) {Hh : Heap} {a_t : Nat} {a_t_refused : Nat} {a_t_s : Nat} {a_t_f : Nat} {a_t_before : Nat} {a_t_beforeF : Nat} {a_t_aside : Nat} {a_t_asideF : Nat} {a_t_saved : Nat} {a_t_savedF : Nat} {a_t_past : Nat} {a_t_pastF : Nat} {a_t_text : Nat} {a_t_signs : Nat} {a_t_numbers : Nat} {a_t_row : Nat} {a_t_isBrothOn : Nat} {a_t_dramsOn : Nat} {a_t_brothOn : Nat} {a_t_lowOn : Nat} {a_t_highOn : Nat} {a_t_lowStored : Nat} {a_t_highStored : Nat} {a_t_isBrothStored : Nat} {a_t_step : Nat} {a_t_stepF : Nat} {a_t_line : Nat} {t_thrown : Int32} {t_refused : Nat → Int32} {p1 : Int32} {p2 : Int32} {p3 : Int32} {p4 : Int32} {p5 : Int32} {t_isSaved : Int32} {t_pastMany : Int32} {t_boiled : Int32} {t_length : Int32} {t_error : Int32} {t_tokens : Int32} {t_spoons : Int32} {t_mostSpoons : Int32} {t_cause : Int32} {t_causeDetail : Int32} {t_storeMany : Int32} {t_lineMany : Int32} {o : Int32 × Int32 × (Nat → Int32)} (h : g_X12_refuseFor t_thrown t_refused p1 p2 p3 p4 p5 = some o) (hP0 : va_P (dC, dI) vwCl [(a_t, .inr (15, [.ref a_t_s, .ref a_t_f, .ref a_t_before, .ref a_t_beforeF, .ref a_t_aside, .ref a_t_asideF, .ref a_t_saved, .ref a_t_savedF, .int t_isSaved, .ref a_t_past, .ref a_t_pastF, .int t_pastMany, .int t_boiled, .int t_thrown, .ref a_t_refused, .ref a_t_text, .int t_length, .int t_error, .ref a_t_signs, .ref a_t_numbers, .int t_tokens, .int t_spoons, .int t_mostSpoons, .ref a_t_row, .ref a_t_isBrothOn, .ref a_t_dramsOn, .ref a_t_brothOn, .int t_cause, .int t_causeDetail, .ref a_t_lowOn, .ref a_t_highOn, .ref a_t_lowStored, .ref a_t_highStored, .ref a_t_isBrothStored, .int t_storeMany, .ref a_t_step, .ref a_t_stepF, .ref a_t_line, .int t_lineMany])), (a_t_refused, .inl (cT 0, 4, .inl t_refused))] Hh) (hD0 : va_D (fun _ => True) [(a_t, .inr (15, [.ref a_t_s, .ref a_t_f, .ref a_t_before, .ref a_t_beforeF, .ref a_t_aside, .ref a_t_asideF, .ref a_t_saved, .ref a_t_savedF, .int t_isSaved, .ref a_t_past, .ref a_t_pastF, .int t_pastMany, .int t_boiled, .int t_thrown, .ref a_t_refused, .ref a_t_text, .int t_length, .int t_error, .ref a_t_signs, .ref a_t_numbers, .int t_tokens, .int t_spoons, .int t_mostSpoons, .ref a_t_row, .ref a_t_isBrothOn, .ref a_t_dramsOn, .ref a_t_brothOn, .int t_cause, .int t_causeDetail, .ref a_t_lowOn, .ref a_t_highOn, .ref a_t_lowStored, .ref a_t_highStored, .ref a_t_isBrothStored, .int t_storeMany, .ref a_t_step, .ref a_t_stepF, .ref a_t_line, .int t_lineMany])), (a_t_refused, .inl (cT 0, 4, .inl t_refused))]) : Met l yX12_refuseFor (wA yX12_refuseFor cX12_refuseFor 6 (some .int)) ({ frames := 0, cells := 0, slots := 0, locals := 0 } : Room) (PK dC dI cT [.ref a_t, .int p1, .int p2, .int p3, .int p4, .int p5] Hh) (va_Qi (fun x (_ : Unit) => x = o.1) (fun _ t => va_P (dC, dI) vwCl [(a_t, .inr (15, [.ref a_t_s, .ref a_t_f, .ref a_t_before, .ref a_t_beforeF, .ref a_t_aside, .ref a_t_asideF, .ref a_t_saved, .ref a_t_savedF, .int t_isSaved, .ref a_t_past, .ref a_t_pastF, .int t_pastMany, .int t_boiled, .int o.2.1, .ref a_t_refused, .ref a_t_text, .int t_length, .int t_error, .ref a_t_signs, .ref a_t_numbers, .int t_tokens, .int t_spoons, .int t_mostSpoons, .ref a_t_row, .ref a_t_isBrothOn, .ref a_t_dramsOn, .ref a_t_brothOn, .int t_cause, .int t_causeDetail, .ref a_t_lowOn, .ref a_t_highOn, .ref a_t_lowStored, .ref a_t_highStored, .ref a_t_isBrothStored, .int t_storeMany, .ref a_t_step, .ref a_t_stepF, .ref a_t_line, .int t_lineMany])), (a_t_refused, .inl (cT 0, 4, .inl o.2.2))] t.heap) (va_A [(a_t, .inr (15, [.ref a_t_s, .ref a_t_f, .ref a_t_before, .ref a_t_beforeF, .ref a_t_aside, .ref a_t_asideF, .ref a_t_saved, .ref a_t_savedF, .int t_isSaved, .ref a_t_past, .ref a_t_pastF, .int t_pastMany, .int t_boiled, .int t_thrown, .ref a_t_refused, .ref a_t_text, .int t_length, .int t_error, .ref a_t_signs, .ref a_t_numbers, .int t_tokens, .int t_spoons, .int t_mostSpoons, .ref a_t_row, .ref a_t_isBrothOn, .ref a_t_dramsOn, .ref a_t_brothOn, .int t_cause, .int t_causeDetail, .ref a_t_lowOn, .ref a_t_highOn, .ref a_t_lowStored, .ref a_t_highStored, .ref a_t_isBrothStored, .int t_storeMany, .ref a_t_step, .ref a_t_stepF, .ref a_t_line, .int t_lineMany])), (a_t_refused, .inl (cT 0, 4, .inl t_refused))] Hh.size)) 0 0 (va_A [(a_t, .inr (15, [.ref a_t_s, .ref a_t_f, .ref a_t_before, .ref a_t_beforeF, .ref a_t_aside, .ref a_t_asideF, .ref a_t_saved, .ref a_t_savedF, .int t_isSaved, .ref a_t_past, .ref a_t_pastF, .int t_pastMany, .int t_boiled, .int t_thrown, .ref a_t_refused, .ref a_t_text, .int t_length, .int t_error, .ref a_t_signs, .ref a_t_numbers, .int t_tokens, .int t_spoons, .int t_mostSpoons, .ref a_t_row, .ref a_t_isBrothOn, .ref a_t_dramsOn, .ref a_t_brothOn, .int t_cause, .int t_causeDetail, .ref a_t_lowOn, .ref a_t_highOn, .ref a_t_lowStored, .ref a_t_highStored, .ref a_t_isBrothStored, .int t_storeMany, .ref a_t_step, .ref a_t_stepF, .ref a_t_line, .int t_lineMany])), (a_t_refused, .inl (cT 0, 4, .inl t_refused))] Hh.size) := by
  refine Met.ofW (cc := cX12_refuseFor) (maxL := 6) (ret := (some .int)) (by decide) rfl ?_
  intro p e s m args below meth c s₁ B hml hv
  obtain ⟨rfl, hH, hK⟩ := hv
  subst hH
  have hx := B.exec
  have hb := B.bytes
  have hr := B.returns
  have hta : ∀ w ∈ ALLW, w.before [.ref a_t, .int p1, .int p2, .int p3, .int p4, .int p5].toArray s = true := fun w hw => atoms_spec (ws := wA yX12_refuseFor cX12_refuseFor 6 (some .int)) B.pre w (List.mem_cons_of_mem _ hw)
  have hown : s.vm.findClass RX12 = some m.cls := findClass_of_methodNamed B.named
  have hlocks := B.notSynchronized
  have hD := hD0.self (sz := s.heap.size)
  generalize hAe : va_A [(a_t, .inr (15, [.ref a_t_s, .ref a_t_f, .ref a_t_before, .ref a_t_beforeF, .ref a_t_aside, .ref a_t_asideF, .ref a_t_saved, .ref a_t_savedF, .int t_isSaved, .ref a_t_past, .ref a_t_pastF, .int t_pastMany, .int t_boiled, .int t_thrown, .ref a_t_refused, .ref a_t_text, .int t_length, .int t_error, .ref a_t_signs, .ref a_t_numbers, .int t_tokens, .int t_spoons, .int t_mostSpoons, .ref a_t_row, .ref a_t_isBrothOn, .ref a_t_dramsOn, .ref a_t_brothOn, .int t_cause, .int t_causeDetail, .ref a_t_lowOn, .ref a_t_highOn, .ref a_t_lowStored, .ref a_t_highStored, .ref a_t_isBrothStored, .int t_storeMany, .ref a_t_step, .ref a_t_stepF, .ref a_t_line, .int t_lineMany])), (a_t_refused, .inl (cT 0, 4, .inl t_refused))] s.heap.size = A at hD ⊢
  have hP := hP0
  have hA : ∀ q : Nat, s.heap.size ≤ q → A q := fun q h => by rw [← hAe]; exact Or.inr h
  have hS : va_S A s.heap s.heap [] := va_S.rf
  have hl := lv_entry [.ref a_t, .int p1, .int p2, .int p3, .int p4, .int p5] (n := 6) (Nat.le_of_ble_eq_true rfl)
  rw [lg_entry_eq]
  generalize (lg_sl [.ref a_t, .int p1, .int p2, .int p3, .int p4, .int p5] ++ List.replicate (6 - (lg_sl [.ref a_t, .int p1, .int p2, .int p3, .int p4, .int p5]).length) Slot.unset).toArray = ls at hl ⊢
  have hl : lv_has ls 6 [(0, .ref a_t), (1, .int p1), (2, .int p2), (3, .int p3), (4, .int p4), (5, .int p5)] := hl
  unfold g_X12_refuseFor at h
  refine lv_aload_n hx hb dX12_refuseFor_0 rfl (lv_at hl 0 rfl) ?_
  refine lv_iload_n hx hb dX12_refuseFor_1 rfl (lv_at hl 1 rfl) ?_
  refine va_put (D := (dC, dI)) (ci := 15) (v := .int p1) (ty := .int) (C := RX12) (T := TX12) (N := 39) hx hb hta inX12w tyX12 tyX12_ok nmX12 hown hK hP hD hS 0 rfl rfl 13 (by decide) (hta _ lk_X12_96) (fun _ h9 => h9) rfl (by decide +kernel) rfl rfl (Nat.le_of_ble_eq_true rfl) dX12_refuseFor_2 (fun H locs hP hD hS => ?_)
  have hP : va_P (dC, dI) vwCl [(a_t, .inr (15, [.ref a_t_s, .ref a_t_f, .ref a_t_before, .ref a_t_beforeF, .ref a_t_aside, .ref a_t_asideF, .ref a_t_saved, .ref a_t_savedF, .int t_isSaved, .ref a_t_past, .ref a_t_pastF, .int t_pastMany, .int t_boiled, .int p1, .ref a_t_refused, .ref a_t_text, .int t_length, .int t_error, .ref a_t_signs, .ref a_t_numbers, .int t_tokens, .int t_spoons, .int t_mostSpoons, .ref a_t_row, .ref a_t_isBrothOn, .ref a_t_dramsOn, .ref a_t_brothOn, .int t_cause, .int t_causeDetail, .ref a_t_lowOn, .ref a_t_highOn, .ref a_t_lowStored, .ref a_t_highStored, .ref a_t_isBrothStored, .int t_storeMany, .ref a_t_step, .ref a_t_stepF, .ref a_t_line, .int t_lineMany])), (a_t_refused, .inl (cT 0, 4, .inl t_refused))] H := hP
  have hD : va_D A [(a_t, .inr (15, [.ref a_t_s, .ref a_t_f, .ref a_t_before, .ref a_t_beforeF, .ref a_t_aside, .ref a_t_asideF, .ref a_t_saved, .ref a_t_savedF, .int t_isSaved, .ref a_t_past, .ref a_t_pastF, .int t_pastMany, .int t_boiled, .int p1, .ref a_t_refused, .ref a_t_text, .int t_length, .int t_error, .ref a_t_signs, .ref a_t_numbers, .int t_tokens, .int t_spoons, .int t_mostSpoons, .ref a_t_row, .ref a_t_isBrothOn, .ref a_t_dramsOn, .ref a_t_brothOn, .int t_cause, .int t_causeDetail, .ref a_t_lowOn, .ref a_t_highOn, .ref a_t_lowStored, .ref a_t_highStored, .ref a_t_isBrothStored, .int t_storeMany, .ref a_t_step, .ref a_t_stepF, .ref a_t_line, .int t_lineMany])), (a_t_refused, .inl (cT 0, 4, .inl t_refused))] := hD
  refine lv_aload_n hx hb dX12_refuseFor_5 rfl (lv_at hl 0 rfl) ?_
  refine va_get (D := (dC, dI)) (ci := 15) (v := .ref a_t_refused) (C := RX12) (T := TX12) (N := 39) hx hb hta inX12w hown hK hP 0 rfl rfl 14 (by decide) (hta _ lk_X12_41) (fun _ h9 => h9) rfl dX12_refuseFor_6 ?_
  refine lv_iconst (v := 0) hx hb dX12_refuseFor_9 (by decide) ?_
  refine lv_iload_n hx hb dX12_refuseFor_10 rfl (lv_at hl 2 rfl) ?_
  obtain ⟨hc, h⟩ := gc_some h
  refine va_iast hx hb hK hP hD hS 1 0 rfl rfl (inb_in hc) dX12_refuseFor_11 (fun H locs hP hD hS => ?_)
  have hP : va_P (dC, dI) vwCl [(a_t, .inr (15, [.ref a_t_s, .ref a_t_f, .ref a_t_before, .ref a_t_beforeF, .ref a_t_aside, .ref a_t_asideF, .ref a_t_saved, .ref a_t_savedF, .int t_isSaved, .ref a_t_past, .ref a_t_pastF, .int t_pastMany, .int t_boiled, .int p1, .ref a_t_refused, .ref a_t_text, .int t_length, .int t_error, .ref a_t_signs, .ref a_t_numbers, .int t_tokens, .int t_spoons, .int t_mostSpoons, .ref a_t_row, .ref a_t_isBrothOn, .ref a_t_dramsOn, .ref a_t_brothOn, .int t_cause, .int t_causeDetail, .ref a_t_lowOn, .ref a_t_highOn, .ref a_t_lowStored, .ref a_t_highStored, .ref a_t_isBrothStored, .int t_storeMany, .ref a_t_step, .ref a_t_stepF, .ref a_t_line, .int t_lineMany])), (a_t_refused, .inl (cT 0, 4, .inl (upd t_refused (0 : Int32).toNatClampNeg p2)))] H := hP
  have hD : va_D A [(a_t, .inr (15, [.ref a_t_s, .ref a_t_f, .ref a_t_before, .ref a_t_beforeF, .ref a_t_aside, .ref a_t_asideF, .ref a_t_saved, .ref a_t_savedF, .int t_isSaved, .ref a_t_past, .ref a_t_pastF, .int t_pastMany, .int t_boiled, .int p1, .ref a_t_refused, .ref a_t_text, .int t_length, .int t_error, .ref a_t_signs, .ref a_t_numbers, .int t_tokens, .int t_spoons, .int t_mostSpoons, .ref a_t_row, .ref a_t_isBrothOn, .ref a_t_dramsOn, .ref a_t_brothOn, .int t_cause, .int t_causeDetail, .ref a_t_lowOn, .ref a_t_highOn, .ref a_t_lowStored, .ref a_t_highStored, .ref a_t_isBrothStored, .int t_storeMany, .ref a_t_step, .ref a_t_stepF, .ref a_t_line, .int t_lineMany])), (a_t_refused, .inl (cT 0, 4, .inl (upd t_refused (0 : Int32).toNatClampNeg p2)))] := hD
  refine lv_aload_n hx hb dX12_refuseFor_12 rfl (lv_at hl 0 rfl) ?_
  refine va_get (D := (dC, dI)) (ci := 15) (v := .ref a_t_refused) (C := RX12) (T := TX12) (N := 39) hx hb hta inX12w hown hK hP 0 rfl rfl 14 (by decide) (hta _ lk_X12_41) (fun _ h9 => h9) rfl dX12_refuseFor_13 ?_
  refine lv_iconst (v := 1) hx hb dX12_refuseFor_16 (by decide) ?_
  refine lv_iload_n hx hb dX12_refuseFor_17 rfl (lv_at hl 3 rfl) ?_
  obtain ⟨hc, h⟩ := gc_some h
  refine va_iast hx hb hK hP hD hS 1 0 rfl rfl (inb_in hc) dX12_refuseFor_18 (fun H locs hP hD hS => ?_)
  have hP : va_P (dC, dI) vwCl [(a_t, .inr (15, [.ref a_t_s, .ref a_t_f, .ref a_t_before, .ref a_t_beforeF, .ref a_t_aside, .ref a_t_asideF, .ref a_t_saved, .ref a_t_savedF, .int t_isSaved, .ref a_t_past, .ref a_t_pastF, .int t_pastMany, .int t_boiled, .int p1, .ref a_t_refused, .ref a_t_text, .int t_length, .int t_error, .ref a_t_signs, .ref a_t_numbers, .int t_tokens, .int t_spoons, .int t_mostSpoons, .ref a_t_row, .ref a_t_isBrothOn, .ref a_t_dramsOn, .ref a_t_brothOn, .int t_cause, .int t_causeDetail, .ref a_t_lowOn, .ref a_t_highOn, .ref a_t_lowStored, .ref a_t_highStored, .ref a_t_isBrothStored, .int t_storeMany, .ref a_t_step, .ref a_t_stepF, .ref a_t_line, .int t_lineMany])), (a_t_refused, .inl (cT 0, 4, .inl (upd (upd t_refused (0 : Int32).toNatClampNeg p2) (1 : Int32).toNatClampNeg p3)))] H := hP
  have hD : va_D A [(a_t, .inr (15, [.ref a_t_s, .ref a_t_f, .ref a_t_before, .ref a_t_beforeF, .ref a_t_aside, .ref a_t_asideF, .ref a_t_saved, .ref a_t_savedF, .int t_isSaved, .ref a_t_past, .ref a_t_pastF, .int t_pastMany, .int t_boiled, .int p1, .ref a_t_refused, .ref a_t_text, .int t_length, .int t_error, .ref a_t_signs, .ref a_t_numbers, .int t_tokens, .int t_spoons, .int t_mostSpoons, .ref a_t_row, .ref a_t_isBrothOn, .ref a_t_dramsOn, .ref a_t_brothOn, .int t_cause, .int t_causeDetail, .ref a_t_lowOn, .ref a_t_highOn, .ref a_t_lowStored, .ref a_t_highStored, .ref a_t_isBrothStored, .int t_storeMany, .ref a_t_step, .ref a_t_stepF, .ref a_t_line, .int t_lineMany])), (a_t_refused, .inl (cT 0, 4, .inl (upd (upd t_refused (0 : Int32).toNatClampNeg p2) (1 : Int32).toNatClampNeg p3)))] := hD
  refine lv_aload_n hx hb dX12_refuseFor_19 rfl (lv_at hl 0 rfl) ?_
  refine va_get (D := (dC, dI)) (ci := 15) (v := .ref a_t_refused) (C := RX12) (T := TX12) (N := 39) hx hb hta inX12w hown hK hP 0 rfl rfl 14 (by decide) (hta _ lk_X12_41) (fun _ h9 => h9) rfl dX12_refuseFor_20 ?_
  refine lv_iconst (v := 2) hx hb dX12_refuseFor_23 (by decide) ?_
  refine lv_iload hx hb dX12_refuseFor_24 (lv_at hl 4 rfl) ?_
  obtain ⟨hc, h⟩ := gc_some h
  refine va_iast hx hb hK hP hD hS 1 0 rfl rfl (inb_in hc) dX12_refuseFor_26 (fun H locs hP hD hS => ?_)
  have hP : va_P (dC, dI) vwCl [(a_t, .inr (15, [.ref a_t_s, .ref a_t_f, .ref a_t_before, .ref a_t_beforeF, .ref a_t_aside, .ref a_t_asideF, .ref a_t_saved, .ref a_t_savedF, .int t_isSaved, .ref a_t_past, .ref a_t_pastF, .int t_pastMany, .int t_boiled, .int p1, .ref a_t_refused, .ref a_t_text, .int t_length, .int t_error, .ref a_t_signs, .ref a_t_numbers, .int t_tokens, .int t_spoons, .int t_mostSpoons, .ref a_t_row, .ref a_t_isBrothOn, .ref a_t_dramsOn, .ref a_t_brothOn, .int t_cause, .int t_causeDetail, .ref a_t_lowOn, .ref a_t_highOn, .ref a_t_lowStored, .ref a_t_highStored, .ref a_t_isBrothStored, .int t_storeMany, .ref a_t_step, .ref a_t_stepF, .ref a_t_line, .int t_lineMany])), (a_t_refused, .inl (cT 0, 4, .inl (upd (upd (upd t_refused (0 : Int32).toNatClampNeg p2) (1 : Int32).toNatClampNeg p3) (2 : Int32).toNatClampNeg p4)))] H := hP
  have hD : va_D A [(a_t, .inr (15, [.ref a_t_s, .ref a_t_f, .ref a_t_before, .ref a_t_beforeF, .ref a_t_aside, .ref a_t_asideF, .ref a_t_saved, .ref a_t_savedF, .int t_isSaved, .ref a_t_past, .ref a_t_pastF, .int t_pastMany, .int t_boiled, .int p1, .ref a_t_refused, .ref a_t_text, .int t_length, .int t_error, .ref a_t_signs, .ref a_t_numbers, .int t_tokens, .int t_spoons, .int t_mostSpoons, .ref a_t_row, .ref a_t_isBrothOn, .ref a_t_dramsOn, .ref a_t_brothOn, .int t_cause, .int t_causeDetail, .ref a_t_lowOn, .ref a_t_highOn, .ref a_t_lowStored, .ref a_t_highStored, .ref a_t_isBrothStored, .int t_storeMany, .ref a_t_step, .ref a_t_stepF, .ref a_t_line, .int t_lineMany])), (a_t_refused, .inl (cT 0, 4, .inl (upd (upd (upd t_refused (0 : Int32).toNatClampNeg p2) (1 : Int32).toNatClampNeg p3) (2 : Int32).toNatClampNeg p4)))] := hD
  refine lv_aload_n hx hb dX12_refuseFor_27 rfl (lv_at hl 0 rfl) ?_
  refine va_get (D := (dC, dI)) (ci := 15) (v := .ref a_t_refused) (C := RX12) (T := TX12) (N := 39) hx hb hta inX12w hown hK hP 0 rfl rfl 14 (by decide) (hta _ lk_X12_41) (fun _ h9 => h9) rfl dX12_refuseFor_28 ?_
  refine lv_iconst (v := 3) hx hb dX12_refuseFor_31 (by decide) ?_
  refine lv_iload hx hb dX12_refuseFor_32 (lv_at hl 5 rfl) ?_
  obtain ⟨hc, h⟩ := gc_some h
  refine va_iast hx hb hK hP hD hS 1 0 rfl rfl (inb_in hc) dX12_refuseFor_34 (fun H locs hP hD hS => ?_)
  have hP : va_P (dC, dI) vwCl [(a_t, .inr (15, [.ref a_t_s, .ref a_t_f, .ref a_t_before, .ref a_t_beforeF, .ref a_t_aside, .ref a_t_asideF, .ref a_t_saved, .ref a_t_savedF, .int t_isSaved, .ref a_t_past, .ref a_t_pastF, .int t_pastMany, .int t_boiled, .int p1, .ref a_t_refused, .ref a_t_text, .int t_length, .int t_error, .ref a_t_signs, .ref a_t_numbers, .int t_tokens, .int t_spoons, .int t_mostSpoons, .ref a_t_row, .ref a_t_isBrothOn, .ref a_t_dramsOn, .ref a_t_brothOn, .int t_cause, .int t_causeDetail, .ref a_t_lowOn, .ref a_t_highOn, .ref a_t_lowStored, .ref a_t_highStored, .ref a_t_isBrothStored, .int t_storeMany, .ref a_t_step, .ref a_t_stepF, .ref a_t_line, .int t_lineMany])), (a_t_refused, .inl (cT 0, 4, .inl (upd (upd (upd (upd t_refused (0 : Int32).toNatClampNeg p2) (1 : Int32).toNatClampNeg p3) (2 : Int32).toNatClampNeg p4) (3 : Int32).toNatClampNeg p5)))] H := hP
  have hD : va_D A [(a_t, .inr (15, [.ref a_t_s, .ref a_t_f, .ref a_t_before, .ref a_t_beforeF, .ref a_t_aside, .ref a_t_asideF, .ref a_t_saved, .ref a_t_savedF, .int t_isSaved, .ref a_t_past, .ref a_t_pastF, .int t_pastMany, .int t_boiled, .int p1, .ref a_t_refused, .ref a_t_text, .int t_length, .int t_error, .ref a_t_signs, .ref a_t_numbers, .int t_tokens, .int t_spoons, .int t_mostSpoons, .ref a_t_row, .ref a_t_isBrothOn, .ref a_t_dramsOn, .ref a_t_brothOn, .int t_cause, .int t_causeDetail, .ref a_t_lowOn, .ref a_t_highOn, .ref a_t_lowStored, .ref a_t_highStored, .ref a_t_isBrothStored, .int t_storeMany, .ref a_t_step, .ref a_t_stepF, .ref a_t_line, .int t_lineMany])), (a_t_refused, .inl (cT 0, 4, .inl (upd (upd (upd (upd t_refused (0 : Int32).toNatClampNeg p2) (1 : Int32).toNatClampNeg p3) (2 : Int32).toNatClampNeg p4) (3 : Int32).toNatClampNeg p5)))] := hD
  refine lv_iconst (v := 0) hx hb dX12_refuseFor_35 (by decide) ?_
  have ho := Option.some.inj h
  exact W.iret (v := 0) hx hb hr (fun t ht hW => ⟨⟨0, (), rfl, by rw [← ho], by show va_P (dC, dI) vwCl _ t.heap; rw [ht, ← ho]; exact hP⟩, hS.F ht⟩) hS.2.2 dX12_refuseFor_36
def g_X12_refuse (t_thrown : Int32) (t_refused : Nat → Int32) (p1 : Int32) (p2 : Int32) (p3 : Int32) : Option (Int32 × Int32 × (Nat → Int32)) :=
  gb (g_X12_refuseFor t_thrown t_refused p1 p2 p3 (0 : Int32) (0 : Int32)) fun r1 =>
  some (r1.1, r1.2.1, r1.2.2)
set_option maxHeartbeats 4000000 in
set_option maxRecDepth 100000 in
theorem c_X12_refuse (l : Launch) (dC : Nat → ClassId) (dI : Nat → Nat → Nat) (cT : Nat → ClassId) {Hh : Heap} {a_t : Nat} {a_t_refused : Nat} {a_t_s : Nat} {a_t_f : Nat} {a_t_before : Nat} {a_t_beforeF : Nat} {a_t_aside : Nat} {a_t_asideF : Nat} {a_t_saved : Nat} {a_t_savedF : Nat} {a_t_past : Nat} {a_t_pastF : Nat} {a_t_text : Nat} {a_t_signs : Nat} {a_t_numbers : Nat} {a_t_row : Nat} {a_t_isBrothOn : Nat} {a_t_dramsOn : Nat} {a_t_brothOn : Nat} {a_t_lowOn : Nat} {a_t_highOn : Nat} {a_t_lowStored : Nat} {a_t_highStored : Nat} {a_t_isBrothStored : Nat} {a_t_step : Nat} {a_t_stepF : Nat} {a_t_line : Nat} {t_thrown : Int32} {t_refused : Nat → Int32} {p1 : Int32} {p2 : Int32} {p3 : Int32} {t_isSaved : Int32} {t_pastMany : Int32} {t_boiled : Int32} {t_length : Int32} {t_error : Int32} {t_tokens : Int32} {t_spoons : Int32} {t_mostSpoons : Int32} {t_cause : Int32} {t_causeDetail : Int32} {t_storeMany : Int32} {t_lineMany : Int32} {o : Int32 × Int32 × (Nat → Int32)} (h : g_X12_refuse t_thrown t_refused p1 p2 p3 = some o) (hP0 : va_P (dC, dI) vwCl [(a_t, .inr (15, [.ref a_t_s, .ref a_t_f, .ref a_t_before, .ref a_t_beforeF, .ref a_t_aside, .ref a_t_asideF, .ref a_t_saved, .ref a_t_savedF, .int t_isSaved, .ref a_t_past, .ref a_t_pastF, .int t_pastMany, .int t_boiled, .int t_thrown, .ref a_t_refused, .ref a_t_text, .int t_length, .int t_error, .ref a_t_signs, .ref a_t_numbers, .int t_tokens, .int t_spoons, .int t_mostSpoons, .ref a_t_row, .ref a_t_isBrothOn, .ref a_t_dramsOn, .ref a_t_brothOn, .int t_cause, .int t_causeDetail, .ref a_t_lowOn, .ref a_t_highOn, .ref a_t_lowStored, .ref a_t_highStored, .ref a_t_isBrothStored, .int t_storeMany, .ref a_t_step, .ref a_t_stepF, .ref a_t_line, .int t_lineMany])), (a_t_refused, .inl (cT 0, 4, .inl t_refused))] Hh) (hD0 : va_D (fun _ => True) [(a_t, .inr (15, [.ref a_t_s, .ref a_t_f, .ref a_t_before, .ref a_t_beforeF, .ref a_t_aside, .ref a_t_asideF, .ref a_t_saved, .ref a_t_savedF, .int t_isSaved, .ref a_t_past, .ref a_t_pastF, .int t_pastMany, .int t_boiled, .int t_thrown, .ref a_t_refused, .ref a_t_text, .int t_length, .int t_error, .ref a_t_signs, .ref a_t_numbers, .int t_tokens, .int t_spoons, .int t_mostSpoons, .ref a_t_row, .ref a_t_isBrothOn, .ref a_t_dramsOn, .ref a_t_brothOn, .int t_cause, .int t_causeDetail, .ref a_t_lowOn, .ref a_t_highOn, .ref a_t_lowStored, .ref a_t_highStored, .ref a_t_isBrothStored, .int t_storeMany, .ref a_t_step, .ref a_t_stepF, .ref a_t_line, .int t_lineMany])), (a_t_refused, .inl (cT 0, 4, .inl t_refused))]) : Met l yX12_refuse (wA yX12_refuse cX12_refuse 4 (some .int)) ({ frames := 1, cells := 0, slots := 0, locals := 25 } : Room) (PK dC dI cT [.ref a_t, .int p1, .int p2, .int p3] Hh) (va_Qi (fun x (_ : Unit) => x = o.1) (fun _ t => va_P (dC, dI) vwCl [(a_t, .inr (15, [.ref a_t_s, .ref a_t_f, .ref a_t_before, .ref a_t_beforeF, .ref a_t_aside, .ref a_t_asideF, .ref a_t_saved, .ref a_t_savedF, .int t_isSaved, .ref a_t_past, .ref a_t_pastF, .int t_pastMany, .int t_boiled, .int o.2.1, .ref a_t_refused, .ref a_t_text, .int t_length, .int t_error, .ref a_t_signs, .ref a_t_numbers, .int t_tokens, .int t_spoons, .int t_mostSpoons, .ref a_t_row, .ref a_t_isBrothOn, .ref a_t_dramsOn, .ref a_t_brothOn, .int t_cause, .int t_causeDetail, .ref a_t_lowOn, .ref a_t_highOn, .ref a_t_lowStored, .ref a_t_highStored, .ref a_t_isBrothStored, .int t_storeMany, .ref a_t_step, .ref a_t_stepF, .ref a_t_line, .int t_lineMany])), (a_t_refused, .inl (cT 0, 4, .inl o.2.2))] t.heap) (va_A [(a_t, .inr (15, [.ref a_t_s, .ref a_t_f, .ref a_t_before, .ref a_t_beforeF, .ref a_t_aside, .ref a_t_asideF, .ref a_t_saved, .ref a_t_savedF, .int t_isSaved, .ref a_t_past, .ref a_t_pastF, .int t_pastMany, .int t_boiled, .int t_thrown, .ref a_t_refused, .ref a_t_text, .int t_length, .int t_error, .ref a_t_signs, .ref a_t_numbers, .int t_tokens, .int t_spoons, .int t_mostSpoons, .ref a_t_row, .ref a_t_isBrothOn, .ref a_t_dramsOn, .ref a_t_brothOn, .int t_cause, .int t_causeDetail, .ref a_t_lowOn, .ref a_t_highOn, .ref a_t_lowStored, .ref a_t_highStored, .ref a_t_isBrothStored, .int t_storeMany, .ref a_t_step, .ref a_t_stepF, .ref a_t_line, .int t_lineMany])), (a_t_refused, .inl (cT 0, 4, .inl t_refused))] Hh.size)) 0 0 (va_A [(a_t, .inr (15, [.ref a_t_s, .ref a_t_f, .ref a_t_before, .ref a_t_beforeF, .ref a_t_aside, .ref a_t_asideF, .ref a_t_saved, .ref a_t_savedF, .int t_isSaved, .ref a_t_past, .ref a_t_pastF, .int t_pastMany, .int t_boiled, .int t_thrown, .ref a_t_refused, .ref a_t_text, .int t_length, .int t_error, .ref a_t_signs, .ref a_t_numbers, .int t_tokens, .int t_spoons, .int t_mostSpoons, .ref a_t_row, .ref a_t_isBrothOn, .ref a_t_dramsOn, .ref a_t_brothOn, .int t_cause, .int t_causeDetail, .ref a_t_lowOn, .ref a_t_highOn, .ref a_t_lowStored, .ref a_t_highStored, .ref a_t_isBrothStored, .int t_storeMany, .ref a_t_step, .ref a_t_stepF, .ref a_t_line, .int t_lineMany])), (a_t_refused, .inl (cT 0, 4, .inl t_refused))] Hh.size) := by
  refine Met.ofW (cc := cX12_refuse) (maxL := 4) (ret := (some .int)) (by decide) rfl ?_
  intro p e s m args below meth c s₁ B hml hv
  obtain ⟨rfl, hH, hK⟩ := hv
  subst hH
  have hx := B.exec
  have hb := B.bytes
  have hr := B.returns
  have hta : ∀ w ∈ ALLW, w.before [.ref a_t, .int p1, .int p2, .int p3].toArray s = true := fun w hw => atoms_spec (ws := wA yX12_refuse cX12_refuse 4 (some .int)) B.pre w (List.mem_cons_of_mem _ hw)
  have hown : s.vm.findClass RX12 = some m.cls := findClass_of_methodNamed B.named
  have hlocks := B.notSynchronized
  have hD := hD0.self (sz := s.heap.size)
  generalize hAe : va_A [(a_t, .inr (15, [.ref a_t_s, .ref a_t_f, .ref a_t_before, .ref a_t_beforeF, .ref a_t_aside, .ref a_t_asideF, .ref a_t_saved, .ref a_t_savedF, .int t_isSaved, .ref a_t_past, .ref a_t_pastF, .int t_pastMany, .int t_boiled, .int t_thrown, .ref a_t_refused, .ref a_t_text, .int t_length, .int t_error, .ref a_t_signs, .ref a_t_numbers, .int t_tokens, .int t_spoons, .int t_mostSpoons, .ref a_t_row, .ref a_t_isBrothOn, .ref a_t_dramsOn, .ref a_t_brothOn, .int t_cause, .int t_causeDetail, .ref a_t_lowOn, .ref a_t_highOn, .ref a_t_lowStored, .ref a_t_highStored, .ref a_t_isBrothStored, .int t_storeMany, .ref a_t_step, .ref a_t_stepF, .ref a_t_line, .int t_lineMany])), (a_t_refused, .inl (cT 0, 4, .inl t_refused))] s.heap.size = A at hD ⊢
  have hP := hP0
  have hA : ∀ q : Nat, s.heap.size ≤ q → A q := fun q h => by rw [← hAe]; exact Or.inr h
  have hS : va_S A s.heap s.heap [] := va_S.rf
  have hl := lv_entry [.ref a_t, .int p1, .int p2, .int p3] (n := 4) (Nat.le_of_ble_eq_true rfl)
  rw [lg_entry_eq]
  generalize (lg_sl [.ref a_t, .int p1, .int p2, .int p3] ++ List.replicate (4 - (lg_sl [.ref a_t, .int p1, .int p2, .int p3]).length) Slot.unset).toArray = ls at hl ⊢
  have hl : lv_has ls 4 [(0, .ref a_t), (1, .int p1), (2, .int p2), (3, .int p3)] := hl
  unfold g_X12_refuse at h
  refine lv_aload_n hx hb dX12_refuse_0 rfl (lv_at hl 0 rfl) ?_
  refine lv_iload_n hx hb dX12_refuse_1 rfl (lv_at hl 1 rfl) ?_
  refine lv_iload_n hx hb dX12_refuse_2 rfl (lv_at hl 2 rfl) ?_
  refine lv_iload_n hx hb dX12_refuse_3 rfl (lv_at hl 3 rfl) ?_
  refine lv_iconst (v := 0) hx hb dX12_refuse_4 (by decide) ?_
  refine lv_iconst (v := 0) hx hb dX12_refuse_5 (by decide) ?_
  obtain ⟨r1, hq, h⟩ := gb_some h
  refine cxI (X2 := [(a_t, .inr (15, [.ref a_t_s, .ref a_t_f, .ref a_t_before, .ref a_t_beforeF, .ref a_t_aside, .ref a_t_asideF, .ref a_t_saved, .ref a_t_savedF, .int t_isSaved, .ref a_t_past, .ref a_t_pastF, .int t_pastMany, .int t_boiled, .int r1.2.1, .ref a_t_refused, .ref a_t_text, .int t_length, .int t_error, .ref a_t_signs, .ref a_t_numbers, .int t_tokens, .int t_spoons, .int t_mostSpoons, .ref a_t_row, .ref a_t_isBrothOn, .ref a_t_dramsOn, .ref a_t_brothOn, .int t_cause, .int t_causeDetail, .ref a_t_lowOn, .ref a_t_highOn, .ref a_t_lowStored, .ref a_t_highStored, .ref a_t_isBrothStored, .int t_storeMany, .ref a_t_step, .ref a_t_stepF, .ref a_t_line, .int t_lineMany])), (a_t_refused, .inl (cT 0, 4, .inl r1.2.2))]) (va_runV (As := [.int p1, .int p2, .int p3, .int 0, .int 0]) (rest := []) ⟨hx, hb, hml, hown, hta⟩ (c_X12_refuseFor l dC dI cT hq (hP.sub (ws' := [(a_t, .inr (15, [.ref a_t_s, .ref a_t_f, .ref a_t_before, .ref a_t_beforeF, .ref a_t_aside, .ref a_t_asideF, .ref a_t_saved, .ref a_t_savedF, .int t_isSaved, .ref a_t_past, .ref a_t_pastF, .int t_pastMany, .int t_boiled, .int t_thrown, .ref a_t_refused, .ref a_t_text, .int t_length, .int t_error, .ref a_t_signs, .ref a_t_numbers, .int t_tokens, .int t_spoons, .int t_mostSpoons, .ref a_t_row, .ref a_t_isBrothOn, .ref a_t_dramsOn, .ref a_t_brothOn, .int t_cause, .int t_causeDetail, .ref a_t_lowOn, .ref a_t_highOn, .ref a_t_lowStored, .ref a_t_highStored, .ref a_t_isBrothStored, .int t_storeMany, .ref a_t_step, .ref a_t_stepF, .ref a_t_line, .int t_lineMany])), (a_t_refused, .inl (cT 0, 4, .inl t_refused))]) [0, 1] rfl) ((hD.sub [0, 1] (by decide) rfl).weaken (fun _ _ _ _ => trivial))) (cV hta lm_X12_108 md_X12_refuseFor ⟨(Nat.le_of_ble_eq_true rfl), (Nat.le_of_ble_eq_true rfl)⟩) ⟨fbK, va_recv hK hP (ci := 15) (q0 := 0) rfl rfl, fun U hU hW => ⟨rfl, hU, va_K.moved hW.alike hK⟩⟩ rfl rfl hl.1 rfl (lv_room (Nat.le_of_ble_eq_true rfl)) dX12_refuse_6 ⟨(Nat.le_of_ble_eq_true rfl), (Nat.le_of_ble_eq_true rfl)⟩) hS hA hP hD [0, 1] rfl [.inl 0, .inl 1] rfl rfl rfl (fun H locs hP hD hS => ?_)
  have ho := Option.some.inj h
  exact W.iret (v := r1.1) hx hb hr (fun t ht hW => ⟨⟨r1.1, (), rfl, by rw [← ho], by show va_P (dC, dI) vwCl _ t.heap; rw [ht, ← ho]; exact hP⟩, hS.F ht⟩) hS.2.2 dX12_refuse_9
def g_X12_reason_b25 (t_refused : Nat → Int32) (p2 : Int32) (x3_25 : Int32) (s1_25 : Int32) : Option (Int32 × Int32) :=
  if s1_25 ≤ 0 then
    if p2 = 0 then
      gc (inb (x3_25 + 0) 4) <|
      gl (t_refused (x3_25 + 0).toNatClampNeg) fun v1 =>
      some (v1, s1_25)
    else
      gc (inb (x3_25 + 1) 4) <|
      gl (t_refused (x3_25 + 1).toNatClampNeg) fun v2 =>
      some (v2, s1_25)
  else
    some (0, s1_25)
def g_X12_reason_b9 (t_refused : Nat → Int32) (p2 : Int32) (s0_9 : Int32) : Option (Int32 × Int32) :=
  gc (inb s0_9 4) <|
  if (t_refused s0_9.toNatClampNeg) = 0 then
    g_X12_reason_b25 t_refused p2 s0_9 1
  else
    g_X12_reason_b25 t_refused p2 s0_9 0
def g_X12_reason (t_thrown : Int32) (t_refused : Nat → Int32) (p1 : Int32) (p2 : Int32) : Option (Int32 × Int32) :=
  if p1 = 0 then
    g_X12_reason_b9 t_refused p2 0
  else
    g_X12_reason_b9 t_refused p2 2
set_option maxHeartbeats 4000000 in
set_option maxRecDepth 100000 in
theorem c_X12_reason (l : Launch) (dC : Nat → ClassId) (dI : Nat → Nat → Nat) (cT : Nat → ClassId) {Hh : Heap} {a_t : Nat} {a_t_refused : Nat} {a_t_s : Nat} {a_t_f : Nat} {a_t_before : Nat} {a_t_beforeF : Nat} {a_t_aside : Nat} {a_t_asideF : Nat} {a_t_saved : Nat} {a_t_savedF : Nat} {a_t_past : Nat} {a_t_pastF : Nat} {a_t_text : Nat} {a_t_signs : Nat} {a_t_numbers : Nat} {a_t_row : Nat} {a_t_isBrothOn : Nat} {a_t_dramsOn : Nat} {a_t_brothOn : Nat} {a_t_lowOn : Nat} {a_t_highOn : Nat} {a_t_lowStored : Nat} {a_t_highStored : Nat} {a_t_isBrothStored : Nat} {a_t_step : Nat} {a_t_stepF : Nat} {a_t_line : Nat} {t_thrown : Int32} {t_refused : Nat → Int32} {p1 : Int32} {p2 : Int32} {t_isSaved : Int32} {t_pastMany : Int32} {t_boiled : Int32} {t_length : Int32} {t_error : Int32} {t_tokens : Int32} {t_spoons : Int32} {t_mostSpoons : Int32} {t_cause : Int32} {t_causeDetail : Int32} {t_storeMany : Int32} {t_lineMany : Int32} {o : Int32 × Int32} (h : g_X12_reason t_thrown t_refused p1 p2 = some o) (hP0 : va_P (dC, dI) vwCl [(a_t, .inr (15, [.ref a_t_s, .ref a_t_f, .ref a_t_before, .ref a_t_beforeF, .ref a_t_aside, .ref a_t_asideF, .ref a_t_saved, .ref a_t_savedF, .int t_isSaved, .ref a_t_past, .ref a_t_pastF, .int t_pastMany, .int t_boiled, .int t_thrown, .ref a_t_refused, .ref a_t_text, .int t_length, .int t_error, .ref a_t_signs, .ref a_t_numbers, .int t_tokens, .int t_spoons, .int t_mostSpoons, .ref a_t_row, .ref a_t_isBrothOn, .ref a_t_dramsOn, .ref a_t_brothOn, .int t_cause, .int t_causeDetail, .ref a_t_lowOn, .ref a_t_highOn, .ref a_t_lowStored, .ref a_t_highStored, .ref a_t_isBrothStored, .int t_storeMany, .ref a_t_step, .ref a_t_stepF, .ref a_t_line, .int t_lineMany]))] Hh) (hR0 : va_P (dC, dI) vwCl [(a_t_refused, .inl (cT 0, 4, .inl t_refused))] Hh) (hD0 : va_D (fun _ => True) [(a_t, .inr (15, [.ref a_t_s, .ref a_t_f, .ref a_t_before, .ref a_t_beforeF, .ref a_t_aside, .ref a_t_asideF, .ref a_t_saved, .ref a_t_savedF, .int t_isSaved, .ref a_t_past, .ref a_t_pastF, .int t_pastMany, .int t_boiled, .int t_thrown, .ref a_t_refused, .ref a_t_text, .int t_length, .int t_error, .ref a_t_signs, .ref a_t_numbers, .int t_tokens, .int t_spoons, .int t_mostSpoons, .ref a_t_row, .ref a_t_isBrothOn, .ref a_t_dramsOn, .ref a_t_brothOn, .int t_cause, .int t_causeDetail, .ref a_t_lowOn, .ref a_t_highOn, .ref a_t_lowStored, .ref a_t_highStored, .ref a_t_isBrothStored, .int t_storeMany, .ref a_t_step, .ref a_t_stepF, .ref a_t_line, .int t_lineMany]))]) (hN0 : ∀ (k : Nat) (q : Nat × va_E), ([(a_t_refused, .inl (cT 0, 4, .inl t_refused))] : va_W)[k]? = some q → ¬ va_A [(a_t, .inr (15, [.ref a_t_s, .ref a_t_f, .ref a_t_before, .ref a_t_beforeF, .ref a_t_aside, .ref a_t_asideF, .ref a_t_saved, .ref a_t_savedF, .int t_isSaved, .ref a_t_past, .ref a_t_pastF, .int t_pastMany, .int t_boiled, .int t_thrown, .ref a_t_refused, .ref a_t_text, .int t_length, .int t_error, .ref a_t_signs, .ref a_t_numbers, .int t_tokens, .int t_spoons, .int t_mostSpoons, .ref a_t_row, .ref a_t_isBrothOn, .ref a_t_dramsOn, .ref a_t_brothOn, .int t_cause, .int t_causeDetail, .ref a_t_lowOn, .ref a_t_highOn, .ref a_t_lowStored, .ref a_t_highStored, .ref a_t_isBrothStored, .int t_storeMany, .ref a_t_step, .ref a_t_stepF, .ref a_t_line, .int t_lineMany]))] Hh.size q.1) : Met l yX12_reason (wA yX12_reason cX12_reason 4 (some .int)) ({ frames := 0, cells := 0, slots := 0, locals := 0 } : Room) (PK dC dI cT [.ref a_t, .int p1, .int p2] Hh) (va_Qi (fun x (_ : Unit) => x = o.1) (fun _ t => va_P (dC, dI) vwCl [(a_t, .inr (15, [.ref a_t_s, .ref a_t_f, .ref a_t_before, .ref a_t_beforeF, .ref a_t_aside, .ref a_t_asideF, .ref a_t_saved, .ref a_t_savedF, .int t_isSaved, .ref a_t_past, .ref a_t_pastF, .int t_pastMany, .int t_boiled, .int o.2, .ref a_t_refused, .ref a_t_text, .int t_length, .int t_error, .ref a_t_signs, .ref a_t_numbers, .int t_tokens, .int t_spoons, .int t_mostSpoons, .ref a_t_row, .ref a_t_isBrothOn, .ref a_t_dramsOn, .ref a_t_brothOn, .int t_cause, .int t_causeDetail, .ref a_t_lowOn, .ref a_t_highOn, .ref a_t_lowStored, .ref a_t_highStored, .ref a_t_isBrothStored, .int t_storeMany, .ref a_t_step, .ref a_t_stepF, .ref a_t_line, .int t_lineMany]))] t.heap) (va_A [(a_t, .inr (15, [.ref a_t_s, .ref a_t_f, .ref a_t_before, .ref a_t_beforeF, .ref a_t_aside, .ref a_t_asideF, .ref a_t_saved, .ref a_t_savedF, .int t_isSaved, .ref a_t_past, .ref a_t_pastF, .int t_pastMany, .int t_boiled, .int t_thrown, .ref a_t_refused, .ref a_t_text, .int t_length, .int t_error, .ref a_t_signs, .ref a_t_numbers, .int t_tokens, .int t_spoons, .int t_mostSpoons, .ref a_t_row, .ref a_t_isBrothOn, .ref a_t_dramsOn, .ref a_t_brothOn, .int t_cause, .int t_causeDetail, .ref a_t_lowOn, .ref a_t_highOn, .ref a_t_lowStored, .ref a_t_highStored, .ref a_t_isBrothStored, .int t_storeMany, .ref a_t_step, .ref a_t_stepF, .ref a_t_line, .int t_lineMany]))] Hh.size)) 0 0 (va_A [(a_t, .inr (15, [.ref a_t_s, .ref a_t_f, .ref a_t_before, .ref a_t_beforeF, .ref a_t_aside, .ref a_t_asideF, .ref a_t_saved, .ref a_t_savedF, .int t_isSaved, .ref a_t_past, .ref a_t_pastF, .int t_pastMany, .int t_boiled, .int t_thrown, .ref a_t_refused, .ref a_t_text, .int t_length, .int t_error, .ref a_t_signs, .ref a_t_numbers, .int t_tokens, .int t_spoons, .int t_mostSpoons, .ref a_t_row, .ref a_t_isBrothOn, .ref a_t_dramsOn, .ref a_t_brothOn, .int t_cause, .int t_causeDetail, .ref a_t_lowOn, .ref a_t_highOn, .ref a_t_lowStored, .ref a_t_highStored, .ref a_t_isBrothStored, .int t_storeMany, .ref a_t_step, .ref a_t_stepF, .ref a_t_line, .int t_lineMany]))] Hh.size) := by
  refine Met.ofW (cc := cX12_reason) (maxL := 4) (ret := (some .int)) (by decide) rfl ?_
  intro p e s m args below meth c s₁ B hml hv
  obtain ⟨rfl, hH, hK⟩ := hv
  subst hH
  have hx := B.exec
  have hb := B.bytes
  have hr := B.returns
  have hta : ∀ w ∈ ALLW, w.before [.ref a_t, .int p1, .int p2].toArray s = true := fun w hw => atoms_spec (ws := wA yX12_reason cX12_reason 4 (some .int)) B.pre w (List.mem_cons_of_mem _ hw)
  have hown : s.vm.findClass RX12 = some m.cls := findClass_of_methodNamed B.named
  have hlocks := B.notSynchronized
  have hD := hD0.self (sz := s.heap.size)
  have hNA := hN0
  generalize hAe : va_A [(a_t, .inr (15, [.ref a_t_s, .ref a_t_f, .ref a_t_before, .ref a_t_beforeF, .ref a_t_aside, .ref a_t_asideF, .ref a_t_saved, .ref a_t_savedF, .int t_isSaved, .ref a_t_past, .ref a_t_pastF, .int t_pastMany, .int t_boiled, .int t_thrown, .ref a_t_refused, .ref a_t_text, .int t_length, .int t_error, .ref a_t_signs, .ref a_t_numbers, .int t_tokens, .int t_spoons, .int t_mostSpoons, .ref a_t_row, .ref a_t_isBrothOn, .ref a_t_dramsOn, .ref a_t_brothOn, .int t_cause, .int t_causeDetail, .ref a_t_lowOn, .ref a_t_highOn, .ref a_t_lowStored, .ref a_t_highStored, .ref a_t_isBrothStored, .int t_storeMany, .ref a_t_step, .ref a_t_stepF, .ref a_t_line, .int t_lineMany]))] s.heap.size = A at hD hNA ⊢
  have hP := hP0
  have hA : ∀ q : Nat, s.heap.size ≤ q → A q := fun q h => by rw [← hAe]; exact Or.inr h
  have hS : va_S A s.heap s.heap [] := va_S.rf
  have hl := lv_entry [.ref a_t, .int p1, .int p2] (n := 4) (Nat.le_of_ble_eq_true rfl)
  rw [lg_entry_eq]
  generalize (lg_sl [.ref a_t, .int p1, .int p2] ++ List.replicate (4 - (lg_sl [.ref a_t, .int p1, .int p2]).length) Slot.unset).toArray = ls at hl ⊢
  have hl : lv_has ls 4 [(0, .ref a_t), (1, .int p1), (2, .int p2)] := hl
  obtain ⟨Q, hQ⟩ : ∃ Q, Q = MQ below (va_Qi (fun x (_ : Unit) => x = o.1) (fun _ t => va_P (dC, dI) vwCl [(a_t, .inr (15, [.ref a_t_s, .ref a_t_f, .ref a_t_before, .ref a_t_beforeF, .ref a_t_aside, .ref a_t_asideF, .ref a_t_saved, .ref a_t_savedF, .int t_isSaved, .ref a_t_past, .ref a_t_pastF, .int t_pastMany, .int t_boiled, .int o.2, .ref a_t_refused, .ref a_t_text, .int t_length, .int t_error, .ref a_t_signs, .ref a_t_numbers, .int t_tokens, .int t_spoons, .int t_mostSpoons, .ref a_t_row, .ref a_t_isBrothOn, .ref a_t_dramsOn, .ref a_t_brothOn, .int t_cause, .int t_causeDetail, .ref a_t_lowOn, .ref a_t_highOn, .ref a_t_lowStored, .ref a_t_highStored, .ref a_t_isBrothStored, .int t_storeMany, .ref a_t_step, .ref a_t_stepF, .ref a_t_line, .int t_lineMany]))] t.heap) A) [.ref a_t, .int p1, .int p2].toArray s 0 0 A := ⟨_, rfl⟩
  rw [← hQ]
  have wB_25 : ∀ (x3_25 : Int32) (s1_25 : Int32) (H : Heap) (locs : List Loc) (ls : Array Slot), g_X12_reason_b25 t_refused p2 x3_25 s1_25 = some o → va_P (dC, dI) vwCl [(a_t, .inr (15, [.ref a_t_s, .ref a_t_f, .ref a_t_before, .ref a_t_beforeF, .ref a_t_aside, .ref a_t_asideF, .ref a_t_saved, .ref a_t_savedF, .int t_isSaved, .ref a_t_past, .ref a_t_pastF, .int t_pastMany, .int t_boiled, .int t_thrown, .ref a_t_refused, .ref a_t_text, .int t_length, .int t_error, .ref a_t_signs, .ref a_t_numbers, .int t_tokens, .int t_spoons, .int t_mostSpoons, .ref a_t_row, .ref a_t_isBrothOn, .ref a_t_dramsOn, .ref a_t_brothOn, .int t_cause, .int t_causeDetail, .ref a_t_lowOn, .ref a_t_highOn, .ref a_t_lowStored, .ref a_t_highStored, .ref a_t_isBrothStored, .int t_storeMany, .ref a_t_step, .ref a_t_stepF, .ref a_t_line, .int t_lineMany]))] H → va_D A [(a_t, .inr (15, [.ref a_t_s, .ref a_t_f, .ref a_t_before, .ref a_t_beforeF, .ref a_t_aside, .ref a_t_asideF, .ref a_t_saved, .ref a_t_savedF, .int t_isSaved, .ref a_t_past, .ref a_t_pastF, .int t_pastMany, .int t_boiled, .int t_thrown, .ref a_t_refused, .ref a_t_text, .int t_length, .int t_error, .ref a_t_signs, .ref a_t_numbers, .int t_tokens, .int t_spoons, .int t_mostSpoons, .ref a_t_row, .ref a_t_isBrothOn, .ref a_t_dramsOn, .ref a_t_brothOn, .int t_cause, .int t_causeDetail, .ref a_t_lowOn, .ref a_t_highOn, .ref a_t_lowStored, .ref a_t_highStored, .ref a_t_isBrothStored, .int t_storeMany, .ref a_t_step, .ref a_t_stepF, .ref a_t_line, .int t_lineMany]))] → va_S A s.heap H locs → lv_has ls 4 [(0, .ref a_t), (2, .int p2), (3, .int x3_25)] → W p l e ({ frames := 0, cells := 0, slots := 0, locals := 0 } : Room) s m [.ref a_t, .int p1, .int p2].toArray below meth c H locs 0 0 Q (F0 m 25 ls [.int s1_25, .ref a_t]) := by
    intro x3_25 s1_25 H locs ls h hP hD hS hl
    unfold g_X12_reason_b25 at h
    refine va_put (D := (dC, dI)) (ci := 15) (v := .int s1_25) (ty := .int) (C := RX12) (T := TX12) (N := 39) hx hb hta inX12w tyX12 tyX12_ok nmX12 hown hK hP hD hS 0 rfl rfl 13 (by decide) (hta _ lk_X12_96) (fun _ h9 => h9) rfl (by decide +kernel) rfl rfl (Nat.le_of_ble_eq_true rfl) dX12_reason_25 (fun H locs hP hD hS => ?_)
    have hP : va_P (dC, dI) vwCl [(a_t, .inr (15, [.ref a_t_s, .ref a_t_f, .ref a_t_before, .ref a_t_beforeF, .ref a_t_aside, .ref a_t_asideF, .ref a_t_saved, .ref a_t_savedF, .int t_isSaved, .ref a_t_past, .ref a_t_pastF, .int t_pastMany, .int t_boiled, .int s1_25, .ref a_t_refused, .ref a_t_text, .int t_length, .int t_error, .ref a_t_signs, .ref a_t_numbers, .int t_tokens, .int t_spoons, .int t_mostSpoons, .ref a_t_row, .ref a_t_isBrothOn, .ref a_t_dramsOn, .ref a_t_brothOn, .int t_cause, .int t_causeDetail, .ref a_t_lowOn, .ref a_t_highOn, .ref a_t_lowStored, .ref a_t_highStored, .ref a_t_isBrothStored, .int t_storeMany, .ref a_t_step, .ref a_t_stepF, .ref a_t_line, .int t_lineMany]))] H := hP
    have hD : va_D A [(a_t, .inr (15, [.ref a_t_s, .ref a_t_f, .ref a_t_before, .ref a_t_beforeF, .ref a_t_aside, .ref a_t_asideF, .ref a_t_saved, .ref a_t_savedF, .int t_isSaved, .ref a_t_past, .ref a_t_pastF, .int t_pastMany, .int t_boiled, .int s1_25, .ref a_t_refused, .ref a_t_text, .int t_length, .int t_error, .ref a_t_signs, .ref a_t_numbers, .int t_tokens, .int t_spoons, .int t_mostSpoons, .ref a_t_row, .ref a_t_isBrothOn, .ref a_t_dramsOn, .ref a_t_brothOn, .int t_cause, .int t_causeDetail, .ref a_t_lowOn, .ref a_t_highOn, .ref a_t_lowStored, .ref a_t_highStored, .ref a_t_isBrothStored, .int t_storeMany, .ref a_t_step, .ref a_t_stepF, .ref a_t_line, .int t_lineMany]))] := hD
    refine lv_aload_n hx hb dX12_reason_28 rfl (lv_at hl 0 rfl) ?_
    refine va_get (D := (dC, dI)) (ci := 15) (v := .int s1_25) (C := RX12) (T := TX12) (N := 39) hx hb hta inX12w hown hK hP 0 rfl rfl 13 (by decide) (hta _ lk_X12_96) (fun _ h9 => h9) rfl dX12_reason_29 ?_
    refine lv_if_le (tgt := 39) hx hb dX12_reason_32 (by decide) (fun c0 => ?_) (fun c0 => ?_)
    · have h := (if_pos c0).symm.trans h
      refine lv_aload_n hx hb dX12_reason_39 rfl (lv_at hl 0 rfl) ?_
      refine va_get (D := (dC, dI)) (ci := 15) (v := .ref a_t_refused) (C := RX12) (T := TX12) (N := 39) hx hb hta inX12w hown hK hP 0 rfl rfl 14 (by decide) (hta _ lk_X12_41) (fun _ h9 => h9) rfl dX12_reason_40 ?_
      refine lv_iload_n hx hb dX12_reason_43 rfl (lv_at hl 2 rfl) ?_
      refine lv_iload_n hx hb dX12_reason_44 rfl (lv_at hl 1 rfl) ?_
      refine lv_if_eq (tgt := 52) hx hb dX12_reason_45 (by decide) (fun c0 => ?_) (fun c0 => ?_)
      · have h := (if_pos c0).symm.trans h
        refine lv_iconst (v := 0) hx hb dX12_reason_52 (by decide) ?_
        refine lv_iadd hx hb dX12_reason_53 ?_
        obtain ⟨hc, h⟩ := gc_some h
        refine va_iald hx hb hK (rk hR0 hNA hS) 0 0 rfl rfl (inb_in hc) dX12_reason_54 ?_
        refine lv_topi (fun v1 e_v1 => ?_)
        have h := gl_use e_v1 h
        have ho := Option.some.inj h
        rw [hQ]
        exact W.iret (v := v1) hx hb hr (fun t ht hW => ⟨⟨v1, (), rfl, by rw [← ho], by show va_P (dC, dI) vwCl _ t.heap; rw [ht, ← ho]; exact hP⟩, hS.F ht⟩) hS.2.2 dX12_reason_55
      · have h := (if_neg c0).symm.trans h
        refine lv_iconst (v := 1) hx hb dX12_reason_48 (by decide) ?_
        refine lv_goto (tgt := 53) hx hb dX12_reason_49 (by decide) ?_
        refine lv_iadd hx hb dX12_reason_53 ?_
        obtain ⟨hc, h⟩ := gc_some h
        refine va_iald hx hb hK (rk hR0 hNA hS) 0 0 rfl rfl (inb_in hc) dX12_reason_54 ?_
        refine lv_topi (fun v2 e_v2 => ?_)
        have h := gl_use e_v2 h
        have ho := Option.some.inj h
        rw [hQ]
        exact W.iret (v := v2) hx hb hr (fun t ht hW => ⟨⟨v2, (), rfl, by rw [← ho], by show va_P (dC, dI) vwCl _ t.heap; rw [ht, ← ho]; exact hP⟩, hS.F ht⟩) hS.2.2 dX12_reason_55
    · have h := (if_neg c0).symm.trans h
      refine lv_iconst (v := 0) hx hb dX12_reason_35 (by decide) ?_
      refine lv_goto (tgt := 55) hx hb dX12_reason_36 (by decide) ?_
      have ho := Option.some.inj h
      rw [hQ]
      exact W.iret (v := 0) hx hb hr (fun t ht hW => ⟨⟨0, (), rfl, by rw [← ho], by show va_P (dC, dI) vwCl _ t.heap; rw [ht, ← ho]; exact hP⟩, hS.F ht⟩) hS.2.2 dX12_reason_55
  have wB_9 : ∀ (s0_9 : Int32) (H : Heap) (locs : List Loc) (ls : Array Slot), g_X12_reason_b9 t_refused p2 s0_9 = some o → va_P (dC, dI) vwCl [(a_t, .inr (15, [.ref a_t_s, .ref a_t_f, .ref a_t_before, .ref a_t_beforeF, .ref a_t_aside, .ref a_t_asideF, .ref a_t_saved, .ref a_t_savedF, .int t_isSaved, .ref a_t_past, .ref a_t_pastF, .int t_pastMany, .int t_boiled, .int t_thrown, .ref a_t_refused, .ref a_t_text, .int t_length, .int t_error, .ref a_t_signs, .ref a_t_numbers, .int t_tokens, .int t_spoons, .int t_mostSpoons, .ref a_t_row, .ref a_t_isBrothOn, .ref a_t_dramsOn, .ref a_t_brothOn, .int t_cause, .int t_causeDetail, .ref a_t_lowOn, .ref a_t_highOn, .ref a_t_lowStored, .ref a_t_highStored, .ref a_t_isBrothStored, .int t_storeMany, .ref a_t_step, .ref a_t_stepF, .ref a_t_line, .int t_lineMany]))] H → va_D A [(a_t, .inr (15, [.ref a_t_s, .ref a_t_f, .ref a_t_before, .ref a_t_beforeF, .ref a_t_aside, .ref a_t_asideF, .ref a_t_saved, .ref a_t_savedF, .int t_isSaved, .ref a_t_past, .ref a_t_pastF, .int t_pastMany, .int t_boiled, .int t_thrown, .ref a_t_refused, .ref a_t_text, .int t_length, .int t_error, .ref a_t_signs, .ref a_t_numbers, .int t_tokens, .int t_spoons, .int t_mostSpoons, .ref a_t_row, .ref a_t_isBrothOn, .ref a_t_dramsOn, .ref a_t_brothOn, .int t_cause, .int t_causeDetail, .ref a_t_lowOn, .ref a_t_highOn, .ref a_t_lowStored, .ref a_t_highStored, .ref a_t_isBrothStored, .int t_storeMany, .ref a_t_step, .ref a_t_stepF, .ref a_t_line, .int t_lineMany]))] → va_S A s.heap H locs → lv_has ls 4 [(0, .ref a_t), (2, .int p2)] → W p l e ({ frames := 0, cells := 0, slots := 0, locals := 0 } : Room) s m [.ref a_t, .int p1, .int p2].toArray below meth c H locs 0 0 Q (F0 m 9 ls [.int s0_9]) := by
    intro s0_9 H locs ls h hP hD hS hl
    unfold g_X12_reason_b9 at h
    refine lv_istore_n (lv' := [(3, .int s0_9), (0, .ref a_t), (2, .int p2)]) hx hb dX12_reason_9 rfl hl (by decide) rfl (fun ls hl => ?_)
    refine lv_aload_n hx hb dX12_reason_10 rfl (lv_at hl 1 rfl) ?_
    refine lv_aload_n hx hb dX12_reason_11 rfl (lv_at hl 1 rfl) ?_
    refine va_get (D := (dC, dI)) (ci := 15) (v := .ref a_t_refused) (C := RX12) (T := TX12) (N := 39) hx hb hta inX12w hown hK hP 0 rfl rfl 14 (by decide) (hta _ lk_X12_41) (fun _ h9 => h9) rfl dX12_reason_12 ?_
    refine lv_iload_n hx hb dX12_reason_15 rfl (lv_at hl 0 rfl) ?_
    obtain ⟨hc, h⟩ := gc_some h
    refine va_iald hx hb hK (rk hR0 hNA hS) 0 0 rfl rfl (inb_in hc) dX12_reason_16 ?_
    refine lv_if_ne (tgt := 24) hx hb dX12_reason_17 (by decide) (fun c0 => ?_) (fun c0 => ?_)
    · have h := (if_neg c0).symm.trans h
      refine lv_iconst (v := 0) hx hb dX12_reason_24 (by decide) ?_
      exact wB_25 s0_9 0 _ _ _ h hP hD hS (lv_sub hl [1, 2, 0] rfl)
    · have h := (if_pos c0).symm.trans h
      refine lv_iconst (v := 1) hx hb dX12_reason_20 (by decide) ?_
      refine lv_goto (tgt := 25) hx hb dX12_reason_21 (by decide) ?_
      exact wB_25 s0_9 1 _ _ _ h hP hD hS (lv_sub hl [1, 2, 0] rfl)
  unfold g_X12_reason at h
  refine lv_iload_n hx hb dX12_reason_0 rfl (lv_at hl 1 rfl) ?_
  refine lv_if_eq (tgt := 8) hx hb dX12_reason_1 (by decide) (fun c0 => ?_) (fun c0 => ?_)
  · have h := (if_pos c0).symm.trans h
    refine lv_iconst (v := 0) hx hb dX12_reason_8 (by decide) ?_
    exact wB_9 0 _ _ _ h hP hD hS (lv_sub hl [0, 2] rfl)
  · have h := (if_neg c0).symm.trans h
    refine lv_iconst (v := 2) hx hb dX12_reason_4 (by decide) ?_
    refine lv_goto (tgt := 9) hx hb dX12_reason_5 (by decide) ?_
    exact wB_9 2 _ _ _ h hP hD hS (lv_sub hl [0, 2] rfl)
def g_X12_isCauldron (t_s : Nat → Int32) (p1 : Int32) : Option (Int32) :=
  gc (inb (0 : Int32) 282) <|
  gb (g_X12_in p1.toInt64 (0 : Int64) (((t_s (0 : Int32).toNatClampNeg) - 1).toInt64)) fun r1 =>
  gc (bo r1) <|
  some (r1)
set_option maxHeartbeats 4000000 in
set_option maxRecDepth 100000 in
theorem c_X12_isCauldron (l : Launch) (dC : Nat → ClassId) (dI : Nat → Nat → Nat) (cT : Nat → ClassId) {Hh : Heap} {a_t : Nat} {a_t_s : Nat} {a_t_f : Nat} {a_t_before : Nat} {a_t_beforeF : Nat} {a_t_aside : Nat} {a_t_asideF : Nat} {a_t_saved : Nat} {a_t_savedF : Nat} {a_t_past : Nat} {a_t_pastF : Nat} {a_t_refused : Nat} {a_t_text : Nat} {a_t_signs : Nat} {a_t_numbers : Nat} {a_t_row : Nat} {a_t_isBrothOn : Nat} {a_t_dramsOn : Nat} {a_t_brothOn : Nat} {a_t_lowOn : Nat} {a_t_highOn : Nat} {a_t_lowStored : Nat} {a_t_highStored : Nat} {a_t_isBrothStored : Nat} {a_t_step : Nat} {a_t_stepF : Nat} {a_t_line : Nat} {t_s : Nat → Int32} {p1 : Int32} {t_isSaved : Int32} {t_pastMany : Int32} {t_boiled : Int32} {t_thrown : Int32} {t_length : Int32} {t_error : Int32} {t_tokens : Int32} {t_spoons : Int32} {t_mostSpoons : Int32} {t_cause : Int32} {t_causeDetail : Int32} {t_storeMany : Int32} {t_lineMany : Int32} {o : Int32} (h : g_X12_isCauldron t_s p1 = some o) (hR0 : va_P (dC, dI) vwCl [(a_t, .inr (15, [.ref a_t_s, .ref a_t_f, .ref a_t_before, .ref a_t_beforeF, .ref a_t_aside, .ref a_t_asideF, .ref a_t_saved, .ref a_t_savedF, .int t_isSaved, .ref a_t_past, .ref a_t_pastF, .int t_pastMany, .int t_boiled, .int t_thrown, .ref a_t_refused, .ref a_t_text, .int t_length, .int t_error, .ref a_t_signs, .ref a_t_numbers, .int t_tokens, .int t_spoons, .int t_mostSpoons, .ref a_t_row, .ref a_t_isBrothOn, .ref a_t_dramsOn, .ref a_t_brothOn, .int t_cause, .int t_causeDetail, .ref a_t_lowOn, .ref a_t_highOn, .ref a_t_lowStored, .ref a_t_highStored, .ref a_t_isBrothStored, .int t_storeMany, .ref a_t_step, .ref a_t_stepF, .ref a_t_line, .int t_lineMany])), (a_t_s, .inl (cT 0, 282, .inl t_s))] Hh) : Met l yX12_isCauldron (wA yX12_isCauldron cX12_isCauldron 2 (some .boolean)) ({ frames := 1, cells := 0, slots := 0, locals := 25 } : Room) (PK dC dI cT [.ref a_t, .int p1] Hh) (va_Qi (fun x (_ : Unit) => x = o) (fun _ t => t.heap = Hh) (va_A [] Hh.size)) 0 0 (va_A [] Hh.size) := by
  refine Met.ofW (cc := cX12_isCauldron) (maxL := 2) (ret := (some .boolean)) (by decide) rfl ?_
  intro p e s m args below meth c s₁ B hml hv
  obtain ⟨rfl, hH, hK⟩ := hv
  subst hH
  have hx := B.exec
  have hb := B.bytes
  have hr := B.returns
  have hta : ∀ w ∈ ALLW, w.before [.ref a_t, .int p1].toArray s = true := fun w hw => atoms_spec (ws := wA yX12_isCauldron cX12_isCauldron 2 (some .boolean)) B.pre w (List.mem_cons_of_mem _ hw)
  have hown : s.vm.findClass RX12 = some m.cls := findClass_of_methodNamed B.named
  have hlocks := B.notSynchronized
  generalize hAe : va_A [] s.heap.size = A
  have hA : ∀ q : Nat, s.heap.size ≤ q → A q := fun q h => by rw [← hAe]; exact Or.inr h
  have hS : va_S A s.heap s.heap [] := va_S.rf
  have hl := lv_entry [.ref a_t, .int p1] (n := 2) (Nat.le_of_ble_eq_true rfl)
  rw [lg_entry_eq]
  generalize (lg_sl [.ref a_t, .int p1] ++ List.replicate (2 - (lg_sl [.ref a_t, .int p1]).length) Slot.unset).toArray = ls at hl ⊢
  have hl : lv_has ls 2 [(0, .ref a_t), (1, .int p1)] := hl
  unfold g_X12_isCauldron at h
  refine lv_iload_n hx hb dX12_isCauldron_0 rfl (lv_at hl 1 rfl) ?_
  refine lv_i2l hx hb dX12_isCauldron_1 rfl ?_
  refine lv_lconst (v := 0) hx hb dX12_isCauldron_2 (by decide) ?_
  refine lv_aload_n hx hb dX12_isCauldron_3 rfl (lv_at hl 0 rfl) ?_
  refine va_get (D := (dC, dI)) (ci := 15) (v := .ref a_t_s) (C := RX12) (T := TX12) (N := 39) hx hb hta inX12w hown hK hR0 0 rfl rfl 0 (by decide) (hta _ lk_X12_9) (fun _ h9 => h9) rfl dX12_isCauldron_4 ?_
  refine lv_iconst (v := 0) hx hb dX12_isCauldron_7 (by decide) ?_
  obtain ⟨hc, h⟩ := gc_some h
  refine va_iald hx hb hK hR0 1 0 rfl rfl (inb_in hc) dX12_isCauldron_8 ?_
  refine lv_iconst (v := 1) hx hb dX12_isCauldron_9 (by decide) ?_
  refine lv_isub hx hb dX12_isCauldron_10 ?_
  refine lv_i2l hx hb dX12_isCauldron_11 rfl ?_
  obtain ⟨r1, hq, h⟩ := gb_some h
  refine crI (va_runS (As := [.long p1.toInt64, .long 0, .long (((t_s (0 : Int32).toNatClampNeg) - 1).toInt64)]) (rest := []) ⟨hx, hb, hml, hown, hta⟩ (c_X12_in l dC dI cT hq) (cS hta lm_X12_112 md_X12_in ⟨(Nat.le_of_ble_eq_true rfl), (Nat.le_of_ble_eq_true rfl)⟩) ⟨fbK, fun U hU hW => ⟨rfl, hU, va_K.moved hW.alike hK⟩⟩ rfl rfl hl.1 rfl (lv_room (Nat.le_of_ble_eq_true rfl)) dX12_isCauldron_12 ⟨(Nat.le_of_ble_eq_true rfl), (Nat.le_of_ble_eq_true rfl)⟩) hS hA (fun locs hS => ?_)
  obtain ⟨hc, h⟩ := gc_some h
  have ho := Option.some.inj h
  exact W.zret (ty := .boolean) (v := r1) hx hb hr (bo_n hc) (fun t ht hW => ⟨⟨r1, (), rfl, by rw [← ho], ht⟩, hS.F ht⟩) hS.2.2 dX12_isCauldron_15
def g_X12_isSpell (t_s : Nat → Int32) (p1 : Int32) : Option (Int32) :=
  gc (inb (1 : Int32) 282) <|
  gb (g_X12_in p1.toInt64 (0 : Int64) (((t_s (1 : Int32).toNatClampNeg) - 1).toInt64)) fun r1 =>
  gc (bo r1) <|
  some (r1)
set_option maxHeartbeats 4000000 in
set_option maxRecDepth 100000 in
theorem c_X12_isSpell (l : Launch) (dC : Nat → ClassId) (dI : Nat → Nat → Nat) (cT : Nat → ClassId) {Hh : Heap} {a_t : Nat} {a_t_s : Nat} {a_t_f : Nat} {a_t_before : Nat} {a_t_beforeF : Nat} {a_t_aside : Nat} {a_t_asideF : Nat} {a_t_saved : Nat} {a_t_savedF : Nat} {a_t_past : Nat} {a_t_pastF : Nat} {a_t_refused : Nat} {a_t_text : Nat} {a_t_signs : Nat} {a_t_numbers : Nat} {a_t_row : Nat} {a_t_isBrothOn : Nat} {a_t_dramsOn : Nat} {a_t_brothOn : Nat} {a_t_lowOn : Nat} {a_t_highOn : Nat} {a_t_lowStored : Nat} {a_t_highStored : Nat} {a_t_isBrothStored : Nat} {a_t_step : Nat} {a_t_stepF : Nat} {a_t_line : Nat} {t_s : Nat → Int32} {p1 : Int32} {t_isSaved : Int32} {t_pastMany : Int32} {t_boiled : Int32} {t_thrown : Int32} {t_length : Int32} {t_error : Int32} {t_tokens : Int32} {t_spoons : Int32} {t_mostSpoons : Int32} {t_cause : Int32} {t_causeDetail : Int32} {t_storeMany : Int32} {t_lineMany : Int32} {o : Int32} (h : g_X12_isSpell t_s p1 = some o) (hR0 : va_P (dC, dI) vwCl [(a_t, .inr (15, [.ref a_t_s, .ref a_t_f, .ref a_t_before, .ref a_t_beforeF, .ref a_t_aside, .ref a_t_asideF, .ref a_t_saved, .ref a_t_savedF, .int t_isSaved, .ref a_t_past, .ref a_t_pastF, .int t_pastMany, .int t_boiled, .int t_thrown, .ref a_t_refused, .ref a_t_text, .int t_length, .int t_error, .ref a_t_signs, .ref a_t_numbers, .int t_tokens, .int t_spoons, .int t_mostSpoons, .ref a_t_row, .ref a_t_isBrothOn, .ref a_t_dramsOn, .ref a_t_brothOn, .int t_cause, .int t_causeDetail, .ref a_t_lowOn, .ref a_t_highOn, .ref a_t_lowStored, .ref a_t_highStored, .ref a_t_isBrothStored, .int t_storeMany, .ref a_t_step, .ref a_t_stepF, .ref a_t_line, .int t_lineMany])), (a_t_s, .inl (cT 0, 282, .inl t_s))] Hh) : Met l yX12_isSpell (wA yX12_isSpell cX12_isSpell 2 (some .boolean)) ({ frames := 1, cells := 0, slots := 0, locals := 25 } : Room) (PK dC dI cT [.ref a_t, .int p1] Hh) (va_Qi (fun x (_ : Unit) => x = o) (fun _ t => t.heap = Hh) (va_A [] Hh.size)) 0 0 (va_A [] Hh.size) := by
  refine Met.ofW (cc := cX12_isSpell) (maxL := 2) (ret := (some .boolean)) (by decide) rfl ?_
  intro p e s m args below meth c s₁ B hml hv
  obtain ⟨rfl, hH, hK⟩ := hv
  subst hH
  have hx := B.exec
  have hb := B.bytes
  have hr := B.returns
  have hta : ∀ w ∈ ALLW, w.before [.ref a_t, .int p1].toArray s = true := fun w hw => atoms_spec (ws := wA yX12_isSpell cX12_isSpell 2 (some .boolean)) B.pre w (List.mem_cons_of_mem _ hw)
  have hown : s.vm.findClass RX12 = some m.cls := findClass_of_methodNamed B.named
  have hlocks := B.notSynchronized
  generalize hAe : va_A [] s.heap.size = A
  have hA : ∀ q : Nat, s.heap.size ≤ q → A q := fun q h => by rw [← hAe]; exact Or.inr h
  have hS : va_S A s.heap s.heap [] := va_S.rf
  have hl := lv_entry [.ref a_t, .int p1] (n := 2) (Nat.le_of_ble_eq_true rfl)
  rw [lg_entry_eq]
  generalize (lg_sl [.ref a_t, .int p1] ++ List.replicate (2 - (lg_sl [.ref a_t, .int p1]).length) Slot.unset).toArray = ls at hl ⊢
  have hl : lv_has ls 2 [(0, .ref a_t), (1, .int p1)] := hl
  unfold g_X12_isSpell at h
  refine lv_iload_n hx hb dX12_isSpell_0 rfl (lv_at hl 1 rfl) ?_
  refine lv_i2l hx hb dX12_isSpell_1 rfl ?_
  refine lv_lconst (v := 0) hx hb dX12_isSpell_2 (by decide) ?_
  refine lv_aload_n hx hb dX12_isSpell_3 rfl (lv_at hl 0 rfl) ?_
  refine va_get (D := (dC, dI)) (ci := 15) (v := .ref a_t_s) (C := RX12) (T := TX12) (N := 39) hx hb hta inX12w hown hK hR0 0 rfl rfl 0 (by decide) (hta _ lk_X12_9) (fun _ h9 => h9) rfl dX12_isSpell_4 ?_
  refine lv_iconst (v := 1) hx hb dX12_isSpell_7 (by decide) ?_
  obtain ⟨hc, h⟩ := gc_some h
  refine va_iald hx hb hK hR0 1 0 rfl rfl (inb_in hc) dX12_isSpell_8 ?_
  refine lv_iconst (v := 1) hx hb dX12_isSpell_9 (by decide) ?_
  refine lv_isub hx hb dX12_isSpell_10 ?_
  refine lv_i2l hx hb dX12_isSpell_11 rfl ?_
  obtain ⟨r1, hq, h⟩ := gb_some h
  refine crI (va_runS (As := [.long p1.toInt64, .long 0, .long (((t_s (1 : Int32).toNatClampNeg) - 1).toInt64)]) (rest := []) ⟨hx, hb, hml, hown, hta⟩ (c_X12_in l dC dI cT hq) (cS hta lm_X12_112 md_X12_in ⟨(Nat.le_of_ble_eq_true rfl), (Nat.le_of_ble_eq_true rfl)⟩) ⟨fbK, fun U hU hW => ⟨rfl, hU, va_K.moved hW.alike hK⟩⟩ rfl rfl hl.1 rfl (lv_room (Nat.le_of_ble_eq_true rfl)) dX12_isSpell_12 ⟨(Nat.le_of_ble_eq_true rfl), (Nat.le_of_ble_eq_true rfl)⟩) hS hA (fun locs hS => ?_)
  obtain ⟨hc, h⟩ := gc_some h
  have ho := Option.some.inj h
  exact W.zret (ty := .boolean) (v := r1) hx hb hr (bo_n hc) (fun t ht hW => ⟨⟨r1, (), rfl, by rw [← ho], ht⟩, hS.F ht⟩) hS.2.2 dX12_isSpell_15
def g_X12_of (t_s : Nat → Int32) (p1 : Int32) (p2 : Int32) : Option (Int32) :=
  gc (inb ((4 + (5 * p1)) + p2) 282) <|
  gl (t_s ((4 + (5 * p1)) + p2).toNatClampNeg) fun v1 =>
  some (v1)
set_option maxHeartbeats 4000000 in
set_option maxRecDepth 100000 in
theorem c_X12_of (l : Launch) (dC : Nat → ClassId) (dI : Nat → Nat → Nat) (cT : Nat → ClassId) {Hh : Heap} {a_t : Nat} {a_t_s : Nat} {a_t_f : Nat} {a_t_before : Nat} {a_t_beforeF : Nat} {a_t_aside : Nat} {a_t_asideF : Nat} {a_t_saved : Nat} {a_t_savedF : Nat} {a_t_past : Nat} {a_t_pastF : Nat} {a_t_refused : Nat} {a_t_text : Nat} {a_t_signs : Nat} {a_t_numbers : Nat} {a_t_row : Nat} {a_t_isBrothOn : Nat} {a_t_dramsOn : Nat} {a_t_brothOn : Nat} {a_t_lowOn : Nat} {a_t_highOn : Nat} {a_t_lowStored : Nat} {a_t_highStored : Nat} {a_t_isBrothStored : Nat} {a_t_step : Nat} {a_t_stepF : Nat} {a_t_line : Nat} {t_s : Nat → Int32} {p1 : Int32} {p2 : Int32} {t_isSaved : Int32} {t_pastMany : Int32} {t_boiled : Int32} {t_thrown : Int32} {t_length : Int32} {t_error : Int32} {t_tokens : Int32} {t_spoons : Int32} {t_mostSpoons : Int32} {t_cause : Int32} {t_causeDetail : Int32} {t_storeMany : Int32} {t_lineMany : Int32} {o : Int32} (h : g_X12_of t_s p1 p2 = some o) (hR0 : va_P (dC, dI) vwCl [(a_t, .inr (15, [.ref a_t_s, .ref a_t_f, .ref a_t_before, .ref a_t_beforeF, .ref a_t_aside, .ref a_t_asideF, .ref a_t_saved, .ref a_t_savedF, .int t_isSaved, .ref a_t_past, .ref a_t_pastF, .int t_pastMany, .int t_boiled, .int t_thrown, .ref a_t_refused, .ref a_t_text, .int t_length, .int t_error, .ref a_t_signs, .ref a_t_numbers, .int t_tokens, .int t_spoons, .int t_mostSpoons, .ref a_t_row, .ref a_t_isBrothOn, .ref a_t_dramsOn, .ref a_t_brothOn, .int t_cause, .int t_causeDetail, .ref a_t_lowOn, .ref a_t_highOn, .ref a_t_lowStored, .ref a_t_highStored, .ref a_t_isBrothStored, .int t_storeMany, .ref a_t_step, .ref a_t_stepF, .ref a_t_line, .int t_lineMany])), (a_t_s, .inl (cT 0, 282, .inl t_s))] Hh) : Met l yX12_of (wA yX12_of cX12_of 3 (some .int)) ({ frames := 0, cells := 0, slots := 0, locals := 0 } : Room) (PK dC dI cT [.ref a_t, .int p1, .int p2] Hh) (va_Qi (fun x (_ : Unit) => x = o) (fun _ t => t.heap = Hh) (va_A [] Hh.size)) 0 0 (va_A [] Hh.size) := by
  refine Met.ofW (cc := cX12_of) (maxL := 3) (ret := (some .int)) (by decide) rfl ?_
  intro p e s m args below meth c s₁ B hml hv
  obtain ⟨rfl, hH, hK⟩ := hv
  subst hH
  have hx := B.exec
  have hb := B.bytes
  have hr := B.returns
  have hta : ∀ w ∈ ALLW, w.before [.ref a_t, .int p1, .int p2].toArray s = true := fun w hw => atoms_spec (ws := wA yX12_of cX12_of 3 (some .int)) B.pre w (List.mem_cons_of_mem _ hw)
  have hown : s.vm.findClass RX12 = some m.cls := findClass_of_methodNamed B.named
  have hlocks := B.notSynchronized
  generalize hAe : va_A [] s.heap.size = A
  have hA : ∀ q : Nat, s.heap.size ≤ q → A q := fun q h => by rw [← hAe]; exact Or.inr h
  have hS : va_S A s.heap s.heap [] := va_S.rf
  have hl := lv_entry [.ref a_t, .int p1, .int p2] (n := 3) (Nat.le_of_ble_eq_true rfl)
  rw [lg_entry_eq]
  generalize (lg_sl [.ref a_t, .int p1, .int p2] ++ List.replicate (3 - (lg_sl [.ref a_t, .int p1, .int p2]).length) Slot.unset).toArray = ls at hl ⊢
  have hl : lv_has ls 3 [(0, .ref a_t), (1, .int p1), (2, .int p2)] := hl
  unfold g_X12_of at h
  refine lv_aload_n hx hb dX12_of_0 rfl (lv_at hl 0 rfl) ?_
  refine va_get (D := (dC, dI)) (ci := 15) (v := .ref a_t_s) (C := RX12) (T := TX12) (N := 39) hx hb hta inX12w hown hK hR0 0 rfl rfl 0 (by decide) (hta _ lk_X12_9) (fun _ h9 => h9) rfl dX12_of_1 ?_
  refine lv_iconst (v := 4) hx hb dX12_of_4 (by decide) ?_
  refine lv_iconst (v := 5) hx hb dX12_of_5 (by decide) ?_
  refine lv_iload_n hx hb dX12_of_6 rfl (lv_at hl 1 rfl) ?_
  refine lv_imul hx hb dX12_of_7 ?_
  refine lv_iadd hx hb dX12_of_8 ?_
  refine lv_iload_n hx hb dX12_of_9 rfl (lv_at hl 2 rfl) ?_
  refine lv_iadd hx hb dX12_of_10 ?_
  obtain ⟨hc, h⟩ := gc_some h
  refine va_iald hx hb hK hR0 1 0 rfl rfl (inb_in hc) dX12_of_11 ?_
  refine lv_topi (fun v1 e_v1 => ?_)
  have h := gl_use e_v1 h
  have ho := Option.some.inj h
  exact W.iret (v := v1) hx hb hr (fun t ht hW => ⟨⟨v1, (), rfl, by rw [← ho], ht⟩, hS.F ht⟩) hS.2.2 dX12_of_12
def g_X12_sets (t_s : Nat → Int32) (p1 : Int32) (p2 : Int32) (p3 : Int32) : Option ((Nat → Int32)) :=
  gc (inb ((4 + (5 * p1)) + p2) 282) <|
  some ((upd t_s ((4 + (5 * p1)) + p2).toNatClampNeg p3))
set_option maxHeartbeats 4000000 in
set_option maxRecDepth 100000 in
theorem c_X12_sets (l : Launch) (dC : Nat → ClassId) (dI : Nat → Nat → Nat) (cT : Nat → ClassId) {Hh : Heap} {a_t : Nat} {a_t_s : Nat} {a_t_f : Nat} {a_t_before : Nat} {a_t_beforeF : Nat} {a_t_aside : Nat} {a_t_asideF : Nat} {a_t_saved : Nat} {a_t_savedF : Nat} {a_t_past : Nat} {a_t_pastF : Nat} {a_t_refused : Nat} {a_t_text : Nat} {a_t_signs : Nat} {a_t_numbers : Nat} {a_t_row : Nat} {a_t_isBrothOn : Nat} {a_t_dramsOn : Nat} {a_t_brothOn : Nat} {a_t_lowOn : Nat} {a_t_highOn : Nat} {a_t_lowStored : Nat} {a_t_highStored : Nat} {a_t_isBrothStored : Nat} {a_t_step : Nat} {a_t_stepF : Nat} {a_t_line : Nat} {t_s : Nat → Int32} {p1 : Int32} {p2 : Int32} {p3 : Int32} {t_isSaved : Int32} {t_pastMany : Int32} {t_boiled : Int32} {t_thrown : Int32} {t_length : Int32} {t_error : Int32} {t_tokens : Int32} {t_spoons : Int32} {t_mostSpoons : Int32} {t_cause : Int32} {t_causeDetail : Int32} {t_storeMany : Int32} {t_lineMany : Int32} {o : (Nat → Int32)} (h : g_X12_sets t_s p1 p2 p3 = some o) (hP0 : va_P (dC, dI) vwCl [(a_t_s, .inl (cT 0, 282, .inl t_s))] Hh) (hR0 : va_P (dC, dI) vwCl [(a_t, .inr (15, [.ref a_t_s, .ref a_t_f, .ref a_t_before, .ref a_t_beforeF, .ref a_t_aside, .ref a_t_asideF, .ref a_t_saved, .ref a_t_savedF, .int t_isSaved, .ref a_t_past, .ref a_t_pastF, .int t_pastMany, .int t_boiled, .int t_thrown, .ref a_t_refused, .ref a_t_text, .int t_length, .int t_error, .ref a_t_signs, .ref a_t_numbers, .int t_tokens, .int t_spoons, .int t_mostSpoons, .ref a_t_row, .ref a_t_isBrothOn, .ref a_t_dramsOn, .ref a_t_brothOn, .int t_cause, .int t_causeDetail, .ref a_t_lowOn, .ref a_t_highOn, .ref a_t_lowStored, .ref a_t_highStored, .ref a_t_isBrothStored, .int t_storeMany, .ref a_t_step, .ref a_t_stepF, .ref a_t_line, .int t_lineMany]))] Hh) (hD0 : va_D (fun _ => True) [(a_t_s, .inl (cT 0, 282, .inl t_s))]) (hN0 : ∀ (k : Nat) (q : Nat × va_E), ([(a_t, .inr (15, [.ref a_t_s, .ref a_t_f, .ref a_t_before, .ref a_t_beforeF, .ref a_t_aside, .ref a_t_asideF, .ref a_t_saved, .ref a_t_savedF, .int t_isSaved, .ref a_t_past, .ref a_t_pastF, .int t_pastMany, .int t_boiled, .int t_thrown, .ref a_t_refused, .ref a_t_text, .int t_length, .int t_error, .ref a_t_signs, .ref a_t_numbers, .int t_tokens, .int t_spoons, .int t_mostSpoons, .ref a_t_row, .ref a_t_isBrothOn, .ref a_t_dramsOn, .ref a_t_brothOn, .int t_cause, .int t_causeDetail, .ref a_t_lowOn, .ref a_t_highOn, .ref a_t_lowStored, .ref a_t_highStored, .ref a_t_isBrothStored, .int t_storeMany, .ref a_t_step, .ref a_t_stepF, .ref a_t_line, .int t_lineMany]))] : va_W)[k]? = some q → ¬ va_A [(a_t_s, .inl (cT 0, 282, .inl t_s))] Hh.size q.1) : Met l yX12_sets (wA yX12_sets cX12_sets 4 none) ({ frames := 0, cells := 0, slots := 0, locals := 0 } : Room) (PK dC dI cT [.ref a_t, .int p1, .int p2, .int p3] Hh) (va_Qv (fun (_ : Unit) => True) (fun _ t => va_P (dC, dI) vwCl [(a_t_s, .inl (cT 0, 282, .inl o))] t.heap) (va_A [(a_t_s, .inl (cT 0, 282, .inl t_s))] Hh.size)) 0 0 (va_A [(a_t_s, .inl (cT 0, 282, .inl t_s))] Hh.size) := by
  refine Met.ofW (cc := cX12_sets) (maxL := 4) (ret := none) (by decide) rfl ?_
  intro p e s m args below meth c s₁ B hml hv
  obtain ⟨rfl, hH, hK⟩ := hv
  subst hH
  have hx := B.exec
  have hb := B.bytes
  have hr := B.returns
  have hta : ∀ w ∈ ALLW, w.before [.ref a_t, .int p1, .int p2, .int p3].toArray s = true := fun w hw => atoms_spec (ws := wA yX12_sets cX12_sets 4 none) B.pre w (List.mem_cons_of_mem _ hw)
  have hown : s.vm.findClass RX12 = some m.cls := findClass_of_methodNamed B.named
  have hlocks := B.notSynchronized
  have hD := hD0.self (sz := s.heap.size)
  have hNA := hN0
  generalize hAe : va_A [(a_t_s, .inl (cT 0, 282, .inl t_s))] s.heap.size = A at hD hNA ⊢
  have hP := hP0
  have hA : ∀ q : Nat, s.heap.size ≤ q → A q := fun q h => by rw [← hAe]; exact Or.inr h
  have hS : va_S A s.heap s.heap [] := va_S.rf
  have hl := lv_entry [.ref a_t, .int p1, .int p2, .int p3] (n := 4) (Nat.le_of_ble_eq_true rfl)
  rw [lg_entry_eq]
  generalize (lg_sl [.ref a_t, .int p1, .int p2, .int p3] ++ List.replicate (4 - (lg_sl [.ref a_t, .int p1, .int p2, .int p3]).length) Slot.unset).toArray = ls at hl ⊢
  have hl : lv_has ls 4 [(0, .ref a_t), (1, .int p1), (2, .int p2), (3, .int p3)] := hl
  unfold g_X12_sets at h
  refine lv_aload_n hx hb dX12_sets_0 rfl (lv_at hl 0 rfl) ?_
  refine va_get (D := (dC, dI)) (ci := 15) (v := .ref a_t_s) (C := RX12) (T := TX12) (N := 39) hx hb hta inX12w hown hK (rk hR0 hNA hS) 0 rfl rfl 0 (by decide) (hta _ lk_X12_9) (fun _ h9 => h9) rfl dX12_sets_1 ?_
  refine lv_iconst (v := 4) hx hb dX12_sets_4 (by decide) ?_
  refine lv_iconst (v := 5) hx hb dX12_sets_5 (by decide) ?_
  refine lv_iload_n hx hb dX12_sets_6 rfl (lv_at hl 1 rfl) ?_
  refine lv_imul hx hb dX12_sets_7 ?_
  refine lv_iadd hx hb dX12_sets_8 ?_
  refine lv_iload_n hx hb dX12_sets_9 rfl (lv_at hl 2 rfl) ?_
  refine lv_iadd hx hb dX12_sets_10 ?_
  refine lv_iload_n hx hb dX12_sets_11 rfl (lv_at hl 3 rfl) ?_
  obtain ⟨hc, h⟩ := gc_some h
  refine va_iast hx hb hK hP hD hS 0 0 rfl rfl (inb_in hc) dX12_sets_12 (fun H locs hP hD hS => ?_)
  have hP : va_P (dC, dI) vwCl [(a_t_s, .inl (cT 0, 282, .inl (upd t_s ((4 + (5 * p1)) + p2).toNatClampNeg p3)))] H := hP
  have hD : va_D A [(a_t_s, .inl (cT 0, 282, .inl (upd t_s ((4 + (5 * p1)) + p2).toNatClampNeg p3)))] := hD
  have ho := Option.some.inj h
  exact W.vret hx hb hr (fun t ht hW => ⟨⟨(), rfl, trivial, by show va_P (dC, dI) vwCl _ t.heap; rw [ht, ← ho]; exact hP⟩, hS.F ht⟩) hS.2.2 dX12_sets_13
def g_X12_isBroth (t_s : Nat → Int32) (p1 : Int32) : Option (Int32) :=
  gb (g_X12_of t_s p1 (0 : Int32)) fun r1 =>
  if r1 = 1 then
    some (1)
  else
    some (0)
set_option maxHeartbeats 4000000 in
set_option maxRecDepth 100000 in
theorem c_X12_isBroth (l : Launch) (dC : Nat → ClassId) (dI : Nat → Nat → Nat) (cT : Nat → ClassId) {Hh : Heap} {a_t : Nat} {a_t_s : Nat} {a_t_f : Nat} {a_t_before : Nat} {a_t_beforeF : Nat} {a_t_aside : Nat} {a_t_asideF : Nat} {a_t_saved : Nat} {a_t_savedF : Nat} {a_t_past : Nat} {a_t_pastF : Nat} {a_t_refused : Nat} {a_t_text : Nat} {a_t_signs : Nat} {a_t_numbers : Nat} {a_t_row : Nat} {a_t_isBrothOn : Nat} {a_t_dramsOn : Nat} {a_t_brothOn : Nat} {a_t_lowOn : Nat} {a_t_highOn : Nat} {a_t_lowStored : Nat} {a_t_highStored : Nat} {a_t_isBrothStored : Nat} {a_t_step : Nat} {a_t_stepF : Nat} {a_t_line : Nat} {t_s : Nat → Int32} {p1 : Int32} {t_isSaved : Int32} {t_pastMany : Int32} {t_boiled : Int32} {t_thrown : Int32} {t_length : Int32} {t_error : Int32} {t_tokens : Int32} {t_spoons : Int32} {t_mostSpoons : Int32} {t_cause : Int32} {t_causeDetail : Int32} {t_storeMany : Int32} {t_lineMany : Int32} {o : Int32} (h : g_X12_isBroth t_s p1 = some o) (hR0 : va_P (dC, dI) vwCl [(a_t, .inr (15, [.ref a_t_s, .ref a_t_f, .ref a_t_before, .ref a_t_beforeF, .ref a_t_aside, .ref a_t_asideF, .ref a_t_saved, .ref a_t_savedF, .int t_isSaved, .ref a_t_past, .ref a_t_pastF, .int t_pastMany, .int t_boiled, .int t_thrown, .ref a_t_refused, .ref a_t_text, .int t_length, .int t_error, .ref a_t_signs, .ref a_t_numbers, .int t_tokens, .int t_spoons, .int t_mostSpoons, .ref a_t_row, .ref a_t_isBrothOn, .ref a_t_dramsOn, .ref a_t_brothOn, .int t_cause, .int t_causeDetail, .ref a_t_lowOn, .ref a_t_highOn, .ref a_t_lowStored, .ref a_t_highStored, .ref a_t_isBrothStored, .int t_storeMany, .ref a_t_step, .ref a_t_stepF, .ref a_t_line, .int t_lineMany])), (a_t_s, .inl (cT 0, 282, .inl t_s))] Hh) : Met l yX12_isBroth (wA yX12_isBroth cX12_isBroth 2 (some .boolean)) ({ frames := 1, cells := 0, slots := 0, locals := 22 } : Room) (PK dC dI cT [.ref a_t, .int p1] Hh) (va_Qi (fun x (_ : Unit) => x = o) (fun _ t => t.heap = Hh) (va_A [] Hh.size)) 0 0 (va_A [] Hh.size) := by
  refine Met.ofW (cc := cX12_isBroth) (maxL := 2) (ret := (some .boolean)) (by decide) rfl ?_
  intro p e s m args below meth c s₁ B hml hv
  obtain ⟨rfl, hH, hK⟩ := hv
  subst hH
  have hx := B.exec
  have hb := B.bytes
  have hr := B.returns
  have hta : ∀ w ∈ ALLW, w.before [.ref a_t, .int p1].toArray s = true := fun w hw => atoms_spec (ws := wA yX12_isBroth cX12_isBroth 2 (some .boolean)) B.pre w (List.mem_cons_of_mem _ hw)
  have hown : s.vm.findClass RX12 = some m.cls := findClass_of_methodNamed B.named
  have hlocks := B.notSynchronized
  generalize hAe : va_A [] s.heap.size = A
  have hA : ∀ q : Nat, s.heap.size ≤ q → A q := fun q h => by rw [← hAe]; exact Or.inr h
  have hS : va_S A s.heap s.heap [] := va_S.rf
  have hl := lv_entry [.ref a_t, .int p1] (n := 2) (Nat.le_of_ble_eq_true rfl)
  rw [lg_entry_eq]
  generalize (lg_sl [.ref a_t, .int p1] ++ List.replicate (2 - (lg_sl [.ref a_t, .int p1]).length) Slot.unset).toArray = ls at hl ⊢
  have hl : lv_has ls 2 [(0, .ref a_t), (1, .int p1)] := hl
  unfold g_X12_isBroth at h
  refine lv_aload_n hx hb dX12_isBroth_0 rfl (lv_at hl 0 rfl) ?_
  refine lv_iload_n hx hb dX12_isBroth_1 rfl (lv_at hl 1 rfl) ?_
  refine lv_iconst (v := 0) hx hb dX12_isBroth_2 (by decide) ?_
  obtain ⟨r1, hq, h⟩ := gb_some h
  refine crI (va_runV (As := [.int p1, .int 0]) (rest := []) ⟨hx, hb, hml, hown, hta⟩ (c_X12_of l dC dI cT hq (hR0.sub (ws' := [(a_t, .inr (15, [.ref a_t_s, .ref a_t_f, .ref a_t_before, .ref a_t_beforeF, .ref a_t_aside, .ref a_t_asideF, .ref a_t_saved, .ref a_t_savedF, .int t_isSaved, .ref a_t_past, .ref a_t_pastF, .int t_pastMany, .int t_boiled, .int t_thrown, .ref a_t_refused, .ref a_t_text, .int t_length, .int t_error, .ref a_t_signs, .ref a_t_numbers, .int t_tokens, .int t_spoons, .int t_mostSpoons, .ref a_t_row, .ref a_t_isBrothOn, .ref a_t_dramsOn, .ref a_t_brothOn, .int t_cause, .int t_causeDetail, .ref a_t_lowOn, .ref a_t_highOn, .ref a_t_lowStored, .ref a_t_highStored, .ref a_t_isBrothStored, .int t_storeMany, .ref a_t_step, .ref a_t_stepF, .ref a_t_line, .int t_lineMany])), (a_t_s, .inl (cT 0, 282, .inl t_s))]) [0, 1] rfl)) (cV hta lm_X12_116 md_X12_of ⟨(Nat.le_of_ble_eq_true rfl), (Nat.le_of_ble_eq_true rfl)⟩) ⟨fbK, va_recv hK hR0 (ci := 15) (q0 := 0) rfl rfl, fun U hU hW => ⟨rfl, hU, va_K.moved hW.alike hK⟩⟩ rfl rfl hl.1 rfl (lv_room (Nat.le_of_ble_eq_true rfl)) dX12_isBroth_3 ⟨(Nat.le_of_ble_eq_true rfl), (Nat.le_of_ble_eq_true rfl)⟩) hS hA (fun locs hS => ?_)
  refine lv_iconst (v := 1) hx hb dX12_isBroth_6 (by decide) ?_
  refine lv_icmp_ne (tgt := 14) hx hb dX12_isBroth_7 (by decide) (fun c0 => ?_) (fun c0 => ?_)
  · have h := (if_neg c0).symm.trans h
    refine lv_iconst (v := 0) hx hb dX12_isBroth_14 (by decide) ?_
    have ho := Option.some.inj h
    exact W.zret (ty := .boolean) (v := 0) hx hb hr rfl (fun t ht hW => ⟨⟨0, (), rfl, by rw [← ho], ht⟩, hS.F ht⟩) hS.2.2 dX12_isBroth_15
  · have h := (if_pos c0).symm.trans h
    refine lv_iconst (v := 1) hx hb dX12_isBroth_10 (by decide) ?_
    refine lv_goto (tgt := 15) hx hb dX12_isBroth_11 (by decide) ?_
    have ho := Option.some.inj h
    exact W.zret (ty := .boolean) (v := 1) hx hb hr rfl (fun t ht hW => ⟨⟨1, (), rfl, by rw [← ho], ht⟩, hS.F ht⟩) hS.2.2 dX12_isBroth_15
def g_X12_areBounds (p1 : Int32) (p2 : Int32) : Option (Int32) :=
  gb (g_X12_in p1.toInt64 (-99 : Int64) p2.toInt64) fun r1 =>
  if r1 = 0 then
    some (0)
  else
    if 99 < p2 then
      some (0)
    else
      some (1)
set_option maxHeartbeats 4000000 in
set_option maxRecDepth 100000 in
theorem c_X12_areBounds (l : Launch) (dC : Nat → ClassId) (dI : Nat → Nat → Nat) (cT : Nat → ClassId) {Hh : Heap} {p1 : Int32} {p2 : Int32} {o : Int32} (h : g_X12_areBounds p1 p2 = some o) : Met l yX12_areBounds (wA yX12_areBounds cX12_areBounds 2 (some .boolean)) ({ frames := 1, cells := 0, slots := 0, locals := 25 } : Room) (PK dC dI cT [.int p1, .int p2] Hh) (va_Qi (fun x (_ : Unit) => x = o) (fun _ t => t.heap = Hh) (va_A [] Hh.size)) 0 0 (va_A [] Hh.size) := by
  refine Met.ofW (cc := cX12_areBounds) (maxL := 2) (ret := (some .boolean)) (by decide) rfl ?_
  intro p e s m args below meth c s₁ B hml hv
  obtain ⟨rfl, hH, hK⟩ := hv
  subst hH
  have hx := B.exec
  have hb := B.bytes
  have hr := B.returns
  have hta : ∀ w ∈ ALLW, w.before [.int p1, .int p2].toArray s = true := fun w hw => atoms_spec (ws := wA yX12_areBounds cX12_areBounds 2 (some .boolean)) B.pre w (List.mem_cons_of_mem _ hw)
  have hown : s.vm.findClass RX12 = some m.cls := findClass_of_methodNamed B.named
  have hlocks := B.notSynchronized
  generalize hAe : va_A [] s.heap.size = A
  have hA : ∀ q : Nat, s.heap.size ≤ q → A q := fun q h => by rw [← hAe]; exact Or.inr h
  have hS : va_S A s.heap s.heap [] := va_S.rf
  have hl := lv_entry [.int p1, .int p2] (n := 2) (Nat.le_of_ble_eq_true rfl)
  rw [lg_entry_eq]
  generalize (lg_sl [.int p1, .int p2] ++ List.replicate (2 - (lg_sl [.int p1, .int p2]).length) Slot.unset).toArray = ls at hl ⊢
  have hl : lv_has ls 2 [(0, .int p1), (1, .int p2)] := hl
  unfold g_X12_areBounds at h
  refine lv_iload_n hx hb dX12_areBounds_0 rfl (lv_at hl 0 rfl) ?_
  refine lv_i2l hx hb dX12_areBounds_1 rfl ?_
  refine lv_ldc2 (v := -99) hx hb hown (hta _ kc_X12_120) dX12_areBounds_2 ?_
  refine lv_iload_n hx hb dX12_areBounds_5 rfl (lv_at hl 1 rfl) ?_
  refine lv_i2l hx hb dX12_areBounds_6 rfl ?_
  obtain ⟨r1, hq, h⟩ := gb_some h
  refine crI (va_runS (As := [.long p1.toInt64, .long (-99 : Int64), .long p2.toInt64]) (rest := []) ⟨hx, hb, hml, hown, hta⟩ (c_X12_in l dC dI cT hq) (cS hta lm_X12_112 md_X12_in ⟨(Nat.le_of_ble_eq_true rfl), (Nat.le_of_ble_eq_true rfl)⟩) ⟨fbK, fun U hU hW => ⟨rfl, hU, va_K.moved hW.alike hK⟩⟩ rfl rfl hl.1 rfl (lv_room (Nat.le_of_ble_eq_true rfl)) dX12_areBounds_7 ⟨(Nat.le_of_ble_eq_true rfl), (Nat.le_of_ble_eq_true rfl)⟩) hS hA (fun locs hS => ?_)
  refine lv_if_eq (tgt := 23) hx hb dX12_areBounds_10 (by decide) (fun c0 => ?_) (fun c0 => ?_)
  · have h := (if_pos c0).symm.trans h
    refine lv_iconst (v := 0) hx hb dX12_areBounds_23 (by decide) ?_
    have ho := Option.some.inj h
    exact W.zret (ty := .boolean) (v := 0) hx hb hr rfl (fun t ht hW => ⟨⟨0, (), rfl, by rw [← ho], ht⟩, hS.F ht⟩) hS.2.2 dX12_areBounds_24
  · have h := (if_neg c0).symm.trans h
    refine lv_iload_n hx hb dX12_areBounds_13 rfl (lv_at hl 1 rfl) ?_
    refine lv_bipush (v := 99) hx hb dX12_areBounds_14 (by decide) ?_
    refine lv_icmp_gt (tgt := 23) hx hb dX12_areBounds_16 (by decide) (fun c0 => ?_) (fun c0 => ?_)
    · have h := (if_pos c0).symm.trans h
      refine lv_iconst (v := 0) hx hb dX12_areBounds_23 (by decide) ?_
      have ho := Option.some.inj h
      exact W.zret (ty := .boolean) (v := 0) hx hb hr rfl (fun t ht hW => ⟨⟨0, (), rfl, by rw [← ho], ht⟩, hS.F ht⟩) hS.2.2 dX12_areBounds_24
    · have h := (if_neg c0).symm.trans h
      refine lv_iconst (v := 1) hx hb dX12_areBounds_19 (by decide) ?_
      refine lv_goto (tgt := 24) hx hb dX12_areBounds_20 (by decide) ?_
      have ho := Option.some.inj h
      exact W.zret (ty := .boolean) (v := 1) hx hb hr rfl (fun t ht hW => ⟨⟨1, (), rfl, by rw [← ho], ht⟩, hS.F ht⟩) hS.2.2 dX12_areBounds_24
def g_X12_comes_b71 (t_thrown : Int32) (t_refused : Nat → Int32) (t_f : Nat → UInt32) (t_s_71 : Nat → Int32) (x5_71 : Int32) (s1_71 : Int32) (s3_71 : Int32) : Option (Int32 × Int32 × (Nat → Int32) × (Nat → Int32) × (Nat → UInt32)) :=
  gb (g_X12_sets t_s_71 s1_71 (3 : Int32) s3_71) fun r6 =>
  gb (g_X12_sets r6 x5_71 (4 : Int32) (0 : Int32)) fun r7 =>
  gc (inb x5_71 6) <|
  gc (inb (0 : Int32) 282) <|
  gc (inb (0 : Int32) 282) <|
  some (x5_71, t_thrown, (upd r7 (0 : Int32).toNatClampNeg ((r7 (0 : Int32).toNatClampNeg) + 1)), t_refused, (vf_upd t_f x5_71.toNatClampNeg FP.fconst0))
def g_X12_comes (t_thrown : Int32) (t_s : Nat → Int32) (t_refused : Nat → Int32) (t_f : Nat → UInt32) (p1 : Int32) (p2 : Int32) (p3 : Int32) (p4 : Int32) : Option (Int32 × Int32 × (Nat → Int32) × (Nat → Int32) × (Nat → UInt32)) :=
  gc (inb (0 : Int32) 282) <|
  gl (t_s (0 : Int32).toNatClampNeg) fun v1 =>
  if v1 = 6 then
    gb (g_X12_refuse t_thrown t_refused p4 (1 : Int32) (6 : Int32)) fun r5 =>
    some (r5.1, r5.2.1, t_s, r5.2.2, t_f)
  else
    gb (g_X12_sets t_s v1 (0 : Int32) p1) fun r2 =>
    gb (g_X12_sets r2 v1 (1 : Int32) p2) fun r3 =>
    gb (g_X12_sets r3 v1 (2 : Int32) p3) fun r4 =>
    if p1 = 1 then
      g_X12_comes_b71 t_thrown t_refused t_f r4 v1 v1 0
    else
      g_X12_comes_b71 t_thrown t_refused t_f r4 v1 v1 (if p2 < (if 0 < p3 then 0 else p3) then (if 0 < p3 then 0 else p3) else p2)
set_option maxHeartbeats 4000000 in
set_option maxRecDepth 100000 in
theorem c_X12_comes (l : Launch) (dC : Nat → ClassId) (dI : Nat → Nat → Nat) (cT : Nat → ClassId) {Hh : Heap} {a_t : Nat} {a_t_s : Nat} {a_t_refused : Nat} {a_t_f : Nat} {a_t_before : Nat} {a_t_beforeF : Nat} {a_t_aside : Nat} {a_t_asideF : Nat} {a_t_saved : Nat} {a_t_savedF : Nat} {a_t_past : Nat} {a_t_pastF : Nat} {a_t_text : Nat} {a_t_signs : Nat} {a_t_numbers : Nat} {a_t_row : Nat} {a_t_isBrothOn : Nat} {a_t_dramsOn : Nat} {a_t_brothOn : Nat} {a_t_lowOn : Nat} {a_t_highOn : Nat} {a_t_lowStored : Nat} {a_t_highStored : Nat} {a_t_isBrothStored : Nat} {a_t_step : Nat} {a_t_stepF : Nat} {a_t_line : Nat} {t_thrown : Int32} {t_s : Nat → Int32} {t_refused : Nat → Int32} {t_f : Nat → UInt32} {p1 : Int32} {p2 : Int32} {p3 : Int32} {p4 : Int32} {t_isSaved : Int32} {t_pastMany : Int32} {t_boiled : Int32} {t_length : Int32} {t_error : Int32} {t_tokens : Int32} {t_spoons : Int32} {t_mostSpoons : Int32} {t_cause : Int32} {t_causeDetail : Int32} {t_storeMany : Int32} {t_lineMany : Int32} {o : Int32 × Int32 × (Nat → Int32) × (Nat → Int32) × (Nat → UInt32)} (h : g_X12_comes t_thrown t_s t_refused t_f p1 p2 p3 p4 = some o) (hP0 : va_P (dC, dI) vwCl [(a_t, .inr (15, [.ref a_t_s, .ref a_t_f, .ref a_t_before, .ref a_t_beforeF, .ref a_t_aside, .ref a_t_asideF, .ref a_t_saved, .ref a_t_savedF, .int t_isSaved, .ref a_t_past, .ref a_t_pastF, .int t_pastMany, .int t_boiled, .int t_thrown, .ref a_t_refused, .ref a_t_text, .int t_length, .int t_error, .ref a_t_signs, .ref a_t_numbers, .int t_tokens, .int t_spoons, .int t_mostSpoons, .ref a_t_row, .ref a_t_isBrothOn, .ref a_t_dramsOn, .ref a_t_brothOn, .int t_cause, .int t_causeDetail, .ref a_t_lowOn, .ref a_t_highOn, .ref a_t_lowStored, .ref a_t_highStored, .ref a_t_isBrothStored, .int t_storeMany, .ref a_t_step, .ref a_t_stepF, .ref a_t_line, .int t_lineMany])), (a_t_s, .inl (cT 0, 282, .inl t_s)), (a_t_refused, .inl (cT 0, 4, .inl t_refused)), (a_t_f, .inl (cT 4, 6, .inr (.inr (.inl t_f))))] Hh) (hD0 : va_D (fun _ => True) [(a_t, .inr (15, [.ref a_t_s, .ref a_t_f, .ref a_t_before, .ref a_t_beforeF, .ref a_t_aside, .ref a_t_asideF, .ref a_t_saved, .ref a_t_savedF, .int t_isSaved, .ref a_t_past, .ref a_t_pastF, .int t_pastMany, .int t_boiled, .int t_thrown, .ref a_t_refused, .ref a_t_text, .int t_length, .int t_error, .ref a_t_signs, .ref a_t_numbers, .int t_tokens, .int t_spoons, .int t_mostSpoons, .ref a_t_row, .ref a_t_isBrothOn, .ref a_t_dramsOn, .ref a_t_brothOn, .int t_cause, .int t_causeDetail, .ref a_t_lowOn, .ref a_t_highOn, .ref a_t_lowStored, .ref a_t_highStored, .ref a_t_isBrothStored, .int t_storeMany, .ref a_t_step, .ref a_t_stepF, .ref a_t_line, .int t_lineMany])), (a_t_s, .inl (cT 0, 282, .inl t_s)), (a_t_refused, .inl (cT 0, 4, .inl t_refused)), (a_t_f, .inl (cT 4, 6, .inr (.inr (.inl t_f))))]) : Met l yX12_comes (wA yX12_comes cX12_comes 6 (some .int)) ({ frames := 2, cells := 0, slots := 0, locals := 48 } : Room) (PK dC dI cT [.ref a_t, .int p1, .int p2, .int p3, .int p4] Hh) (va_Qi (fun x (_ : Unit) => x = o.1) (fun _ t => va_P (dC, dI) vwCl [(a_t, .inr (15, [.ref a_t_s, .ref a_t_f, .ref a_t_before, .ref a_t_beforeF, .ref a_t_aside, .ref a_t_asideF, .ref a_t_saved, .ref a_t_savedF, .int t_isSaved, .ref a_t_past, .ref a_t_pastF, .int t_pastMany, .int t_boiled, .int o.2.1, .ref a_t_refused, .ref a_t_text, .int t_length, .int t_error, .ref a_t_signs, .ref a_t_numbers, .int t_tokens, .int t_spoons, .int t_mostSpoons, .ref a_t_row, .ref a_t_isBrothOn, .ref a_t_dramsOn, .ref a_t_brothOn, .int t_cause, .int t_causeDetail, .ref a_t_lowOn, .ref a_t_highOn, .ref a_t_lowStored, .ref a_t_highStored, .ref a_t_isBrothStored, .int t_storeMany, .ref a_t_step, .ref a_t_stepF, .ref a_t_line, .int t_lineMany])), (a_t_s, .inl (cT 0, 282, .inl o.2.2.1)), (a_t_refused, .inl (cT 0, 4, .inl o.2.2.2.1)), (a_t_f, .inl (cT 4, 6, .inr (.inr (.inl o.2.2.2.2))))] t.heap) (va_A [(a_t, .inr (15, [.ref a_t_s, .ref a_t_f, .ref a_t_before, .ref a_t_beforeF, .ref a_t_aside, .ref a_t_asideF, .ref a_t_saved, .ref a_t_savedF, .int t_isSaved, .ref a_t_past, .ref a_t_pastF, .int t_pastMany, .int t_boiled, .int t_thrown, .ref a_t_refused, .ref a_t_text, .int t_length, .int t_error, .ref a_t_signs, .ref a_t_numbers, .int t_tokens, .int t_spoons, .int t_mostSpoons, .ref a_t_row, .ref a_t_isBrothOn, .ref a_t_dramsOn, .ref a_t_brothOn, .int t_cause, .int t_causeDetail, .ref a_t_lowOn, .ref a_t_highOn, .ref a_t_lowStored, .ref a_t_highStored, .ref a_t_isBrothStored, .int t_storeMany, .ref a_t_step, .ref a_t_stepF, .ref a_t_line, .int t_lineMany])), (a_t_s, .inl (cT 0, 282, .inl t_s)), (a_t_refused, .inl (cT 0, 4, .inl t_refused)), (a_t_f, .inl (cT 4, 6, .inr (.inr (.inl t_f))))] Hh.size)) 0 0 (va_A [(a_t, .inr (15, [.ref a_t_s, .ref a_t_f, .ref a_t_before, .ref a_t_beforeF, .ref a_t_aside, .ref a_t_asideF, .ref a_t_saved, .ref a_t_savedF, .int t_isSaved, .ref a_t_past, .ref a_t_pastF, .int t_pastMany, .int t_boiled, .int t_thrown, .ref a_t_refused, .ref a_t_text, .int t_length, .int t_error, .ref a_t_signs, .ref a_t_numbers, .int t_tokens, .int t_spoons, .int t_mostSpoons, .ref a_t_row, .ref a_t_isBrothOn, .ref a_t_dramsOn, .ref a_t_brothOn, .int t_cause, .int t_causeDetail, .ref a_t_lowOn, .ref a_t_highOn, .ref a_t_lowStored, .ref a_t_highStored, .ref a_t_isBrothStored, .int t_storeMany, .ref a_t_step, .ref a_t_stepF, .ref a_t_line, .int t_lineMany])), (a_t_s, .inl (cT 0, 282, .inl t_s)), (a_t_refused, .inl (cT 0, 4, .inl t_refused)), (a_t_f, .inl (cT 4, 6, .inr (.inr (.inl t_f))))] Hh.size) := by
  refine Met.ofW (cc := cX12_comes) (maxL := 6) (ret := (some .int)) (by decide) rfl ?_
  intro p e s m args below meth c s₁ B hml hv
  obtain ⟨rfl, hH, hK⟩ := hv
  subst hH
  have hx := B.exec
  have hb := B.bytes
  have hr := B.returns
  have hta : ∀ w ∈ ALLW, w.before [.ref a_t, .int p1, .int p2, .int p3, .int p4].toArray s = true := fun w hw => atoms_spec (ws := wA yX12_comes cX12_comes 6 (some .int)) B.pre w (List.mem_cons_of_mem _ hw)
  have hown : s.vm.findClass RX12 = some m.cls := findClass_of_methodNamed B.named
  have hlocks := B.notSynchronized
  have hD := hD0.self (sz := s.heap.size)
  generalize hAe : va_A [(a_t, .inr (15, [.ref a_t_s, .ref a_t_f, .ref a_t_before, .ref a_t_beforeF, .ref a_t_aside, .ref a_t_asideF, .ref a_t_saved, .ref a_t_savedF, .int t_isSaved, .ref a_t_past, .ref a_t_pastF, .int t_pastMany, .int t_boiled, .int t_thrown, .ref a_t_refused, .ref a_t_text, .int t_length, .int t_error, .ref a_t_signs, .ref a_t_numbers, .int t_tokens, .int t_spoons, .int t_mostSpoons, .ref a_t_row, .ref a_t_isBrothOn, .ref a_t_dramsOn, .ref a_t_brothOn, .int t_cause, .int t_causeDetail, .ref a_t_lowOn, .ref a_t_highOn, .ref a_t_lowStored, .ref a_t_highStored, .ref a_t_isBrothStored, .int t_storeMany, .ref a_t_step, .ref a_t_stepF, .ref a_t_line, .int t_lineMany])), (a_t_s, .inl (cT 0, 282, .inl t_s)), (a_t_refused, .inl (cT 0, 4, .inl t_refused)), (a_t_f, .inl (cT 4, 6, .inr (.inr (.inl t_f))))] s.heap.size = A at hD ⊢
  have hP := hP0
  have hA : ∀ q : Nat, s.heap.size ≤ q → A q := fun q h => by rw [← hAe]; exact Or.inr h
  have hS : va_S A s.heap s.heap [] := va_S.rf
  have hl := lv_entry [.ref a_t, .int p1, .int p2, .int p3, .int p4] (n := 6) (Nat.le_of_ble_eq_true rfl)
  rw [lg_entry_eq]
  generalize (lg_sl [.ref a_t, .int p1, .int p2, .int p3, .int p4] ++ List.replicate (6 - (lg_sl [.ref a_t, .int p1, .int p2, .int p3, .int p4]).length) Slot.unset).toArray = ls at hl ⊢
  have hl : lv_has ls 6 [(0, .ref a_t), (1, .int p1), (2, .int p2), (3, .int p3), (4, .int p4)] := hl
  obtain ⟨Q, hQ⟩ : ∃ Q, Q = MQ below (va_Qi (fun x (_ : Unit) => x = o.1) (fun _ t => va_P (dC, dI) vwCl [(a_t, .inr (15, [.ref a_t_s, .ref a_t_f, .ref a_t_before, .ref a_t_beforeF, .ref a_t_aside, .ref a_t_asideF, .ref a_t_saved, .ref a_t_savedF, .int t_isSaved, .ref a_t_past, .ref a_t_pastF, .int t_pastMany, .int t_boiled, .int o.2.1, .ref a_t_refused, .ref a_t_text, .int t_length, .int t_error, .ref a_t_signs, .ref a_t_numbers, .int t_tokens, .int t_spoons, .int t_mostSpoons, .ref a_t_row, .ref a_t_isBrothOn, .ref a_t_dramsOn, .ref a_t_brothOn, .int t_cause, .int t_causeDetail, .ref a_t_lowOn, .ref a_t_highOn, .ref a_t_lowStored, .ref a_t_highStored, .ref a_t_isBrothStored, .int t_storeMany, .ref a_t_step, .ref a_t_stepF, .ref a_t_line, .int t_lineMany])), (a_t_s, .inl (cT 0, 282, .inl o.2.2.1)), (a_t_refused, .inl (cT 0, 4, .inl o.2.2.2.1)), (a_t_f, .inl (cT 4, 6, .inr (.inr (.inl o.2.2.2.2))))] t.heap) A) [.ref a_t, .int p1, .int p2, .int p3, .int p4].toArray s 0 0 A := ⟨_, rfl⟩
  rw [← hQ]
  have wB_71 : ∀ (t_s_71 : Nat → Int32) (x5_71 : Int32) (s1_71 : Int32) (s3_71 : Int32) (H : Heap) (locs : List Loc) (ls : Array Slot), g_X12_comes_b71 t_thrown t_refused t_f t_s_71 x5_71 s1_71 s3_71 = some o → va_P (dC, dI) vwCl [(a_t, .inr (15, [.ref a_t_s, .ref a_t_f, .ref a_t_before, .ref a_t_beforeF, .ref a_t_aside, .ref a_t_asideF, .ref a_t_saved, .ref a_t_savedF, .int t_isSaved, .ref a_t_past, .ref a_t_pastF, .int t_pastMany, .int t_boiled, .int t_thrown, .ref a_t_refused, .ref a_t_text, .int t_length, .int t_error, .ref a_t_signs, .ref a_t_numbers, .int t_tokens, .int t_spoons, .int t_mostSpoons, .ref a_t_row, .ref a_t_isBrothOn, .ref a_t_dramsOn, .ref a_t_brothOn, .int t_cause, .int t_causeDetail, .ref a_t_lowOn, .ref a_t_highOn, .ref a_t_lowStored, .ref a_t_highStored, .ref a_t_isBrothStored, .int t_storeMany, .ref a_t_step, .ref a_t_stepF, .ref a_t_line, .int t_lineMany])), (a_t_s, .inl (cT 0, 282, .inl t_s_71)), (a_t_refused, .inl (cT 0, 4, .inl t_refused)), (a_t_f, .inl (cT 4, 6, .inr (.inr (.inl t_f))))] H → va_D A [(a_t, .inr (15, [.ref a_t_s, .ref a_t_f, .ref a_t_before, .ref a_t_beforeF, .ref a_t_aside, .ref a_t_asideF, .ref a_t_saved, .ref a_t_savedF, .int t_isSaved, .ref a_t_past, .ref a_t_pastF, .int t_pastMany, .int t_boiled, .int t_thrown, .ref a_t_refused, .ref a_t_text, .int t_length, .int t_error, .ref a_t_signs, .ref a_t_numbers, .int t_tokens, .int t_spoons, .int t_mostSpoons, .ref a_t_row, .ref a_t_isBrothOn, .ref a_t_dramsOn, .ref a_t_brothOn, .int t_cause, .int t_causeDetail, .ref a_t_lowOn, .ref a_t_highOn, .ref a_t_lowStored, .ref a_t_highStored, .ref a_t_isBrothStored, .int t_storeMany, .ref a_t_step, .ref a_t_stepF, .ref a_t_line, .int t_lineMany])), (a_t_s, .inl (cT 0, 282, .inl t_s_71)), (a_t_refused, .inl (cT 0, 4, .inl t_refused)), (a_t_f, .inl (cT 4, 6, .inr (.inr (.inl t_f))))] → va_S A s.heap H locs → lv_has ls 6 [(0, .ref a_t), (5, .int x5_71)] → W p l e ({ frames := 2, cells := 0, slots := 0, locals := 48 } : Room) s m [.ref a_t, .int p1, .int p2, .int p3, .int p4].toArray below meth c H locs 0 0 Q (F0 m 71 ls [.int s3_71, .int 3, .int s1_71, .ref a_t]) := by
    intro t_s_71 x5_71 s1_71 s3_71 H locs ls h hP hD hS hl
    unfold g_X12_comes_b71 at h
    obtain ⟨r6, hq, h⟩ := gb_some h
    refine cxV (X2 := [(a_t, .inr (15, [.ref a_t_s, .ref a_t_f, .ref a_t_before, .ref a_t_beforeF, .ref a_t_aside, .ref a_t_asideF, .ref a_t_saved, .ref a_t_savedF, .int t_isSaved, .ref a_t_past, .ref a_t_pastF, .int t_pastMany, .int t_boiled, .int t_thrown, .ref a_t_refused, .ref a_t_text, .int t_length, .int t_error, .ref a_t_signs, .ref a_t_numbers, .int t_tokens, .int t_spoons, .int t_mostSpoons, .ref a_t_row, .ref a_t_isBrothOn, .ref a_t_dramsOn, .ref a_t_brothOn, .int t_cause, .int t_causeDetail, .ref a_t_lowOn, .ref a_t_highOn, .ref a_t_lowStored, .ref a_t_highStored, .ref a_t_isBrothStored, .int t_storeMany, .ref a_t_step, .ref a_t_stepF, .ref a_t_line, .int t_lineMany])), (a_t_s, .inl (cT 0, 282, .inl r6)), (a_t_refused, .inl (cT 0, 4, .inl t_refused)), (a_t_f, .inl (cT 4, 6, .inr (.inr (.inl t_f))))]) (va_runV (As := [.int s1_71, .int 3, .int s3_71]) (rest := []) ⟨hx, hb, hml, hown, hta⟩ (c_X12_sets l dC dI cT hq (hP.sub (ws' := [(a_t_s, .inl (cT 0, 282, .inl t_s_71))]) [1] rfl) (hP.sub (ws' := [(a_t, .inr (15, [.ref a_t_s, .ref a_t_f, .ref a_t_before, .ref a_t_beforeF, .ref a_t_aside, .ref a_t_asideF, .ref a_t_saved, .ref a_t_savedF, .int t_isSaved, .ref a_t_past, .ref a_t_pastF, .int t_pastMany, .int t_boiled, .int t_thrown, .ref a_t_refused, .ref a_t_text, .int t_length, .int t_error, .ref a_t_signs, .ref a_t_numbers, .int t_tokens, .int t_spoons, .int t_mostSpoons, .ref a_t_row, .ref a_t_isBrothOn, .ref a_t_dramsOn, .ref a_t_brothOn, .int t_cause, .int t_causeDetail, .ref a_t_lowOn, .ref a_t_highOn, .ref a_t_lowStored, .ref a_t_highStored, .ref a_t_isBrothStored, .int t_storeMany, .ref a_t_step, .ref a_t_stepF, .ref a_t_line, .int t_lineMany]))]) [0] rfl) ((hD.sub [1] (by decide) rfl).weaken (fun _ _ _ _ => trivial)) (nac hP hD [1] rfl (va_free hD hS hA [1] rfl) na_nil [.inr 0] rfl rfl)) (cV hta lm_X12_126 md_X12_sets ⟨(Nat.le_of_ble_eq_true rfl), (Nat.le_of_ble_eq_true rfl)⟩) ⟨fbK, va_recv hK hP (ci := 15) (q0 := 0) rfl rfl, fun U hU hW => ⟨rfl, hU, va_K.moved hW.alike hK⟩⟩ rfl rfl hl.1 rfl (lv_room (Nat.le_of_ble_eq_true rfl)) dX12_comes_71 ⟨(Nat.le_of_ble_eq_true rfl), (Nat.le_of_ble_eq_true rfl)⟩) hS hA hP hD [1] rfl [.inr 0, .inl 0, .inr 2, .inr 3] rfl rfl rfl (fun H locs hP hD hS => ?_)
    refine lv_aload_n hx hb dX12_comes_74 rfl (lv_at hl 0 rfl) ?_
    refine lv_iload hx hb dX12_comes_75 (lv_at hl 1 rfl) ?_
    refine lv_iconst (v := 4) hx hb dX12_comes_77 (by decide) ?_
    refine lv_iconst (v := 0) hx hb dX12_comes_78 (by decide) ?_
    obtain ⟨r7, hq, h⟩ := gb_some h
    refine cxV (X2 := [(a_t, .inr (15, [.ref a_t_s, .ref a_t_f, .ref a_t_before, .ref a_t_beforeF, .ref a_t_aside, .ref a_t_asideF, .ref a_t_saved, .ref a_t_savedF, .int t_isSaved, .ref a_t_past, .ref a_t_pastF, .int t_pastMany, .int t_boiled, .int t_thrown, .ref a_t_refused, .ref a_t_text, .int t_length, .int t_error, .ref a_t_signs, .ref a_t_numbers, .int t_tokens, .int t_spoons, .int t_mostSpoons, .ref a_t_row, .ref a_t_isBrothOn, .ref a_t_dramsOn, .ref a_t_brothOn, .int t_cause, .int t_causeDetail, .ref a_t_lowOn, .ref a_t_highOn, .ref a_t_lowStored, .ref a_t_highStored, .ref a_t_isBrothStored, .int t_storeMany, .ref a_t_step, .ref a_t_stepF, .ref a_t_line, .int t_lineMany])), (a_t_s, .inl (cT 0, 282, .inl r7)), (a_t_refused, .inl (cT 0, 4, .inl t_refused)), (a_t_f, .inl (cT 4, 6, .inr (.inr (.inl t_f))))]) (va_runV (As := [.int x5_71, .int 4, .int 0]) (rest := []) ⟨hx, hb, hml, hown, hta⟩ (c_X12_sets l dC dI cT hq (hP.sub (ws' := [(a_t_s, .inl (cT 0, 282, .inl r6))]) [1] rfl) (hP.sub (ws' := [(a_t, .inr (15, [.ref a_t_s, .ref a_t_f, .ref a_t_before, .ref a_t_beforeF, .ref a_t_aside, .ref a_t_asideF, .ref a_t_saved, .ref a_t_savedF, .int t_isSaved, .ref a_t_past, .ref a_t_pastF, .int t_pastMany, .int t_boiled, .int t_thrown, .ref a_t_refused, .ref a_t_text, .int t_length, .int t_error, .ref a_t_signs, .ref a_t_numbers, .int t_tokens, .int t_spoons, .int t_mostSpoons, .ref a_t_row, .ref a_t_isBrothOn, .ref a_t_dramsOn, .ref a_t_brothOn, .int t_cause, .int t_causeDetail, .ref a_t_lowOn, .ref a_t_highOn, .ref a_t_lowStored, .ref a_t_highStored, .ref a_t_isBrothStored, .int t_storeMany, .ref a_t_step, .ref a_t_stepF, .ref a_t_line, .int t_lineMany]))]) [0] rfl) ((hD.sub [1] (by decide) rfl).weaken (fun _ _ _ _ => trivial)) (nac hP hD [1] rfl (va_free hD hS hA [1] rfl) na_nil [.inr 0] rfl rfl)) (cV hta lm_X12_126 md_X12_sets ⟨(Nat.le_of_ble_eq_true rfl), (Nat.le_of_ble_eq_true rfl)⟩) ⟨fbK, va_recv hK hP (ci := 15) (q0 := 0) rfl rfl, fun U hU hW => ⟨rfl, hU, va_K.moved hW.alike hK⟩⟩ rfl rfl hl.1 rfl (lv_room (Nat.le_of_ble_eq_true rfl)) dX12_comes_79 ⟨(Nat.le_of_ble_eq_true rfl), (Nat.le_of_ble_eq_true rfl)⟩) hS hA hP hD [1] rfl [.inr 0, .inl 0, .inr 2, .inr 3] rfl rfl rfl (fun H locs hP hD hS => ?_)
    refine lv_aload_n hx hb dX12_comes_82 rfl (lv_at hl 0 rfl) ?_
    refine va_get (D := (dC, dI)) (ci := 15) (v := .ref a_t_f) (C := RX12) (T := TX12) (N := 39) hx hb hta inX12w hown hK hP 0 rfl rfl 1 (by decide) (hta _ lk_X12_13) (fun _ h9 => h9) rfl dX12_comes_83 ?_
    refine lv_iload hx hb dX12_comes_86 (lv_at hl 1 rfl) ?_
    refine lv_fconst0 hx hb dX12_comes_88 ?_
    obtain ⟨hc, h⟩ := gc_some h
    refine va_fast hx hb hK hP hD hS 3 4 rfl rfl (inb_in hc) dX12_comes_89 (fun H locs hP hD hS => ?_)
    have hP : va_P (dC, dI) vwCl [(a_t, .inr (15, [.ref a_t_s, .ref a_t_f, .ref a_t_before, .ref a_t_beforeF, .ref a_t_aside, .ref a_t_asideF, .ref a_t_saved, .ref a_t_savedF, .int t_isSaved, .ref a_t_past, .ref a_t_pastF, .int t_pastMany, .int t_boiled, .int t_thrown, .ref a_t_refused, .ref a_t_text, .int t_length, .int t_error, .ref a_t_signs, .ref a_t_numbers, .int t_tokens, .int t_spoons, .int t_mostSpoons, .ref a_t_row, .ref a_t_isBrothOn, .ref a_t_dramsOn, .ref a_t_brothOn, .int t_cause, .int t_causeDetail, .ref a_t_lowOn, .ref a_t_highOn, .ref a_t_lowStored, .ref a_t_highStored, .ref a_t_isBrothStored, .int t_storeMany, .ref a_t_step, .ref a_t_stepF, .ref a_t_line, .int t_lineMany])), (a_t_s, .inl (cT 0, 282, .inl r7)), (a_t_refused, .inl (cT 0, 4, .inl t_refused)), (a_t_f, .inl (cT 4, 6, .inr (.inr (.inl (vf_upd t_f x5_71.toNatClampNeg FP.fconst0)))))] H := hP
    have hD : va_D A [(a_t, .inr (15, [.ref a_t_s, .ref a_t_f, .ref a_t_before, .ref a_t_beforeF, .ref a_t_aside, .ref a_t_asideF, .ref a_t_saved, .ref a_t_savedF, .int t_isSaved, .ref a_t_past, .ref a_t_pastF, .int t_pastMany, .int t_boiled, .int t_thrown, .ref a_t_refused, .ref a_t_text, .int t_length, .int t_error, .ref a_t_signs, .ref a_t_numbers, .int t_tokens, .int t_spoons, .int t_mostSpoons, .ref a_t_row, .ref a_t_isBrothOn, .ref a_t_dramsOn, .ref a_t_brothOn, .int t_cause, .int t_causeDetail, .ref a_t_lowOn, .ref a_t_highOn, .ref a_t_lowStored, .ref a_t_highStored, .ref a_t_isBrothStored, .int t_storeMany, .ref a_t_step, .ref a_t_stepF, .ref a_t_line, .int t_lineMany])), (a_t_s, .inl (cT 0, 282, .inl r7)), (a_t_refused, .inl (cT 0, 4, .inl t_refused)), (a_t_f, .inl (cT 4, 6, .inr (.inr (.inl (vf_upd t_f x5_71.toNatClampNeg FP.fconst0)))))] := hD
    refine lv_aload_n hx hb dX12_comes_90 rfl (lv_at hl 0 rfl) ?_
    refine va_get (D := (dC, dI)) (ci := 15) (v := .ref a_t_s) (C := RX12) (T := TX12) (N := 39) hx hb hta inX12w hown hK hP 0 rfl rfl 0 (by decide) (hta _ lk_X12_9) (fun _ h9 => h9) rfl dX12_comes_91 ?_
    refine lv_iconst (v := 0) hx hb dX12_comes_94 (by decide) ?_
    refine lv_dup2_11 hx hb dX12_comes_95 rfl rfl ?_
    obtain ⟨hc, h⟩ := gc_some h
    refine va_iald hx hb hK hP 1 0 rfl rfl (inb_in hc) dX12_comes_96 ?_
    refine lv_iconst (v := 1) hx hb dX12_comes_97 (by decide) ?_
    refine lv_iadd hx hb dX12_comes_98 ?_
    obtain ⟨hc, h⟩ := gc_some h
    refine va_iast hx hb hK hP hD hS 1 0 rfl rfl (inb_in hc) dX12_comes_99 (fun H locs hP hD hS => ?_)
    have hP : va_P (dC, dI) vwCl [(a_t, .inr (15, [.ref a_t_s, .ref a_t_f, .ref a_t_before, .ref a_t_beforeF, .ref a_t_aside, .ref a_t_asideF, .ref a_t_saved, .ref a_t_savedF, .int t_isSaved, .ref a_t_past, .ref a_t_pastF, .int t_pastMany, .int t_boiled, .int t_thrown, .ref a_t_refused, .ref a_t_text, .int t_length, .int t_error, .ref a_t_signs, .ref a_t_numbers, .int t_tokens, .int t_spoons, .int t_mostSpoons, .ref a_t_row, .ref a_t_isBrothOn, .ref a_t_dramsOn, .ref a_t_brothOn, .int t_cause, .int t_causeDetail, .ref a_t_lowOn, .ref a_t_highOn, .ref a_t_lowStored, .ref a_t_highStored, .ref a_t_isBrothStored, .int t_storeMany, .ref a_t_step, .ref a_t_stepF, .ref a_t_line, .int t_lineMany])), (a_t_s, .inl (cT 0, 282, .inl (upd r7 (0 : Int32).toNatClampNeg ((r7 (0 : Int32).toNatClampNeg) + 1)))), (a_t_refused, .inl (cT 0, 4, .inl t_refused)), (a_t_f, .inl (cT 4, 6, .inr (.inr (.inl (vf_upd t_f x5_71.toNatClampNeg FP.fconst0)))))] H := hP
    have hD : va_D A [(a_t, .inr (15, [.ref a_t_s, .ref a_t_f, .ref a_t_before, .ref a_t_beforeF, .ref a_t_aside, .ref a_t_asideF, .ref a_t_saved, .ref a_t_savedF, .int t_isSaved, .ref a_t_past, .ref a_t_pastF, .int t_pastMany, .int t_boiled, .int t_thrown, .ref a_t_refused, .ref a_t_text, .int t_length, .int t_error, .ref a_t_signs, .ref a_t_numbers, .int t_tokens, .int t_spoons, .int t_mostSpoons, .ref a_t_row, .ref a_t_isBrothOn, .ref a_t_dramsOn, .ref a_t_brothOn, .int t_cause, .int t_causeDetail, .ref a_t_lowOn, .ref a_t_highOn, .ref a_t_lowStored, .ref a_t_highStored, .ref a_t_isBrothStored, .int t_storeMany, .ref a_t_step, .ref a_t_stepF, .ref a_t_line, .int t_lineMany])), (a_t_s, .inl (cT 0, 282, .inl (upd r7 (0 : Int32).toNatClampNeg ((r7 (0 : Int32).toNatClampNeg) + 1)))), (a_t_refused, .inl (cT 0, 4, .inl t_refused)), (a_t_f, .inl (cT 4, 6, .inr (.inr (.inl (vf_upd t_f x5_71.toNatClampNeg FP.fconst0)))))] := hD
    refine lv_iload hx hb dX12_comes_100 (lv_at hl 1 rfl) ?_
    have ho := Option.some.inj h
    rw [hQ]
    exact W.iret (v := x5_71) hx hb hr (fun t ht hW => ⟨⟨x5_71, (), rfl, by rw [← ho], by show va_P (dC, dI) vwCl _ t.heap; rw [ht, ← ho]; exact hP⟩, hS.F ht⟩) hS.2.2 dX12_comes_102
  unfold g_X12_comes at h
  refine lv_aload_n hx hb dX12_comes_0 rfl (lv_at hl 0 rfl) ?_
  refine va_get (D := (dC, dI)) (ci := 15) (v := .ref a_t_s) (C := RX12) (T := TX12) (N := 39) hx hb hta inX12w hown hK hP 0 rfl rfl 0 (by decide) (hta _ lk_X12_9) (fun _ h9 => h9) rfl dX12_comes_1 ?_
  refine lv_iconst (v := 0) hx hb dX12_comes_4 (by decide) ?_
  obtain ⟨hc, h⟩ := gc_some h
  refine va_iald hx hb hK hP 1 0 rfl rfl (inb_in hc) dX12_comes_5 ?_
  refine lv_topi (fun v1 e_v1 => ?_)
  have h := gl_use e_v1 h
  refine lv_istore (lv' := [(5, .int v1), (0, .ref a_t), (1, .int p1), (2, .int p2), (3, .int p3), (4, .int p4)]) hx hb dX12_comes_6 hl (by decide) rfl (fun ls hl => ?_)
  refine lv_iload hx hb dX12_comes_8 (lv_at hl 0 rfl) ?_
  refine lv_bipush (v := 6) hx hb dX12_comes_10 (by decide) ?_
  refine lv_icmp_ne (tgt := 25) hx hb dX12_comes_12 (by decide) (fun c0 => ?_) (fun c0 => ?_)
  · have h := (if_neg c0).symm.trans h
    refine lv_aload_n hx hb dX12_comes_25 rfl (lv_at hl 1 rfl) ?_
    refine lv_iload hx hb dX12_comes_26 (lv_at hl 0 rfl) ?_
    refine lv_iconst (v := 0) hx hb dX12_comes_28 (by decide) ?_
    refine lv_iload_n hx hb dX12_comes_29 rfl (lv_at hl 2 rfl) ?_
    obtain ⟨r2, hq, h⟩ := gb_some h
    refine cxV (X2 := [(a_t, .inr (15, [.ref a_t_s, .ref a_t_f, .ref a_t_before, .ref a_t_beforeF, .ref a_t_aside, .ref a_t_asideF, .ref a_t_saved, .ref a_t_savedF, .int t_isSaved, .ref a_t_past, .ref a_t_pastF, .int t_pastMany, .int t_boiled, .int t_thrown, .ref a_t_refused, .ref a_t_text, .int t_length, .int t_error, .ref a_t_signs, .ref a_t_numbers, .int t_tokens, .int t_spoons, .int t_mostSpoons, .ref a_t_row, .ref a_t_isBrothOn, .ref a_t_dramsOn, .ref a_t_brothOn, .int t_cause, .int t_causeDetail, .ref a_t_lowOn, .ref a_t_highOn, .ref a_t_lowStored, .ref a_t_highStored, .ref a_t_isBrothStored, .int t_storeMany, .ref a_t_step, .ref a_t_stepF, .ref a_t_line, .int t_lineMany])), (a_t_s, .inl (cT 0, 282, .inl r2)), (a_t_refused, .inl (cT 0, 4, .inl t_refused)), (a_t_f, .inl (cT 4, 6, .inr (.inr (.inl t_f))))]) (va_runV (As := [.int v1, .int 0, .int p1]) (rest := []) ⟨hx, hb, hml, hown, hta⟩ (c_X12_sets l dC dI cT hq (hP.sub (ws' := [(a_t_s, .inl (cT 0, 282, .inl t_s))]) [1] rfl) (hP.sub (ws' := [(a_t, .inr (15, [.ref a_t_s, .ref a_t_f, .ref a_t_before, .ref a_t_beforeF, .ref a_t_aside, .ref a_t_asideF, .ref a_t_saved, .ref a_t_savedF, .int t_isSaved, .ref a_t_past, .ref a_t_pastF, .int t_pastMany, .int t_boiled, .int t_thrown, .ref a_t_refused, .ref a_t_text, .int t_length, .int t_error, .ref a_t_signs, .ref a_t_numbers, .int t_tokens, .int t_spoons, .int t_mostSpoons, .ref a_t_row, .ref a_t_isBrothOn, .ref a_t_dramsOn, .ref a_t_brothOn, .int t_cause, .int t_causeDetail, .ref a_t_lowOn, .ref a_t_highOn, .ref a_t_lowStored, .ref a_t_highStored, .ref a_t_isBrothStored, .int t_storeMany, .ref a_t_step, .ref a_t_stepF, .ref a_t_line, .int t_lineMany]))]) [0] rfl) ((hD.sub [1] (by decide) rfl).weaken (fun _ _ _ _ => trivial)) (nac hP hD [1] rfl (va_free hD hS hA [1] rfl) na_nil [.inr 0] rfl rfl)) (cV hta lm_X12_126 md_X12_sets ⟨(Nat.le_of_ble_eq_true rfl), (Nat.le_of_ble_eq_true rfl)⟩) ⟨fbK, va_recv hK hP (ci := 15) (q0 := 0) rfl rfl, fun U hU hW => ⟨rfl, hU, va_K.moved hW.alike hK⟩⟩ rfl rfl hl.1 rfl (lv_room (Nat.le_of_ble_eq_true rfl)) dX12_comes_30 ⟨(Nat.le_of_ble_eq_true rfl), (Nat.le_of_ble_eq_true rfl)⟩) hS hA hP hD [1] rfl [.inr 0, .inl 0, .inr 2, .inr 3] rfl rfl rfl (fun H locs hP hD hS => ?_)
    refine lv_aload_n hx hb dX12_comes_33 rfl (lv_at hl 1 rfl) ?_
    refine lv_iload hx hb dX12_comes_34 (lv_at hl 0 rfl) ?_
    refine lv_iconst (v := 1) hx hb dX12_comes_36 (by decide) ?_
    refine lv_iload_n hx hb dX12_comes_37 rfl (lv_at hl 3 rfl) ?_
    obtain ⟨r3, hq, h⟩ := gb_some h
    refine cxV (X2 := [(a_t, .inr (15, [.ref a_t_s, .ref a_t_f, .ref a_t_before, .ref a_t_beforeF, .ref a_t_aside, .ref a_t_asideF, .ref a_t_saved, .ref a_t_savedF, .int t_isSaved, .ref a_t_past, .ref a_t_pastF, .int t_pastMany, .int t_boiled, .int t_thrown, .ref a_t_refused, .ref a_t_text, .int t_length, .int t_error, .ref a_t_signs, .ref a_t_numbers, .int t_tokens, .int t_spoons, .int t_mostSpoons, .ref a_t_row, .ref a_t_isBrothOn, .ref a_t_dramsOn, .ref a_t_brothOn, .int t_cause, .int t_causeDetail, .ref a_t_lowOn, .ref a_t_highOn, .ref a_t_lowStored, .ref a_t_highStored, .ref a_t_isBrothStored, .int t_storeMany, .ref a_t_step, .ref a_t_stepF, .ref a_t_line, .int t_lineMany])), (a_t_s, .inl (cT 0, 282, .inl r3)), (a_t_refused, .inl (cT 0, 4, .inl t_refused)), (a_t_f, .inl (cT 4, 6, .inr (.inr (.inl t_f))))]) (va_runV (As := [.int v1, .int 1, .int p2]) (rest := []) ⟨hx, hb, hml, hown, hta⟩ (c_X12_sets l dC dI cT hq (hP.sub (ws' := [(a_t_s, .inl (cT 0, 282, .inl r2))]) [1] rfl) (hP.sub (ws' := [(a_t, .inr (15, [.ref a_t_s, .ref a_t_f, .ref a_t_before, .ref a_t_beforeF, .ref a_t_aside, .ref a_t_asideF, .ref a_t_saved, .ref a_t_savedF, .int t_isSaved, .ref a_t_past, .ref a_t_pastF, .int t_pastMany, .int t_boiled, .int t_thrown, .ref a_t_refused, .ref a_t_text, .int t_length, .int t_error, .ref a_t_signs, .ref a_t_numbers, .int t_tokens, .int t_spoons, .int t_mostSpoons, .ref a_t_row, .ref a_t_isBrothOn, .ref a_t_dramsOn, .ref a_t_brothOn, .int t_cause, .int t_causeDetail, .ref a_t_lowOn, .ref a_t_highOn, .ref a_t_lowStored, .ref a_t_highStored, .ref a_t_isBrothStored, .int t_storeMany, .ref a_t_step, .ref a_t_stepF, .ref a_t_line, .int t_lineMany]))]) [0] rfl) ((hD.sub [1] (by decide) rfl).weaken (fun _ _ _ _ => trivial)) (nac hP hD [1] rfl (va_free hD hS hA [1] rfl) na_nil [.inr 0] rfl rfl)) (cV hta lm_X12_126 md_X12_sets ⟨(Nat.le_of_ble_eq_true rfl), (Nat.le_of_ble_eq_true rfl)⟩) ⟨fbK, va_recv hK hP (ci := 15) (q0 := 0) rfl rfl, fun U hU hW => ⟨rfl, hU, va_K.moved hW.alike hK⟩⟩ rfl rfl hl.1 rfl (lv_room (Nat.le_of_ble_eq_true rfl)) dX12_comes_38 ⟨(Nat.le_of_ble_eq_true rfl), (Nat.le_of_ble_eq_true rfl)⟩) hS hA hP hD [1] rfl [.inr 0, .inl 0, .inr 2, .inr 3] rfl rfl rfl (fun H locs hP hD hS => ?_)
    refine lv_aload_n hx hb dX12_comes_41 rfl (lv_at hl 1 rfl) ?_
    refine lv_iload hx hb dX12_comes_42 (lv_at hl 0 rfl) ?_
    refine lv_iconst (v := 2) hx hb dX12_comes_44 (by decide) ?_
    refine lv_iload_n hx hb dX12_comes_45 rfl (lv_at hl 4 rfl) ?_
    obtain ⟨r4, hq, h⟩ := gb_some h
    refine cxV (X2 := [(a_t, .inr (15, [.ref a_t_s, .ref a_t_f, .ref a_t_before, .ref a_t_beforeF, .ref a_t_aside, .ref a_t_asideF, .ref a_t_saved, .ref a_t_savedF, .int t_isSaved, .ref a_t_past, .ref a_t_pastF, .int t_pastMany, .int t_boiled, .int t_thrown, .ref a_t_refused, .ref a_t_text, .int t_length, .int t_error, .ref a_t_signs, .ref a_t_numbers, .int t_tokens, .int t_spoons, .int t_mostSpoons, .ref a_t_row, .ref a_t_isBrothOn, .ref a_t_dramsOn, .ref a_t_brothOn, .int t_cause, .int t_causeDetail, .ref a_t_lowOn, .ref a_t_highOn, .ref a_t_lowStored, .ref a_t_highStored, .ref a_t_isBrothStored, .int t_storeMany, .ref a_t_step, .ref a_t_stepF, .ref a_t_line, .int t_lineMany])), (a_t_s, .inl (cT 0, 282, .inl r4)), (a_t_refused, .inl (cT 0, 4, .inl t_refused)), (a_t_f, .inl (cT 4, 6, .inr (.inr (.inl t_f))))]) (va_runV (As := [.int v1, .int 2, .int p3]) (rest := []) ⟨hx, hb, hml, hown, hta⟩ (c_X12_sets l dC dI cT hq (hP.sub (ws' := [(a_t_s, .inl (cT 0, 282, .inl r3))]) [1] rfl) (hP.sub (ws' := [(a_t, .inr (15, [.ref a_t_s, .ref a_t_f, .ref a_t_before, .ref a_t_beforeF, .ref a_t_aside, .ref a_t_asideF, .ref a_t_saved, .ref a_t_savedF, .int t_isSaved, .ref a_t_past, .ref a_t_pastF, .int t_pastMany, .int t_boiled, .int t_thrown, .ref a_t_refused, .ref a_t_text, .int t_length, .int t_error, .ref a_t_signs, .ref a_t_numbers, .int t_tokens, .int t_spoons, .int t_mostSpoons, .ref a_t_row, .ref a_t_isBrothOn, .ref a_t_dramsOn, .ref a_t_brothOn, .int t_cause, .int t_causeDetail, .ref a_t_lowOn, .ref a_t_highOn, .ref a_t_lowStored, .ref a_t_highStored, .ref a_t_isBrothStored, .int t_storeMany, .ref a_t_step, .ref a_t_stepF, .ref a_t_line, .int t_lineMany]))]) [0] rfl) ((hD.sub [1] (by decide) rfl).weaken (fun _ _ _ _ => trivial)) (nac hP hD [1] rfl (va_free hD hS hA [1] rfl) na_nil [.inr 0] rfl rfl)) (cV hta lm_X12_126 md_X12_sets ⟨(Nat.le_of_ble_eq_true rfl), (Nat.le_of_ble_eq_true rfl)⟩) ⟨fbK, va_recv hK hP (ci := 15) (q0 := 0) rfl rfl, fun U hU hW => ⟨rfl, hU, va_K.moved hW.alike hK⟩⟩ rfl rfl hl.1 rfl (lv_room (Nat.le_of_ble_eq_true rfl)) dX12_comes_46 ⟨(Nat.le_of_ble_eq_true rfl), (Nat.le_of_ble_eq_true rfl)⟩) hS hA hP hD [1] rfl [.inr 0, .inl 0, .inr 2, .inr 3] rfl rfl rfl (fun H locs hP hD hS => ?_)
    refine lv_aload_n hx hb dX12_comes_49 rfl (lv_at hl 1 rfl) ?_
    refine lv_iload hx hb dX12_comes_50 (lv_at hl 0 rfl) ?_
    refine lv_iconst (v := 3) hx hb dX12_comes_52 (by decide) ?_
    refine lv_iload_n hx hb dX12_comes_53 rfl (lv_at hl 2 rfl) ?_
    refine lv_iconst (v := 1) hx hb dX12_comes_54 (by decide) ?_
    refine lv_icmp_ne (tgt := 62) hx hb dX12_comes_55 (by decide) (fun c0 => ?_) (fun c0 => ?_)
    · have h := (if_neg c0).symm.trans h
      refine lv_iload_n hx hb dX12_comes_62 rfl (lv_at hl 3 rfl) ?_
      refine lv_iload_n hx hb dX12_comes_63 rfl (lv_at hl 4 rfl) ?_
      refine lv_iconst (v := 0) hx hb dX12_comes_64 (by decide) ?_
      refine va_mmin hx hb (hml.trans hl.1.symm) hown (hta _ lm_X12_130) (hta _ mth_minint_s) (hta _ mth_i) (hta _ mth_minint_c) (Nat.le_of_ble_eq_true rfl) (Nat.le_of_ble_eq_true rfl) (Nat.le_of_ble_eq_true rfl) (Nat.le_of_ble_eq_true rfl) dX12_comes_65 ?_
      refine va_mmax hx hb (hml.trans hl.1.symm) hown (hta _ lm_X12_135) (hta _ mth_maxint_s) (hta _ mth_i) (hta _ mth_maxint_c) (Nat.le_of_ble_eq_true rfl) (Nat.le_of_ble_eq_true rfl) (Nat.le_of_ble_eq_true rfl) (Nat.le_of_ble_eq_true rfl) dX12_comes_68 ?_
      exact wB_71 r4 v1 v1 (if p2 < (if 0 < p3 then 0 else p3) then (if 0 < p3 then 0 else p3) else p2) _ _ _ h hP hD hS (lv_sub hl [1, 0] rfl)
    · have h := (if_pos c0).symm.trans h
      refine lv_iconst (v := 0) hx hb dX12_comes_58 (by decide) ?_
      refine lv_goto (tgt := 71) hx hb dX12_comes_59 (by decide) ?_
      exact wB_71 r4 v1 v1 0 _ _ _ h hP hD hS (lv_sub hl [1, 0] rfl)
  · have h := (if_pos c0).symm.trans h
    refine lv_aload_n hx hb dX12_comes_15 rfl (lv_at hl 1 rfl) ?_
    refine lv_iload hx hb dX12_comes_16 (lv_at hl 5 rfl) ?_
    refine lv_iconst (v := 1) hx hb dX12_comes_18 (by decide) ?_
    refine lv_bipush (v := 6) hx hb dX12_comes_19 (by decide) ?_
    obtain ⟨r5, hq, h⟩ := gb_some h
    refine cxI (X2 := [(a_t, .inr (15, [.ref a_t_s, .ref a_t_f, .ref a_t_before, .ref a_t_beforeF, .ref a_t_aside, .ref a_t_asideF, .ref a_t_saved, .ref a_t_savedF, .int t_isSaved, .ref a_t_past, .ref a_t_pastF, .int t_pastMany, .int t_boiled, .int r5.2.1, .ref a_t_refused, .ref a_t_text, .int t_length, .int t_error, .ref a_t_signs, .ref a_t_numbers, .int t_tokens, .int t_spoons, .int t_mostSpoons, .ref a_t_row, .ref a_t_isBrothOn, .ref a_t_dramsOn, .ref a_t_brothOn, .int t_cause, .int t_causeDetail, .ref a_t_lowOn, .ref a_t_highOn, .ref a_t_lowStored, .ref a_t_highStored, .ref a_t_isBrothStored, .int t_storeMany, .ref a_t_step, .ref a_t_stepF, .ref a_t_line, .int t_lineMany])), (a_t_s, .inl (cT 0, 282, .inl t_s)), (a_t_refused, .inl (cT 0, 4, .inl r5.2.2)), (a_t_f, .inl (cT 4, 6, .inr (.inr (.inl t_f))))]) (va_runV (As := [.int p4, .int 1, .int 6]) (rest := []) ⟨hx, hb, hml, hown, hta⟩ (c_X12_refuse l dC dI cT hq (hP.sub (ws' := [(a_t, .inr (15, [.ref a_t_s, .ref a_t_f, .ref a_t_before, .ref a_t_beforeF, .ref a_t_aside, .ref a_t_asideF, .ref a_t_saved, .ref a_t_savedF, .int t_isSaved, .ref a_t_past, .ref a_t_pastF, .int t_pastMany, .int t_boiled, .int t_thrown, .ref a_t_refused, .ref a_t_text, .int t_length, .int t_error, .ref a_t_signs, .ref a_t_numbers, .int t_tokens, .int t_spoons, .int t_mostSpoons, .ref a_t_row, .ref a_t_isBrothOn, .ref a_t_dramsOn, .ref a_t_brothOn, .int t_cause, .int t_causeDetail, .ref a_t_lowOn, .ref a_t_highOn, .ref a_t_lowStored, .ref a_t_highStored, .ref a_t_isBrothStored, .int t_storeMany, .ref a_t_step, .ref a_t_stepF, .ref a_t_line, .int t_lineMany])), (a_t_refused, .inl (cT 0, 4, .inl t_refused))]) [0, 2] rfl) ((hD.sub [0, 2] (by decide) rfl).weaken (fun _ _ _ _ => trivial))) (cV hta lm_X12_122 md_X12_refuse ⟨(Nat.le_of_ble_eq_true rfl), (Nat.le_of_ble_eq_true rfl)⟩) ⟨fbK, va_recv hK hP (ci := 15) (q0 := 0) rfl rfl, fun U hU hW => ⟨rfl, hU, va_K.moved hW.alike hK⟩⟩ rfl rfl hl.1 rfl (lv_room (Nat.le_of_ble_eq_true rfl)) dX12_comes_21 ⟨(Nat.le_of_ble_eq_true rfl), (Nat.le_of_ble_eq_true rfl)⟩) hS hA hP hD [0, 2] rfl [.inl 0, .inr 1, .inl 1, .inr 3] rfl rfl rfl (fun H locs hP hD hS => ?_)
    have ho := Option.some.inj h
    rw [hQ]
    exact W.iret (v := r5.1) hx hb hr (fun t ht hW => ⟨⟨r5.1, (), rfl, by rw [← ho], by show va_P (dC, dI) vwCl _ t.heap; rw [ht, ← ho]; exact hP⟩, hS.F ht⟩) hS.2.2 dX12_comes_24
def g_X12_drams_b29 (t_pastMany : Int32) (t_past : Nat → Int32) (t_pastF : Nat → UInt32) (t_before_29 : Nat → Int32) (t_beforeF_29 : Nat → UInt32) (t_f_29 : Nat → UInt32) (t_refused_29 : Nat → Int32) (t_s_29 : Nat → Int32) (t_thrown_29 : Int32) (s1_29 : Int32) : Option (Int32 × Int32 × Int32 × (Nat → Int32) × (Nat → Int32) × (Nat → UInt32) × (Nat → UInt32) × (Nat → Int32) × (Nat → Int32) × (Nat → UInt32)) :=
  gb (g_X12_ends t_pastMany t_thrown_29 t_past t_pastF t_before_29 t_s_29 t_beforeF_29 t_f_29 s1_29) fun r5 =>
  some (r5.1, r5.2.1, t_thrown_29, r5.2.2.2.2.1, t_before_29, r5.2.2.2.2.2, t_beforeF_29, t_refused_29, r5.2.2.1, r5.2.2.2.1)
def g_X12_drams (t_pastMany : Int32) (t_thrown : Int32) (t_s : Nat → Int32) (t_before : Nat → Int32) (t_f : Nat → UInt32) (t_beforeF : Nat → UInt32) (t_refused : Nat → Int32) (t_past : Nat → Int32) (t_pastF : Nat → UInt32) (p1 : Int32) (p2 : Int32) : Option (Int32 × Int32 × Int32 × (Nat → Int32) × (Nat → Int32) × (Nat → UInt32) × (Nat → UInt32) × (Nat → Int32) × (Nat → Int32) × (Nat → UInt32)) :=
  gb (g_X12_keep t_thrown t_s t_before t_f t_beforeF) fun r1 =>
  gb (g_X12_areBounds p1 p2) fun r2 =>
  if r2 = 0 then
    gb (g_X12_fails r1.1 (1 : Int32)) fun r3 =>
    g_X12_drams_b29 t_pastMany t_past t_pastF r1.2.1 r1.2.2 t_f t_refused t_s r3.2 r3.1
  else
    gb (g_X12_comes r1.1 t_s t_refused t_f (0 : Int32) p1 p2 (2 : Int32)) fun r4 =>
    g_X12_drams_b29 t_pastMany t_past t_pastF r1.2.1 r1.2.2 r4.2.2.2.2 r4.2.2.2.1 r4.2.2.1 r4.2.1 r4.1
set_option maxHeartbeats 4000000 in
set_option maxRecDepth 100000 in
theorem c_X12_drams (l : Launch) (dC : Nat → ClassId) (dI : Nat → Nat → Nat) (cT : Nat → ClassId) {Hh : Heap} {a_t : Nat} {a_t_s : Nat} {a_t_before : Nat} {a_t_f : Nat} {a_t_beforeF : Nat} {a_t_refused : Nat} {a_t_past : Nat} {a_t_pastF : Nat} {a_t_aside : Nat} {a_t_asideF : Nat} {a_t_saved : Nat} {a_t_savedF : Nat} {a_t_text : Nat} {a_t_signs : Nat} {a_t_numbers : Nat} {a_t_row : Nat} {a_t_isBrothOn : Nat} {a_t_dramsOn : Nat} {a_t_brothOn : Nat} {a_t_lowOn : Nat} {a_t_highOn : Nat} {a_t_lowStored : Nat} {a_t_highStored : Nat} {a_t_isBrothStored : Nat} {a_t_step : Nat} {a_t_stepF : Nat} {a_t_line : Nat} {t_pastMany : Int32} {t_thrown : Int32} {t_s : Nat → Int32} {t_before : Nat → Int32} {t_f : Nat → UInt32} {t_beforeF : Nat → UInt32} {t_refused : Nat → Int32} {t_past : Nat → Int32} {t_pastF : Nat → UInt32} {p1 : Int32} {p2 : Int32} {t_isSaved : Int32} {t_boiled : Int32} {t_length : Int32} {t_error : Int32} {t_tokens : Int32} {t_spoons : Int32} {t_mostSpoons : Int32} {t_cause : Int32} {t_causeDetail : Int32} {t_storeMany : Int32} {t_lineMany : Int32} {o : Int32 × Int32 × Int32 × (Nat → Int32) × (Nat → Int32) × (Nat → UInt32) × (Nat → UInt32) × (Nat → Int32) × (Nat → Int32) × (Nat → UInt32)} (h : g_X12_drams t_pastMany t_thrown t_s t_before t_f t_beforeF t_refused t_past t_pastF p1 p2 = some o) (hP0 : va_P (dC, dI) vwCl [(a_t, .inr (15, [.ref a_t_s, .ref a_t_f, .ref a_t_before, .ref a_t_beforeF, .ref a_t_aside, .ref a_t_asideF, .ref a_t_saved, .ref a_t_savedF, .int t_isSaved, .ref a_t_past, .ref a_t_pastF, .int t_pastMany, .int t_boiled, .int t_thrown, .ref a_t_refused, .ref a_t_text, .int t_length, .int t_error, .ref a_t_signs, .ref a_t_numbers, .int t_tokens, .int t_spoons, .int t_mostSpoons, .ref a_t_row, .ref a_t_isBrothOn, .ref a_t_dramsOn, .ref a_t_brothOn, .int t_cause, .int t_causeDetail, .ref a_t_lowOn, .ref a_t_highOn, .ref a_t_lowStored, .ref a_t_highStored, .ref a_t_isBrothStored, .int t_storeMany, .ref a_t_step, .ref a_t_stepF, .ref a_t_line, .int t_lineMany])), (a_t_s, .inl (cT 0, 282, .inl t_s)), (a_t_before, .inl (cT 0, 282, .inl t_before)), (a_t_f, .inl (cT 4, 6, .inr (.inr (.inl t_f)))), (a_t_beforeF, .inl (cT 4, 6, .inr (.inr (.inl t_beforeF)))), (a_t_refused, .inl (cT 0, 4, .inl t_refused)), (a_t_past, .inl (cT 0, 1692, .inl t_past)), (a_t_pastF, .inl (cT 4, 36, .inr (.inr (.inl t_pastF))))] Hh) (hD0 : va_D (fun _ => True) [(a_t, .inr (15, [.ref a_t_s, .ref a_t_f, .ref a_t_before, .ref a_t_beforeF, .ref a_t_aside, .ref a_t_asideF, .ref a_t_saved, .ref a_t_savedF, .int t_isSaved, .ref a_t_past, .ref a_t_pastF, .int t_pastMany, .int t_boiled, .int t_thrown, .ref a_t_refused, .ref a_t_text, .int t_length, .int t_error, .ref a_t_signs, .ref a_t_numbers, .int t_tokens, .int t_spoons, .int t_mostSpoons, .ref a_t_row, .ref a_t_isBrothOn, .ref a_t_dramsOn, .ref a_t_brothOn, .int t_cause, .int t_causeDetail, .ref a_t_lowOn, .ref a_t_highOn, .ref a_t_lowStored, .ref a_t_highStored, .ref a_t_isBrothStored, .int t_storeMany, .ref a_t_step, .ref a_t_stepF, .ref a_t_line, .int t_lineMany])), (a_t_s, .inl (cT 0, 282, .inl t_s)), (a_t_before, .inl (cT 0, 282, .inl t_before)), (a_t_f, .inl (cT 4, 6, .inr (.inr (.inl t_f)))), (a_t_beforeF, .inl (cT 4, 6, .inr (.inr (.inl t_beforeF)))), (a_t_refused, .inl (cT 0, 4, .inl t_refused)), (a_t_past, .inl (cT 0, 1692, .inl t_past)), (a_t_pastF, .inl (cT 4, 36, .inr (.inr (.inl t_pastF))))]) : Met l yX12_drams (wA yX12_drams cX12_drams 3 (some .int)) ({ frames := 3, cells := 0, slots := 0, locals := 73 } : Room) (PK dC dI cT [.ref a_t, .int p1, .int p2] Hh) (va_Qi (fun x (_ : Unit) => x = o.1) (fun _ t => va_P (dC, dI) vwCl [(a_t, .inr (15, [.ref a_t_s, .ref a_t_f, .ref a_t_before, .ref a_t_beforeF, .ref a_t_aside, .ref a_t_asideF, .ref a_t_saved, .ref a_t_savedF, .int t_isSaved, .ref a_t_past, .ref a_t_pastF, .int o.2.1, .int t_boiled, .int o.2.2.1, .ref a_t_refused, .ref a_t_text, .int t_length, .int t_error, .ref a_t_signs, .ref a_t_numbers, .int t_tokens, .int t_spoons, .int t_mostSpoons, .ref a_t_row, .ref a_t_isBrothOn, .ref a_t_dramsOn, .ref a_t_brothOn, .int t_cause, .int t_causeDetail, .ref a_t_lowOn, .ref a_t_highOn, .ref a_t_lowStored, .ref a_t_highStored, .ref a_t_isBrothStored, .int t_storeMany, .ref a_t_step, .ref a_t_stepF, .ref a_t_line, .int t_lineMany])), (a_t_s, .inl (cT 0, 282, .inl o.2.2.2.1)), (a_t_before, .inl (cT 0, 282, .inl o.2.2.2.2.1)), (a_t_f, .inl (cT 4, 6, .inr (.inr (.inl o.2.2.2.2.2.1)))), (a_t_beforeF, .inl (cT 4, 6, .inr (.inr (.inl o.2.2.2.2.2.2.1)))), (a_t_refused, .inl (cT 0, 4, .inl o.2.2.2.2.2.2.2.1)), (a_t_past, .inl (cT 0, 1692, .inl o.2.2.2.2.2.2.2.2.1)), (a_t_pastF, .inl (cT 4, 36, .inr (.inr (.inl o.2.2.2.2.2.2.2.2.2))))] t.heap) (va_A [(a_t, .inr (15, [.ref a_t_s, .ref a_t_f, .ref a_t_before, .ref a_t_beforeF, .ref a_t_aside, .ref a_t_asideF, .ref a_t_saved, .ref a_t_savedF, .int t_isSaved, .ref a_t_past, .ref a_t_pastF, .int t_pastMany, .int t_boiled, .int t_thrown, .ref a_t_refused, .ref a_t_text, .int t_length, .int t_error, .ref a_t_signs, .ref a_t_numbers, .int t_tokens, .int t_spoons, .int t_mostSpoons, .ref a_t_row, .ref a_t_isBrothOn, .ref a_t_dramsOn, .ref a_t_brothOn, .int t_cause, .int t_causeDetail, .ref a_t_lowOn, .ref a_t_highOn, .ref a_t_lowStored, .ref a_t_highStored, .ref a_t_isBrothStored, .int t_storeMany, .ref a_t_step, .ref a_t_stepF, .ref a_t_line, .int t_lineMany])), (a_t_s, .inl (cT 0, 282, .inl t_s)), (a_t_before, .inl (cT 0, 282, .inl t_before)), (a_t_f, .inl (cT 4, 6, .inr (.inr (.inl t_f)))), (a_t_beforeF, .inl (cT 4, 6, .inr (.inr (.inl t_beforeF)))), (a_t_refused, .inl (cT 0, 4, .inl t_refused)), (a_t_past, .inl (cT 0, 1692, .inl t_past)), (a_t_pastF, .inl (cT 4, 36, .inr (.inr (.inl t_pastF))))] Hh.size)) 0 0 (va_A [(a_t, .inr (15, [.ref a_t_s, .ref a_t_f, .ref a_t_before, .ref a_t_beforeF, .ref a_t_aside, .ref a_t_asideF, .ref a_t_saved, .ref a_t_savedF, .int t_isSaved, .ref a_t_past, .ref a_t_pastF, .int t_pastMany, .int t_boiled, .int t_thrown, .ref a_t_refused, .ref a_t_text, .int t_length, .int t_error, .ref a_t_signs, .ref a_t_numbers, .int t_tokens, .int t_spoons, .int t_mostSpoons, .ref a_t_row, .ref a_t_isBrothOn, .ref a_t_dramsOn, .ref a_t_brothOn, .int t_cause, .int t_causeDetail, .ref a_t_lowOn, .ref a_t_highOn, .ref a_t_lowStored, .ref a_t_highStored, .ref a_t_isBrothStored, .int t_storeMany, .ref a_t_step, .ref a_t_stepF, .ref a_t_line, .int t_lineMany])), (a_t_s, .inl (cT 0, 282, .inl t_s)), (a_t_before, .inl (cT 0, 282, .inl t_before)), (a_t_f, .inl (cT 4, 6, .inr (.inr (.inl t_f)))), (a_t_beforeF, .inl (cT 4, 6, .inr (.inr (.inl t_beforeF)))), (a_t_refused, .inl (cT 0, 4, .inl t_refused)), (a_t_past, .inl (cT 0, 1692, .inl t_past)), (a_t_pastF, .inl (cT 4, 36, .inr (.inr (.inl t_pastF))))] Hh.size) := by
  refine Met.ofW (cc := cX12_drams) (maxL := 3) (ret := (some .int)) (by decide) rfl ?_
  intro p e s m args below meth c s₁ B hml hv
  obtain ⟨rfl, hH, hK⟩ := hv
  subst hH
  have hx := B.exec
  have hb := B.bytes
  have hr := B.returns
  have hta : ∀ w ∈ ALLW, w.before [.ref a_t, .int p1, .int p2].toArray s = true := fun w hw => atoms_spec (ws := wA yX12_drams cX12_drams 3 (some .int)) B.pre w (List.mem_cons_of_mem _ hw)
  have hown : s.vm.findClass RX12 = some m.cls := findClass_of_methodNamed B.named
  have hlocks := B.notSynchronized
  have hD := hD0.self (sz := s.heap.size)
  generalize hAe : va_A [(a_t, .inr (15, [.ref a_t_s, .ref a_t_f, .ref a_t_before, .ref a_t_beforeF, .ref a_t_aside, .ref a_t_asideF, .ref a_t_saved, .ref a_t_savedF, .int t_isSaved, .ref a_t_past, .ref a_t_pastF, .int t_pastMany, .int t_boiled, .int t_thrown, .ref a_t_refused, .ref a_t_text, .int t_length, .int t_error, .ref a_t_signs, .ref a_t_numbers, .int t_tokens, .int t_spoons, .int t_mostSpoons, .ref a_t_row, .ref a_t_isBrothOn, .ref a_t_dramsOn, .ref a_t_brothOn, .int t_cause, .int t_causeDetail, .ref a_t_lowOn, .ref a_t_highOn, .ref a_t_lowStored, .ref a_t_highStored, .ref a_t_isBrothStored, .int t_storeMany, .ref a_t_step, .ref a_t_stepF, .ref a_t_line, .int t_lineMany])), (a_t_s, .inl (cT 0, 282, .inl t_s)), (a_t_before, .inl (cT 0, 282, .inl t_before)), (a_t_f, .inl (cT 4, 6, .inr (.inr (.inl t_f)))), (a_t_beforeF, .inl (cT 4, 6, .inr (.inr (.inl t_beforeF)))), (a_t_refused, .inl (cT 0, 4, .inl t_refused)), (a_t_past, .inl (cT 0, 1692, .inl t_past)), (a_t_pastF, .inl (cT 4, 36, .inr (.inr (.inl t_pastF))))] s.heap.size = A at hD ⊢
  have hP := hP0
  have hA : ∀ q : Nat, s.heap.size ≤ q → A q := fun q h => by rw [← hAe]; exact Or.inr h
  have hS : va_S A s.heap s.heap [] := va_S.rf
  have hl := lv_entry [.ref a_t, .int p1, .int p2] (n := 3) (Nat.le_of_ble_eq_true rfl)
  rw [lg_entry_eq]
  generalize (lg_sl [.ref a_t, .int p1, .int p2] ++ List.replicate (3 - (lg_sl [.ref a_t, .int p1, .int p2]).length) Slot.unset).toArray = ls at hl ⊢
  have hl : lv_has ls 3 [(0, .ref a_t), (1, .int p1), (2, .int p2)] := hl
  obtain ⟨Q, hQ⟩ : ∃ Q, Q = MQ below (va_Qi (fun x (_ : Unit) => x = o.1) (fun _ t => va_P (dC, dI) vwCl [(a_t, .inr (15, [.ref a_t_s, .ref a_t_f, .ref a_t_before, .ref a_t_beforeF, .ref a_t_aside, .ref a_t_asideF, .ref a_t_saved, .ref a_t_savedF, .int t_isSaved, .ref a_t_past, .ref a_t_pastF, .int o.2.1, .int t_boiled, .int o.2.2.1, .ref a_t_refused, .ref a_t_text, .int t_length, .int t_error, .ref a_t_signs, .ref a_t_numbers, .int t_tokens, .int t_spoons, .int t_mostSpoons, .ref a_t_row, .ref a_t_isBrothOn, .ref a_t_dramsOn, .ref a_t_brothOn, .int t_cause, .int t_causeDetail, .ref a_t_lowOn, .ref a_t_highOn, .ref a_t_lowStored, .ref a_t_highStored, .ref a_t_isBrothStored, .int t_storeMany, .ref a_t_step, .ref a_t_stepF, .ref a_t_line, .int t_lineMany])), (a_t_s, .inl (cT 0, 282, .inl o.2.2.2.1)), (a_t_before, .inl (cT 0, 282, .inl o.2.2.2.2.1)), (a_t_f, .inl (cT 4, 6, .inr (.inr (.inl o.2.2.2.2.2.1)))), (a_t_beforeF, .inl (cT 4, 6, .inr (.inr (.inl o.2.2.2.2.2.2.1)))), (a_t_refused, .inl (cT 0, 4, .inl o.2.2.2.2.2.2.2.1)), (a_t_past, .inl (cT 0, 1692, .inl o.2.2.2.2.2.2.2.2.1)), (a_t_pastF, .inl (cT 4, 36, .inr (.inr (.inl o.2.2.2.2.2.2.2.2.2))))] t.heap) A) [.ref a_t, .int p1, .int p2].toArray s 0 0 A := ⟨_, rfl⟩
  rw [← hQ]
  have wB_29 : ∀ (t_before_29 : Nat → Int32) (t_beforeF_29 : Nat → UInt32) (t_f_29 : Nat → UInt32) (t_refused_29 : Nat → Int32) (t_s_29 : Nat → Int32) (t_thrown_29 : Int32) (s1_29 : Int32) (H : Heap) (locs : List Loc) (ls : Array Slot), g_X12_drams_b29 t_pastMany t_past t_pastF t_before_29 t_beforeF_29 t_f_29 t_refused_29 t_s_29 t_thrown_29 s1_29 = some o → va_P (dC, dI) vwCl [(a_t, .inr (15, [.ref a_t_s, .ref a_t_f, .ref a_t_before, .ref a_t_beforeF, .ref a_t_aside, .ref a_t_asideF, .ref a_t_saved, .ref a_t_savedF, .int t_isSaved, .ref a_t_past, .ref a_t_pastF, .int t_pastMany, .int t_boiled, .int t_thrown_29, .ref a_t_refused, .ref a_t_text, .int t_length, .int t_error, .ref a_t_signs, .ref a_t_numbers, .int t_tokens, .int t_spoons, .int t_mostSpoons, .ref a_t_row, .ref a_t_isBrothOn, .ref a_t_dramsOn, .ref a_t_brothOn, .int t_cause, .int t_causeDetail, .ref a_t_lowOn, .ref a_t_highOn, .ref a_t_lowStored, .ref a_t_highStored, .ref a_t_isBrothStored, .int t_storeMany, .ref a_t_step, .ref a_t_stepF, .ref a_t_line, .int t_lineMany])), (a_t_s, .inl (cT 0, 282, .inl t_s_29)), (a_t_before, .inl (cT 0, 282, .inl t_before_29)), (a_t_f, .inl (cT 4, 6, .inr (.inr (.inl t_f_29)))), (a_t_beforeF, .inl (cT 4, 6, .inr (.inr (.inl t_beforeF_29)))), (a_t_refused, .inl (cT 0, 4, .inl t_refused_29)), (a_t_past, .inl (cT 0, 1692, .inl t_past)), (a_t_pastF, .inl (cT 4, 36, .inr (.inr (.inl t_pastF))))] H → va_D A [(a_t, .inr (15, [.ref a_t_s, .ref a_t_f, .ref a_t_before, .ref a_t_beforeF, .ref a_t_aside, .ref a_t_asideF, .ref a_t_saved, .ref a_t_savedF, .int t_isSaved, .ref a_t_past, .ref a_t_pastF, .int t_pastMany, .int t_boiled, .int t_thrown_29, .ref a_t_refused, .ref a_t_text, .int t_length, .int t_error, .ref a_t_signs, .ref a_t_numbers, .int t_tokens, .int t_spoons, .int t_mostSpoons, .ref a_t_row, .ref a_t_isBrothOn, .ref a_t_dramsOn, .ref a_t_brothOn, .int t_cause, .int t_causeDetail, .ref a_t_lowOn, .ref a_t_highOn, .ref a_t_lowStored, .ref a_t_highStored, .ref a_t_isBrothStored, .int t_storeMany, .ref a_t_step, .ref a_t_stepF, .ref a_t_line, .int t_lineMany])), (a_t_s, .inl (cT 0, 282, .inl t_s_29)), (a_t_before, .inl (cT 0, 282, .inl t_before_29)), (a_t_f, .inl (cT 4, 6, .inr (.inr (.inl t_f_29)))), (a_t_beforeF, .inl (cT 4, 6, .inr (.inr (.inl t_beforeF_29)))), (a_t_refused, .inl (cT 0, 4, .inl t_refused_29)), (a_t_past, .inl (cT 0, 1692, .inl t_past)), (a_t_pastF, .inl (cT 4, 36, .inr (.inr (.inl t_pastF))))] → va_S A s.heap H locs → lv_has ls 3 [] → W p l e ({ frames := 3, cells := 0, slots := 0, locals := 73 } : Room) s m [.ref a_t, .int p1, .int p2].toArray below meth c H locs 0 0 Q (F0 m 29 ls [.int s1_29, .ref a_t]) := by
    intro t_before_29 t_beforeF_29 t_f_29 t_refused_29 t_s_29 t_thrown_29 s1_29 H locs ls h hP hD hS hl
    unfold g_X12_drams_b29 at h
    obtain ⟨r5, hq, h⟩ := gb_some h
    refine cxI (X2 := [(a_t, .inr (15, [.ref a_t_s, .ref a_t_f, .ref a_t_before, .ref a_t_beforeF, .ref a_t_aside, .ref a_t_asideF, .ref a_t_saved, .ref a_t_savedF, .int t_isSaved, .ref a_t_past, .ref a_t_pastF, .int r5.2.1, .int t_boiled, .int t_thrown_29, .ref a_t_refused, .ref a_t_text, .int t_length, .int t_error, .ref a_t_signs, .ref a_t_numbers, .int t_tokens, .int t_spoons, .int t_mostSpoons, .ref a_t_row, .ref a_t_isBrothOn, .ref a_t_dramsOn, .ref a_t_brothOn, .int t_cause, .int t_causeDetail, .ref a_t_lowOn, .ref a_t_highOn, .ref a_t_lowStored, .ref a_t_highStored, .ref a_t_isBrothStored, .int t_storeMany, .ref a_t_step, .ref a_t_stepF, .ref a_t_line, .int t_lineMany])), (a_t_s, .inl (cT 0, 282, .inl r5.2.2.2.2.1)), (a_t_before, .inl (cT 0, 282, .inl t_before_29)), (a_t_f, .inl (cT 4, 6, .inr (.inr (.inl r5.2.2.2.2.2)))), (a_t_beforeF, .inl (cT 4, 6, .inr (.inr (.inl t_beforeF_29)))), (a_t_refused, .inl (cT 0, 4, .inl t_refused_29)), (a_t_past, .inl (cT 0, 1692, .inl r5.2.2.1)), (a_t_pastF, .inl (cT 4, 36, .inr (.inr (.inl r5.2.2.2.1))))]) (va_runV (As := [.int s1_29]) (rest := []) ⟨hx, hb, hml, hown, hta⟩ (c_X12_ends l dC dI cT hq (hP.sub (ws' := [(a_t, .inr (15, [.ref a_t_s, .ref a_t_f, .ref a_t_before, .ref a_t_beforeF, .ref a_t_aside, .ref a_t_asideF, .ref a_t_saved, .ref a_t_savedF, .int t_isSaved, .ref a_t_past, .ref a_t_pastF, .int t_pastMany, .int t_boiled, .int t_thrown_29, .ref a_t_refused, .ref a_t_text, .int t_length, .int t_error, .ref a_t_signs, .ref a_t_numbers, .int t_tokens, .int t_spoons, .int t_mostSpoons, .ref a_t_row, .ref a_t_isBrothOn, .ref a_t_dramsOn, .ref a_t_brothOn, .int t_cause, .int t_causeDetail, .ref a_t_lowOn, .ref a_t_highOn, .ref a_t_lowStored, .ref a_t_highStored, .ref a_t_isBrothStored, .int t_storeMany, .ref a_t_step, .ref a_t_stepF, .ref a_t_line, .int t_lineMany])), (a_t_past, .inl (cT 0, 1692, .inl t_past)), (a_t_pastF, .inl (cT 4, 36, .inr (.inr (.inl t_pastF)))), (a_t_before, .inl (cT 0, 282, .inl t_before_29)), (a_t_s, .inl (cT 0, 282, .inl t_s_29)), (a_t_beforeF, .inl (cT 4, 6, .inr (.inr (.inl t_beforeF_29)))), (a_t_f, .inl (cT 4, 6, .inr (.inr (.inl t_f_29))))]) [0, 6, 7, 2, 1, 4, 3] rfl) ((hD.sub [0, 6, 7, 2, 1, 4, 3] (by decide) rfl).weaken (fun _ _ _ _ => trivial))) (cV hta lm_X12_153 md_X12_ends ⟨(Nat.le_of_ble_eq_true rfl), (Nat.le_of_ble_eq_true rfl)⟩) ⟨fbK, va_recv hK hP (ci := 15) (q0 := 0) rfl rfl, fun U hU hW => ⟨rfl, hU, va_K.moved hW.alike hK⟩⟩ rfl rfl hl.1 rfl (lv_room (Nat.le_of_ble_eq_true rfl)) dX12_drams_29 ⟨(Nat.le_of_ble_eq_true rfl), (Nat.le_of_ble_eq_true rfl)⟩) hS hA hP hD [0, 6, 7, 2, 1, 4, 3] rfl [.inl 0, .inl 4, .inl 3, .inl 6, .inl 5, .inr 5, .inl 1, .inl 2] rfl rfl rfl (fun H locs hP hD hS => ?_)
    have ho := Option.some.inj h
    rw [hQ]
    exact W.iret (v := r5.1) hx hb hr (fun t ht hW => ⟨⟨r5.1, (), rfl, by rw [← ho], by show va_P (dC, dI) vwCl _ t.heap; rw [ht, ← ho]; exact hP⟩, hS.F ht⟩) hS.2.2 dX12_drams_32
  unfold g_X12_drams at h
  refine lv_aload_n hx hb dX12_drams_0 rfl (lv_at hl 0 rfl) ?_
  obtain ⟨r1, hq, h⟩ := gb_some h
  refine cxV (X2 := [(a_t, .inr (15, [.ref a_t_s, .ref a_t_f, .ref a_t_before, .ref a_t_beforeF, .ref a_t_aside, .ref a_t_asideF, .ref a_t_saved, .ref a_t_savedF, .int t_isSaved, .ref a_t_past, .ref a_t_pastF, .int t_pastMany, .int t_boiled, .int r1.1, .ref a_t_refused, .ref a_t_text, .int t_length, .int t_error, .ref a_t_signs, .ref a_t_numbers, .int t_tokens, .int t_spoons, .int t_mostSpoons, .ref a_t_row, .ref a_t_isBrothOn, .ref a_t_dramsOn, .ref a_t_brothOn, .int t_cause, .int t_causeDetail, .ref a_t_lowOn, .ref a_t_highOn, .ref a_t_lowStored, .ref a_t_highStored, .ref a_t_isBrothStored, .int t_storeMany, .ref a_t_step, .ref a_t_stepF, .ref a_t_line, .int t_lineMany])), (a_t_s, .inl (cT 0, 282, .inl t_s)), (a_t_before, .inl (cT 0, 282, .inl r1.2.1)), (a_t_f, .inl (cT 4, 6, .inr (.inr (.inl t_f)))), (a_t_beforeF, .inl (cT 4, 6, .inr (.inr (.inl r1.2.2)))), (a_t_refused, .inl (cT 0, 4, .inl t_refused)), (a_t_past, .inl (cT 0, 1692, .inl t_past)), (a_t_pastF, .inl (cT 4, 36, .inr (.inr (.inl t_pastF))))]) (va_runV (As := []) (rest := []) ⟨hx, hb, hml, hown, hta⟩ (c_X12_keep l dC dI cT hq (hP.sub (ws' := [(a_t, .inr (15, [.ref a_t_s, .ref a_t_f, .ref a_t_before, .ref a_t_beforeF, .ref a_t_aside, .ref a_t_asideF, .ref a_t_saved, .ref a_t_savedF, .int t_isSaved, .ref a_t_past, .ref a_t_pastF, .int t_pastMany, .int t_boiled, .int t_thrown, .ref a_t_refused, .ref a_t_text, .int t_length, .int t_error, .ref a_t_signs, .ref a_t_numbers, .int t_tokens, .int t_spoons, .int t_mostSpoons, .ref a_t_row, .ref a_t_isBrothOn, .ref a_t_dramsOn, .ref a_t_brothOn, .int t_cause, .int t_causeDetail, .ref a_t_lowOn, .ref a_t_highOn, .ref a_t_lowStored, .ref a_t_highStored, .ref a_t_isBrothStored, .int t_storeMany, .ref a_t_step, .ref a_t_stepF, .ref a_t_line, .int t_lineMany])), (a_t_s, .inl (cT 0, 282, .inl t_s)), (a_t_before, .inl (cT 0, 282, .inl t_before)), (a_t_f, .inl (cT 4, 6, .inr (.inr (.inl t_f)))), (a_t_beforeF, .inl (cT 4, 6, .inr (.inr (.inl t_beforeF))))]) [0, 1, 2, 3, 4] rfl) ((hD.sub [0, 1, 2, 3, 4] (by decide) rfl).weaken (fun _ _ _ _ => trivial))) (cV hta lm_X12_138 md_X12_keep ⟨(Nat.le_of_ble_eq_true rfl), (Nat.le_of_ble_eq_true rfl)⟩) ⟨fbK, va_recv hK hP (ci := 15) (q0 := 0) rfl rfl, fun U hU hW => ⟨rfl, hU, va_K.moved hW.alike hK⟩⟩ rfl rfl hl.1 rfl (lv_room (Nat.le_of_ble_eq_true rfl)) dX12_drams_1 ⟨(Nat.le_of_ble_eq_true rfl), (Nat.le_of_ble_eq_true rfl)⟩) hS hA hP hD [0, 1, 2, 3, 4] rfl [.inl 0, .inl 1, .inl 2, .inl 3, .inl 4, .inr 5, .inr 6, .inr 7] rfl rfl rfl (fun H locs hP hD hS => ?_)
  refine lv_aload_n hx hb dX12_drams_4 rfl (lv_at hl 0 rfl) ?_
  refine lv_iload_n hx hb dX12_drams_5 rfl (lv_at hl 1 rfl) ?_
  refine lv_iload_n hx hb dX12_drams_6 rfl (lv_at hl 2 rfl) ?_
  obtain ⟨r2, hq, h⟩ := gb_some h
  refine crI (va_runS (As := [.int p1, .int p2]) (rest := [.ref a_t]) ⟨hx, hb, hml, hown, hta⟩ (c_X12_areBounds l dC dI cT hq) (cS hta lm_X12_141 md_X12_areBounds ⟨(Nat.le_of_ble_eq_true rfl), (Nat.le_of_ble_eq_true rfl)⟩) ⟨fbK, fun U hU hW => ⟨rfl, hU, va_K.moved hW.alike hK⟩⟩ rfl rfl hl.1 rfl (lv_room (Nat.le_of_ble_eq_true rfl)) dX12_drams_7 ⟨(Nat.le_of_ble_eq_true rfl), (Nat.le_of_ble_eq_true rfl)⟩) hS hA (fun locs hS => ?_)
  refine lv_if_eq (tgt := 24) hx hb dX12_drams_10 (by decide) (fun c0 => ?_) (fun c0 => ?_)
  · have h := (if_pos c0).symm.trans h
    refine lv_aload_n hx hb dX12_drams_24 rfl (lv_at hl 0 rfl) ?_
    refine lv_iconst (v := 1) hx hb dX12_drams_25 (by decide) ?_
    obtain ⟨r3, hq, h⟩ := gb_some h
    refine cxI (X2 := [(a_t, .inr (15, [.ref a_t_s, .ref a_t_f, .ref a_t_before, .ref a_t_beforeF, .ref a_t_aside, .ref a_t_asideF, .ref a_t_saved, .ref a_t_savedF, .int t_isSaved, .ref a_t_past, .ref a_t_pastF, .int t_pastMany, .int t_boiled, .int r3.2, .ref a_t_refused, .ref a_t_text, .int t_length, .int t_error, .ref a_t_signs, .ref a_t_numbers, .int t_tokens, .int t_spoons, .int t_mostSpoons, .ref a_t_row, .ref a_t_isBrothOn, .ref a_t_dramsOn, .ref a_t_brothOn, .int t_cause, .int t_causeDetail, .ref a_t_lowOn, .ref a_t_highOn, .ref a_t_lowStored, .ref a_t_highStored, .ref a_t_isBrothStored, .int t_storeMany, .ref a_t_step, .ref a_t_stepF, .ref a_t_line, .int t_lineMany])), (a_t_s, .inl (cT 0, 282, .inl t_s)), (a_t_before, .inl (cT 0, 282, .inl r1.2.1)), (a_t_f, .inl (cT 4, 6, .inr (.inr (.inl t_f)))), (a_t_beforeF, .inl (cT 4, 6, .inr (.inr (.inl r1.2.2)))), (a_t_refused, .inl (cT 0, 4, .inl t_refused)), (a_t_past, .inl (cT 0, 1692, .inl t_past)), (a_t_pastF, .inl (cT 4, 36, .inr (.inr (.inl t_pastF))))]) (va_runV (As := [.int 1]) (rest := [.ref a_t]) ⟨hx, hb, hml, hown, hta⟩ (c_X12_fails l dC dI cT hq (hP.sub (ws' := [(a_t, .inr (15, [.ref a_t_s, .ref a_t_f, .ref a_t_before, .ref a_t_beforeF, .ref a_t_aside, .ref a_t_asideF, .ref a_t_saved, .ref a_t_savedF, .int t_isSaved, .ref a_t_past, .ref a_t_pastF, .int t_pastMany, .int t_boiled, .int r1.1, .ref a_t_refused, .ref a_t_text, .int t_length, .int t_error, .ref a_t_signs, .ref a_t_numbers, .int t_tokens, .int t_spoons, .int t_mostSpoons, .ref a_t_row, .ref a_t_isBrothOn, .ref a_t_dramsOn, .ref a_t_brothOn, .int t_cause, .int t_causeDetail, .ref a_t_lowOn, .ref a_t_highOn, .ref a_t_lowStored, .ref a_t_highStored, .ref a_t_isBrothStored, .int t_storeMany, .ref a_t_step, .ref a_t_stepF, .ref a_t_line, .int t_lineMany]))]) [0] rfl) ((hD.sub [0] (by decide) rfl).weaken (fun _ _ _ _ => trivial))) (cV hta lm_X12_149 md_X12_fails ⟨(Nat.le_of_ble_eq_true rfl), (Nat.le_of_ble_eq_true rfl)⟩) ⟨fbK, va_recv hK hP (ci := 15) (q0 := 0) rfl rfl, fun U hU hW => ⟨rfl, hU, va_K.moved hW.alike hK⟩⟩ rfl rfl hl.1 rfl (lv_room (Nat.le_of_ble_eq_true rfl)) dX12_drams_26 ⟨(Nat.le_of_ble_eq_true rfl), (Nat.le_of_ble_eq_true rfl)⟩) hS hA hP hD [0] rfl [.inl 0, .inr 1, .inr 2, .inr 3, .inr 4, .inr 5, .inr 6, .inr 7] rfl rfl rfl (fun H locs hP hD hS => ?_)
    exact wB_29 r1.2.1 r1.2.2 t_f t_refused t_s r3.2 r3.1 _ _ _ h hP hD hS (lv_sub hl [] rfl)
  · have h := (if_neg c0).symm.trans h
    refine lv_aload_n hx hb dX12_drams_13 rfl (lv_at hl 0 rfl) ?_
    refine lv_iconst (v := 0) hx hb dX12_drams_14 (by decide) ?_
    refine lv_iload_n hx hb dX12_drams_15 rfl (lv_at hl 1 rfl) ?_
    refine lv_iload_n hx hb dX12_drams_16 rfl (lv_at hl 2 rfl) ?_
    refine lv_iconst (v := 2) hx hb dX12_drams_17 (by decide) ?_
    obtain ⟨r4, hq, h⟩ := gb_some h
    refine cxI (X2 := [(a_t, .inr (15, [.ref a_t_s, .ref a_t_f, .ref a_t_before, .ref a_t_beforeF, .ref a_t_aside, .ref a_t_asideF, .ref a_t_saved, .ref a_t_savedF, .int t_isSaved, .ref a_t_past, .ref a_t_pastF, .int t_pastMany, .int t_boiled, .int r4.2.1, .ref a_t_refused, .ref a_t_text, .int t_length, .int t_error, .ref a_t_signs, .ref a_t_numbers, .int t_tokens, .int t_spoons, .int t_mostSpoons, .ref a_t_row, .ref a_t_isBrothOn, .ref a_t_dramsOn, .ref a_t_brothOn, .int t_cause, .int t_causeDetail, .ref a_t_lowOn, .ref a_t_highOn, .ref a_t_lowStored, .ref a_t_highStored, .ref a_t_isBrothStored, .int t_storeMany, .ref a_t_step, .ref a_t_stepF, .ref a_t_line, .int t_lineMany])), (a_t_s, .inl (cT 0, 282, .inl r4.2.2.1)), (a_t_before, .inl (cT 0, 282, .inl r1.2.1)), (a_t_f, .inl (cT 4, 6, .inr (.inr (.inl r4.2.2.2.2)))), (a_t_beforeF, .inl (cT 4, 6, .inr (.inr (.inl r1.2.2)))), (a_t_refused, .inl (cT 0, 4, .inl r4.2.2.2.1)), (a_t_past, .inl (cT 0, 1692, .inl t_past)), (a_t_pastF, .inl (cT 4, 36, .inr (.inr (.inl t_pastF))))]) (va_runV (As := [.int 0, .int p1, .int p2, .int 2]) (rest := [.ref a_t]) ⟨hx, hb, hml, hown, hta⟩ (c_X12_comes l dC dI cT hq (hP.sub (ws' := [(a_t, .inr (15, [.ref a_t_s, .ref a_t_f, .ref a_t_before, .ref a_t_beforeF, .ref a_t_aside, .ref a_t_asideF, .ref a_t_saved, .ref a_t_savedF, .int t_isSaved, .ref a_t_past, .ref a_t_pastF, .int t_pastMany, .int t_boiled, .int r1.1, .ref a_t_refused, .ref a_t_text, .int t_length, .int t_error, .ref a_t_signs, .ref a_t_numbers, .int t_tokens, .int t_spoons, .int t_mostSpoons, .ref a_t_row, .ref a_t_isBrothOn, .ref a_t_dramsOn, .ref a_t_brothOn, .int t_cause, .int t_causeDetail, .ref a_t_lowOn, .ref a_t_highOn, .ref a_t_lowStored, .ref a_t_highStored, .ref a_t_isBrothStored, .int t_storeMany, .ref a_t_step, .ref a_t_stepF, .ref a_t_line, .int t_lineMany])), (a_t_s, .inl (cT 0, 282, .inl t_s)), (a_t_refused, .inl (cT 0, 4, .inl t_refused)), (a_t_f, .inl (cT 4, 6, .inr (.inr (.inl t_f))))]) [0, 1, 5, 3] rfl) ((hD.sub [0, 1, 5, 3] (by decide) rfl).weaken (fun _ _ _ _ => trivial))) (cV hta lm_X12_145 md_X12_comes ⟨(Nat.le_of_ble_eq_true rfl), (Nat.le_of_ble_eq_true rfl)⟩) ⟨fbK, va_recv hK hP (ci := 15) (q0 := 0) rfl rfl, fun U hU hW => ⟨rfl, hU, va_K.moved hW.alike hK⟩⟩ rfl rfl hl.1 rfl (lv_room (Nat.le_of_ble_eq_true rfl)) dX12_drams_18 ⟨(Nat.le_of_ble_eq_true rfl), (Nat.le_of_ble_eq_true rfl)⟩) hS hA hP hD [0, 1, 5, 3] rfl [.inl 0, .inl 1, .inr 2, .inl 3, .inr 4, .inl 2, .inr 6, .inr 7] rfl rfl rfl (fun H locs hP hD hS => ?_)
    refine lv_goto (tgt := 29) hx hb dX12_drams_21 (by decide) ?_
    exact wB_29 r1.2.1 r1.2.2 r4.2.2.2.2 r4.2.2.2.1 r4.2.2.1 r4.2.1 r4.1 _ _ _ h hP hD hS (lv_sub hl [] rfl)
def g_X12_broth (t_pastMany : Int32) (t_thrown : Int32) (t_s : Nat → Int32) (t_before : Nat → Int32) (t_f : Nat → UInt32) (t_beforeF : Nat → UInt32) (t_refused : Nat → Int32) (t_past : Nat → Int32) (t_pastF : Nat → UInt32) : Option (Int32 × Int32 × Int32 × (Nat → Int32) × (Nat → Int32) × (Nat → UInt32) × (Nat → UInt32) × (Nat → Int32) × (Nat → Int32) × (Nat → UInt32)) :=
  gb (g_X12_keep t_thrown t_s t_before t_f t_beforeF) fun r1 =>
  gb (g_X12_comes r1.1 t_s t_refused t_f (1 : Int32) (-99 : Int32) (99 : Int32) (1 : Int32)) fun r2 =>
  gb (g_X12_ends t_pastMany r2.2.1 t_past t_pastF r1.2.1 r2.2.2.1 r1.2.2 r2.2.2.2.2 r2.1) fun r3 =>
  some (r3.1, r3.2.1, r2.2.1, r3.2.2.2.2.1, r1.2.1, r3.2.2.2.2.2, r1.2.2, r2.2.2.2.1, r3.2.2.1, r3.2.2.2.1)
set_option maxHeartbeats 4000000 in
set_option maxRecDepth 100000 in
theorem c_X12_broth (l : Launch) (dC : Nat → ClassId) (dI : Nat → Nat → Nat) (cT : Nat → ClassId) {Hh : Heap} {a_t : Nat} {a_t_s : Nat} {a_t_before : Nat} {a_t_f : Nat} {a_t_beforeF : Nat} {a_t_refused : Nat} {a_t_past : Nat} {a_t_pastF : Nat} {a_t_aside : Nat} {a_t_asideF : Nat} {a_t_saved : Nat} {a_t_savedF : Nat} {a_t_text : Nat} {a_t_signs : Nat} {a_t_numbers : Nat} {a_t_row : Nat} {a_t_isBrothOn : Nat} {a_t_dramsOn : Nat} {a_t_brothOn : Nat} {a_t_lowOn : Nat} {a_t_highOn : Nat} {a_t_lowStored : Nat} {a_t_highStored : Nat} {a_t_isBrothStored : Nat} {a_t_step : Nat} {a_t_stepF : Nat} {a_t_line : Nat} {t_pastMany : Int32} {t_thrown : Int32} {t_s : Nat → Int32} {t_before : Nat → Int32} {t_f : Nat → UInt32} {t_beforeF : Nat → UInt32} {t_refused : Nat → Int32} {t_past : Nat → Int32} {t_pastF : Nat → UInt32} {t_isSaved : Int32} {t_boiled : Int32} {t_length : Int32} {t_error : Int32} {t_tokens : Int32} {t_spoons : Int32} {t_mostSpoons : Int32} {t_cause : Int32} {t_causeDetail : Int32} {t_storeMany : Int32} {t_lineMany : Int32} {o : Int32 × Int32 × Int32 × (Nat → Int32) × (Nat → Int32) × (Nat → UInt32) × (Nat → UInt32) × (Nat → Int32) × (Nat → Int32) × (Nat → UInt32)} (h : g_X12_broth t_pastMany t_thrown t_s t_before t_f t_beforeF t_refused t_past t_pastF = some o) (hP0 : va_P (dC, dI) vwCl [(a_t, .inr (15, [.ref a_t_s, .ref a_t_f, .ref a_t_before, .ref a_t_beforeF, .ref a_t_aside, .ref a_t_asideF, .ref a_t_saved, .ref a_t_savedF, .int t_isSaved, .ref a_t_past, .ref a_t_pastF, .int t_pastMany, .int t_boiled, .int t_thrown, .ref a_t_refused, .ref a_t_text, .int t_length, .int t_error, .ref a_t_signs, .ref a_t_numbers, .int t_tokens, .int t_spoons, .int t_mostSpoons, .ref a_t_row, .ref a_t_isBrothOn, .ref a_t_dramsOn, .ref a_t_brothOn, .int t_cause, .int t_causeDetail, .ref a_t_lowOn, .ref a_t_highOn, .ref a_t_lowStored, .ref a_t_highStored, .ref a_t_isBrothStored, .int t_storeMany, .ref a_t_step, .ref a_t_stepF, .ref a_t_line, .int t_lineMany])), (a_t_s, .inl (cT 0, 282, .inl t_s)), (a_t_before, .inl (cT 0, 282, .inl t_before)), (a_t_f, .inl (cT 4, 6, .inr (.inr (.inl t_f)))), (a_t_beforeF, .inl (cT 4, 6, .inr (.inr (.inl t_beforeF)))), (a_t_refused, .inl (cT 0, 4, .inl t_refused)), (a_t_past, .inl (cT 0, 1692, .inl t_past)), (a_t_pastF, .inl (cT 4, 36, .inr (.inr (.inl t_pastF))))] Hh) (hD0 : va_D (fun _ => True) [(a_t, .inr (15, [.ref a_t_s, .ref a_t_f, .ref a_t_before, .ref a_t_beforeF, .ref a_t_aside, .ref a_t_asideF, .ref a_t_saved, .ref a_t_savedF, .int t_isSaved, .ref a_t_past, .ref a_t_pastF, .int t_pastMany, .int t_boiled, .int t_thrown, .ref a_t_refused, .ref a_t_text, .int t_length, .int t_error, .ref a_t_signs, .ref a_t_numbers, .int t_tokens, .int t_spoons, .int t_mostSpoons, .ref a_t_row, .ref a_t_isBrothOn, .ref a_t_dramsOn, .ref a_t_brothOn, .int t_cause, .int t_causeDetail, .ref a_t_lowOn, .ref a_t_highOn, .ref a_t_lowStored, .ref a_t_highStored, .ref a_t_isBrothStored, .int t_storeMany, .ref a_t_step, .ref a_t_stepF, .ref a_t_line, .int t_lineMany])), (a_t_s, .inl (cT 0, 282, .inl t_s)), (a_t_before, .inl (cT 0, 282, .inl t_before)), (a_t_f, .inl (cT 4, 6, .inr (.inr (.inl t_f)))), (a_t_beforeF, .inl (cT 4, 6, .inr (.inr (.inl t_beforeF)))), (a_t_refused, .inl (cT 0, 4, .inl t_refused)), (a_t_past, .inl (cT 0, 1692, .inl t_past)), (a_t_pastF, .inl (cT 4, 36, .inr (.inr (.inl t_pastF))))]) : Met l yX12_broth (wA yX12_broth cX12_broth 1 (some .int)) ({ frames := 3, cells := 0, slots := 0, locals := 73 } : Room) (PK dC dI cT [.ref a_t] Hh) (va_Qi (fun x (_ : Unit) => x = o.1) (fun _ t => va_P (dC, dI) vwCl [(a_t, .inr (15, [.ref a_t_s, .ref a_t_f, .ref a_t_before, .ref a_t_beforeF, .ref a_t_aside, .ref a_t_asideF, .ref a_t_saved, .ref a_t_savedF, .int t_isSaved, .ref a_t_past, .ref a_t_pastF, .int o.2.1, .int t_boiled, .int o.2.2.1, .ref a_t_refused, .ref a_t_text, .int t_length, .int t_error, .ref a_t_signs, .ref a_t_numbers, .int t_tokens, .int t_spoons, .int t_mostSpoons, .ref a_t_row, .ref a_t_isBrothOn, .ref a_t_dramsOn, .ref a_t_brothOn, .int t_cause, .int t_causeDetail, .ref a_t_lowOn, .ref a_t_highOn, .ref a_t_lowStored, .ref a_t_highStored, .ref a_t_isBrothStored, .int t_storeMany, .ref a_t_step, .ref a_t_stepF, .ref a_t_line, .int t_lineMany])), (a_t_s, .inl (cT 0, 282, .inl o.2.2.2.1)), (a_t_before, .inl (cT 0, 282, .inl o.2.2.2.2.1)), (a_t_f, .inl (cT 4, 6, .inr (.inr (.inl o.2.2.2.2.2.1)))), (a_t_beforeF, .inl (cT 4, 6, .inr (.inr (.inl o.2.2.2.2.2.2.1)))), (a_t_refused, .inl (cT 0, 4, .inl o.2.2.2.2.2.2.2.1)), (a_t_past, .inl (cT 0, 1692, .inl o.2.2.2.2.2.2.2.2.1)), (a_t_pastF, .inl (cT 4, 36, .inr (.inr (.inl o.2.2.2.2.2.2.2.2.2))))] t.heap) (va_A [(a_t, .inr (15, [.ref a_t_s, .ref a_t_f, .ref a_t_before, .ref a_t_beforeF, .ref a_t_aside, .ref a_t_asideF, .ref a_t_saved, .ref a_t_savedF, .int t_isSaved, .ref a_t_past, .ref a_t_pastF, .int t_pastMany, .int t_boiled, .int t_thrown, .ref a_t_refused, .ref a_t_text, .int t_length, .int t_error, .ref a_t_signs, .ref a_t_numbers, .int t_tokens, .int t_spoons, .int t_mostSpoons, .ref a_t_row, .ref a_t_isBrothOn, .ref a_t_dramsOn, .ref a_t_brothOn, .int t_cause, .int t_causeDetail, .ref a_t_lowOn, .ref a_t_highOn, .ref a_t_lowStored, .ref a_t_highStored, .ref a_t_isBrothStored, .int t_storeMany, .ref a_t_step, .ref a_t_stepF, .ref a_t_line, .int t_lineMany])), (a_t_s, .inl (cT 0, 282, .inl t_s)), (a_t_before, .inl (cT 0, 282, .inl t_before)), (a_t_f, .inl (cT 4, 6, .inr (.inr (.inl t_f)))), (a_t_beforeF, .inl (cT 4, 6, .inr (.inr (.inl t_beforeF)))), (a_t_refused, .inl (cT 0, 4, .inl t_refused)), (a_t_past, .inl (cT 0, 1692, .inl t_past)), (a_t_pastF, .inl (cT 4, 36, .inr (.inr (.inl t_pastF))))] Hh.size)) 0 0 (va_A [(a_t, .inr (15, [.ref a_t_s, .ref a_t_f, .ref a_t_before, .ref a_t_beforeF, .ref a_t_aside, .ref a_t_asideF, .ref a_t_saved, .ref a_t_savedF, .int t_isSaved, .ref a_t_past, .ref a_t_pastF, .int t_pastMany, .int t_boiled, .int t_thrown, .ref a_t_refused, .ref a_t_text, .int t_length, .int t_error, .ref a_t_signs, .ref a_t_numbers, .int t_tokens, .int t_spoons, .int t_mostSpoons, .ref a_t_row, .ref a_t_isBrothOn, .ref a_t_dramsOn, .ref a_t_brothOn, .int t_cause, .int t_causeDetail, .ref a_t_lowOn, .ref a_t_highOn, .ref a_t_lowStored, .ref a_t_highStored, .ref a_t_isBrothStored, .int t_storeMany, .ref a_t_step, .ref a_t_stepF, .ref a_t_line, .int t_lineMany])), (a_t_s, .inl (cT 0, 282, .inl t_s)), (a_t_before, .inl (cT 0, 282, .inl t_before)), (a_t_f, .inl (cT 4, 6, .inr (.inr (.inl t_f)))), (a_t_beforeF, .inl (cT 4, 6, .inr (.inr (.inl t_beforeF)))), (a_t_refused, .inl (cT 0, 4, .inl t_refused)), (a_t_past, .inl (cT 0, 1692, .inl t_past)), (a_t_pastF, .inl (cT 4, 36, .inr (.inr (.inl t_pastF))))] Hh.size) := by
  refine Met.ofW (cc := cX12_broth) (maxL := 1) (ret := (some .int)) (by decide) rfl ?_
  intro p e s m args below meth c s₁ B hml hv
  obtain ⟨rfl, hH, hK⟩ := hv
  subst hH
  have hx := B.exec
  have hb := B.bytes
  have hr := B.returns
  have hta : ∀ w ∈ ALLW, w.before [.ref a_t].toArray s = true := fun w hw => atoms_spec (ws := wA yX12_broth cX12_broth 1 (some .int)) B.pre w (List.mem_cons_of_mem _ hw)
  have hown : s.vm.findClass RX12 = some m.cls := findClass_of_methodNamed B.named
  have hlocks := B.notSynchronized
  have hD := hD0.self (sz := s.heap.size)
  generalize hAe : va_A [(a_t, .inr (15, [.ref a_t_s, .ref a_t_f, .ref a_t_before, .ref a_t_beforeF, .ref a_t_aside, .ref a_t_asideF, .ref a_t_saved, .ref a_t_savedF, .int t_isSaved, .ref a_t_past, .ref a_t_pastF, .int t_pastMany, .int t_boiled, .int t_thrown, .ref a_t_refused, .ref a_t_text, .int t_length, .int t_error, .ref a_t_signs, .ref a_t_numbers, .int t_tokens, .int t_spoons, .int t_mostSpoons, .ref a_t_row, .ref a_t_isBrothOn, .ref a_t_dramsOn, .ref a_t_brothOn, .int t_cause, .int t_causeDetail, .ref a_t_lowOn, .ref a_t_highOn, .ref a_t_lowStored, .ref a_t_highStored, .ref a_t_isBrothStored, .int t_storeMany, .ref a_t_step, .ref a_t_stepF, .ref a_t_line, .int t_lineMany])), (a_t_s, .inl (cT 0, 282, .inl t_s)), (a_t_before, .inl (cT 0, 282, .inl t_before)), (a_t_f, .inl (cT 4, 6, .inr (.inr (.inl t_f)))), (a_t_beforeF, .inl (cT 4, 6, .inr (.inr (.inl t_beforeF)))), (a_t_refused, .inl (cT 0, 4, .inl t_refused)), (a_t_past, .inl (cT 0, 1692, .inl t_past)), (a_t_pastF, .inl (cT 4, 36, .inr (.inr (.inl t_pastF))))] s.heap.size = A at hD ⊢
  have hP := hP0
  have hA : ∀ q : Nat, s.heap.size ≤ q → A q := fun q h => by rw [← hAe]; exact Or.inr h
  have hS : va_S A s.heap s.heap [] := va_S.rf
  have hl := lv_entry [.ref a_t] (n := 1) (Nat.le_of_ble_eq_true rfl)
  rw [lg_entry_eq]
  generalize (lg_sl [.ref a_t] ++ List.replicate (1 - (lg_sl [.ref a_t]).length) Slot.unset).toArray = ls at hl ⊢
  have hl : lv_has ls 1 [(0, .ref a_t)] := hl
  unfold g_X12_broth at h
  refine lv_aload_n hx hb dX12_broth_0 rfl (lv_at hl 0 rfl) ?_
  obtain ⟨r1, hq, h⟩ := gb_some h
  refine cxV (X2 := [(a_t, .inr (15, [.ref a_t_s, .ref a_t_f, .ref a_t_before, .ref a_t_beforeF, .ref a_t_aside, .ref a_t_asideF, .ref a_t_saved, .ref a_t_savedF, .int t_isSaved, .ref a_t_past, .ref a_t_pastF, .int t_pastMany, .int t_boiled, .int r1.1, .ref a_t_refused, .ref a_t_text, .int t_length, .int t_error, .ref a_t_signs, .ref a_t_numbers, .int t_tokens, .int t_spoons, .int t_mostSpoons, .ref a_t_row, .ref a_t_isBrothOn, .ref a_t_dramsOn, .ref a_t_brothOn, .int t_cause, .int t_causeDetail, .ref a_t_lowOn, .ref a_t_highOn, .ref a_t_lowStored, .ref a_t_highStored, .ref a_t_isBrothStored, .int t_storeMany, .ref a_t_step, .ref a_t_stepF, .ref a_t_line, .int t_lineMany])), (a_t_s, .inl (cT 0, 282, .inl t_s)), (a_t_before, .inl (cT 0, 282, .inl r1.2.1)), (a_t_f, .inl (cT 4, 6, .inr (.inr (.inl t_f)))), (a_t_beforeF, .inl (cT 4, 6, .inr (.inr (.inl r1.2.2)))), (a_t_refused, .inl (cT 0, 4, .inl t_refused)), (a_t_past, .inl (cT 0, 1692, .inl t_past)), (a_t_pastF, .inl (cT 4, 36, .inr (.inr (.inl t_pastF))))]) (va_runV (As := []) (rest := []) ⟨hx, hb, hml, hown, hta⟩ (c_X12_keep l dC dI cT hq (hP.sub (ws' := [(a_t, .inr (15, [.ref a_t_s, .ref a_t_f, .ref a_t_before, .ref a_t_beforeF, .ref a_t_aside, .ref a_t_asideF, .ref a_t_saved, .ref a_t_savedF, .int t_isSaved, .ref a_t_past, .ref a_t_pastF, .int t_pastMany, .int t_boiled, .int t_thrown, .ref a_t_refused, .ref a_t_text, .int t_length, .int t_error, .ref a_t_signs, .ref a_t_numbers, .int t_tokens, .int t_spoons, .int t_mostSpoons, .ref a_t_row, .ref a_t_isBrothOn, .ref a_t_dramsOn, .ref a_t_brothOn, .int t_cause, .int t_causeDetail, .ref a_t_lowOn, .ref a_t_highOn, .ref a_t_lowStored, .ref a_t_highStored, .ref a_t_isBrothStored, .int t_storeMany, .ref a_t_step, .ref a_t_stepF, .ref a_t_line, .int t_lineMany])), (a_t_s, .inl (cT 0, 282, .inl t_s)), (a_t_before, .inl (cT 0, 282, .inl t_before)), (a_t_f, .inl (cT 4, 6, .inr (.inr (.inl t_f)))), (a_t_beforeF, .inl (cT 4, 6, .inr (.inr (.inl t_beforeF))))]) [0, 1, 2, 3, 4] rfl) ((hD.sub [0, 1, 2, 3, 4] (by decide) rfl).weaken (fun _ _ _ _ => trivial))) (cV hta lm_X12_138 md_X12_keep ⟨(Nat.le_of_ble_eq_true rfl), (Nat.le_of_ble_eq_true rfl)⟩) ⟨fbK, va_recv hK hP (ci := 15) (q0 := 0) rfl rfl, fun U hU hW => ⟨rfl, hU, va_K.moved hW.alike hK⟩⟩ rfl rfl hl.1 rfl (lv_room (Nat.le_of_ble_eq_true rfl)) dX12_broth_1 ⟨(Nat.le_of_ble_eq_true rfl), (Nat.le_of_ble_eq_true rfl)⟩) hS hA hP hD [0, 1, 2, 3, 4] rfl [.inl 0, .inl 1, .inl 2, .inl 3, .inl 4, .inr 5, .inr 6, .inr 7] rfl rfl rfl (fun H locs hP hD hS => ?_)
  refine lv_aload_n hx hb dX12_broth_4 rfl (lv_at hl 0 rfl) ?_
  refine lv_aload_n hx hb dX12_broth_5 rfl (lv_at hl 0 rfl) ?_
  refine lv_iconst (v := 1) hx hb dX12_broth_6 (by decide) ?_
  refine lv_bipush (v := -99) hx hb dX12_broth_7 (by decide) ?_
  refine lv_bipush (v := 99) hx hb dX12_broth_9 (by decide) ?_
  refine lv_iconst (v := 1) hx hb dX12_broth_11 (by decide) ?_
  obtain ⟨r2, hq, h⟩ := gb_some h
  refine cxI (X2 := [(a_t, .inr (15, [.ref a_t_s, .ref a_t_f, .ref a_t_before, .ref a_t_beforeF, .ref a_t_aside, .ref a_t_asideF, .ref a_t_saved, .ref a_t_savedF, .int t_isSaved, .ref a_t_past, .ref a_t_pastF, .int t_pastMany, .int t_boiled, .int r2.2.1, .ref a_t_refused, .ref a_t_text, .int t_length, .int t_error, .ref a_t_signs, .ref a_t_numbers, .int t_tokens, .int t_spoons, .int t_mostSpoons, .ref a_t_row, .ref a_t_isBrothOn, .ref a_t_dramsOn, .ref a_t_brothOn, .int t_cause, .int t_causeDetail, .ref a_t_lowOn, .ref a_t_highOn, .ref a_t_lowStored, .ref a_t_highStored, .ref a_t_isBrothStored, .int t_storeMany, .ref a_t_step, .ref a_t_stepF, .ref a_t_line, .int t_lineMany])), (a_t_s, .inl (cT 0, 282, .inl r2.2.2.1)), (a_t_before, .inl (cT 0, 282, .inl r1.2.1)), (a_t_f, .inl (cT 4, 6, .inr (.inr (.inl r2.2.2.2.2)))), (a_t_beforeF, .inl (cT 4, 6, .inr (.inr (.inl r1.2.2)))), (a_t_refused, .inl (cT 0, 4, .inl r2.2.2.2.1)), (a_t_past, .inl (cT 0, 1692, .inl t_past)), (a_t_pastF, .inl (cT 4, 36, .inr (.inr (.inl t_pastF))))]) (va_runV (As := [.int 1, .int (-99), .int 99, .int 1]) (rest := [.ref a_t]) ⟨hx, hb, hml, hown, hta⟩ (c_X12_comes l dC dI cT hq (hP.sub (ws' := [(a_t, .inr (15, [.ref a_t_s, .ref a_t_f, .ref a_t_before, .ref a_t_beforeF, .ref a_t_aside, .ref a_t_asideF, .ref a_t_saved, .ref a_t_savedF, .int t_isSaved, .ref a_t_past, .ref a_t_pastF, .int t_pastMany, .int t_boiled, .int r1.1, .ref a_t_refused, .ref a_t_text, .int t_length, .int t_error, .ref a_t_signs, .ref a_t_numbers, .int t_tokens, .int t_spoons, .int t_mostSpoons, .ref a_t_row, .ref a_t_isBrothOn, .ref a_t_dramsOn, .ref a_t_brothOn, .int t_cause, .int t_causeDetail, .ref a_t_lowOn, .ref a_t_highOn, .ref a_t_lowStored, .ref a_t_highStored, .ref a_t_isBrothStored, .int t_storeMany, .ref a_t_step, .ref a_t_stepF, .ref a_t_line, .int t_lineMany])), (a_t_s, .inl (cT 0, 282, .inl t_s)), (a_t_refused, .inl (cT 0, 4, .inl t_refused)), (a_t_f, .inl (cT 4, 6, .inr (.inr (.inl t_f))))]) [0, 1, 5, 3] rfl) ((hD.sub [0, 1, 5, 3] (by decide) rfl).weaken (fun _ _ _ _ => trivial))) (cV hta lm_X12_145 md_X12_comes ⟨(Nat.le_of_ble_eq_true rfl), (Nat.le_of_ble_eq_true rfl)⟩) ⟨fbK, va_recv hK hP (ci := 15) (q0 := 0) rfl rfl, fun U hU hW => ⟨rfl, hU, va_K.moved hW.alike hK⟩⟩ rfl rfl hl.1 rfl (lv_room (Nat.le_of_ble_eq_true rfl)) dX12_broth_12 ⟨(Nat.le_of_ble_eq_true rfl), (Nat.le_of_ble_eq_true rfl)⟩) hS hA hP hD [0, 1, 5, 3] rfl [.inl 0, .inl 1, .inr 2, .inl 3, .inr 4, .inl 2, .inr 6, .inr 7] rfl rfl rfl (fun H locs hP hD hS => ?_)
  obtain ⟨r3, hq, h⟩ := gb_some h
  refine cxI (X2 := [(a_t, .inr (15, [.ref a_t_s, .ref a_t_f, .ref a_t_before, .ref a_t_beforeF, .ref a_t_aside, .ref a_t_asideF, .ref a_t_saved, .ref a_t_savedF, .int t_isSaved, .ref a_t_past, .ref a_t_pastF, .int r3.2.1, .int t_boiled, .int r2.2.1, .ref a_t_refused, .ref a_t_text, .int t_length, .int t_error, .ref a_t_signs, .ref a_t_numbers, .int t_tokens, .int t_spoons, .int t_mostSpoons, .ref a_t_row, .ref a_t_isBrothOn, .ref a_t_dramsOn, .ref a_t_brothOn, .int t_cause, .int t_causeDetail, .ref a_t_lowOn, .ref a_t_highOn, .ref a_t_lowStored, .ref a_t_highStored, .ref a_t_isBrothStored, .int t_storeMany, .ref a_t_step, .ref a_t_stepF, .ref a_t_line, .int t_lineMany])), (a_t_s, .inl (cT 0, 282, .inl r3.2.2.2.2.1)), (a_t_before, .inl (cT 0, 282, .inl r1.2.1)), (a_t_f, .inl (cT 4, 6, .inr (.inr (.inl r3.2.2.2.2.2)))), (a_t_beforeF, .inl (cT 4, 6, .inr (.inr (.inl r1.2.2)))), (a_t_refused, .inl (cT 0, 4, .inl r2.2.2.2.1)), (a_t_past, .inl (cT 0, 1692, .inl r3.2.2.1)), (a_t_pastF, .inl (cT 4, 36, .inr (.inr (.inl r3.2.2.2.1))))]) (va_runV (As := [.int r2.1]) (rest := []) ⟨hx, hb, hml, hown, hta⟩ (c_X12_ends l dC dI cT hq (hP.sub (ws' := [(a_t, .inr (15, [.ref a_t_s, .ref a_t_f, .ref a_t_before, .ref a_t_beforeF, .ref a_t_aside, .ref a_t_asideF, .ref a_t_saved, .ref a_t_savedF, .int t_isSaved, .ref a_t_past, .ref a_t_pastF, .int t_pastMany, .int t_boiled, .int r2.2.1, .ref a_t_refused, .ref a_t_text, .int t_length, .int t_error, .ref a_t_signs, .ref a_t_numbers, .int t_tokens, .int t_spoons, .int t_mostSpoons, .ref a_t_row, .ref a_t_isBrothOn, .ref a_t_dramsOn, .ref a_t_brothOn, .int t_cause, .int t_causeDetail, .ref a_t_lowOn, .ref a_t_highOn, .ref a_t_lowStored, .ref a_t_highStored, .ref a_t_isBrothStored, .int t_storeMany, .ref a_t_step, .ref a_t_stepF, .ref a_t_line, .int t_lineMany])), (a_t_past, .inl (cT 0, 1692, .inl t_past)), (a_t_pastF, .inl (cT 4, 36, .inr (.inr (.inl t_pastF)))), (a_t_before, .inl (cT 0, 282, .inl r1.2.1)), (a_t_s, .inl (cT 0, 282, .inl r2.2.2.1)), (a_t_beforeF, .inl (cT 4, 6, .inr (.inr (.inl r1.2.2)))), (a_t_f, .inl (cT 4, 6, .inr (.inr (.inl r2.2.2.2.2))))]) [0, 6, 7, 2, 1, 4, 3] rfl) ((hD.sub [0, 6, 7, 2, 1, 4, 3] (by decide) rfl).weaken (fun _ _ _ _ => trivial))) (cV hta lm_X12_153 md_X12_ends ⟨(Nat.le_of_ble_eq_true rfl), (Nat.le_of_ble_eq_true rfl)⟩) ⟨fbK, va_recv hK hP (ci := 15) (q0 := 0) rfl rfl, fun U hU hW => ⟨rfl, hU, va_K.moved hW.alike hK⟩⟩ rfl rfl hl.1 rfl (lv_room (Nat.le_of_ble_eq_true rfl)) dX12_broth_15 ⟨(Nat.le_of_ble_eq_true rfl), (Nat.le_of_ble_eq_true rfl)⟩) hS hA hP hD [0, 6, 7, 2, 1, 4, 3] rfl [.inl 0, .inl 4, .inl 3, .inl 6, .inl 5, .inr 5, .inl 1, .inl 2] rfl rfl rfl (fun H locs hP hD hS => ?_)
  have ho := Option.some.inj h
  exact W.iret (v := r3.1) hx hb hr (fun t ht hW => ⟨⟨r3.1, (), rfl, by rw [← ho], by show va_P (dC, dI) vwCl _ t.heap; rw [ht, ← ho]; exact hP⟩, hS.F ht⟩) hS.2.2 dX12_broth_18
def g_X12_holds (t_s : Nat → Int32) (p1 : Int32) (p2 : Int64) : Option (Int32) :=
  gb (g_X12_of t_s p1 (1 : Int32)) fun r1 =>
  gb (g_X12_of t_s p1 (2 : Int32)) fun r2 =>
  gb (g_X12_in p2 r1.toInt64 r2.toInt64) fun r3 =>
  gc (bo r3) <|
  some (r3)
set_option maxHeartbeats 4000000 in
set_option maxRecDepth 100000 in
theorem c_X12_holds (l : Launch) (dC : Nat → ClassId) (dI : Nat → Nat → Nat) (cT : Nat → ClassId) {Hh : Heap} {a_t : Nat} {a_t_s : Nat} {a_t_f : Nat} {a_t_before : Nat} {a_t_beforeF : Nat} {a_t_aside : Nat} {a_t_asideF : Nat} {a_t_saved : Nat} {a_t_savedF : Nat} {a_t_past : Nat} {a_t_pastF : Nat} {a_t_refused : Nat} {a_t_text : Nat} {a_t_signs : Nat} {a_t_numbers : Nat} {a_t_row : Nat} {a_t_isBrothOn : Nat} {a_t_dramsOn : Nat} {a_t_brothOn : Nat} {a_t_lowOn : Nat} {a_t_highOn : Nat} {a_t_lowStored : Nat} {a_t_highStored : Nat} {a_t_isBrothStored : Nat} {a_t_step : Nat} {a_t_stepF : Nat} {a_t_line : Nat} {t_s : Nat → Int32} {p1 : Int32} {p2 : Int64} {t_isSaved : Int32} {t_pastMany : Int32} {t_boiled : Int32} {t_thrown : Int32} {t_length : Int32} {t_error : Int32} {t_tokens : Int32} {t_spoons : Int32} {t_mostSpoons : Int32} {t_cause : Int32} {t_causeDetail : Int32} {t_storeMany : Int32} {t_lineMany : Int32} {o : Int32} (h : g_X12_holds t_s p1 p2 = some o) (hR0 : va_P (dC, dI) vwCl [(a_t, .inr (15, [.ref a_t_s, .ref a_t_f, .ref a_t_before, .ref a_t_beforeF, .ref a_t_aside, .ref a_t_asideF, .ref a_t_saved, .ref a_t_savedF, .int t_isSaved, .ref a_t_past, .ref a_t_pastF, .int t_pastMany, .int t_boiled, .int t_thrown, .ref a_t_refused, .ref a_t_text, .int t_length, .int t_error, .ref a_t_signs, .ref a_t_numbers, .int t_tokens, .int t_spoons, .int t_mostSpoons, .ref a_t_row, .ref a_t_isBrothOn, .ref a_t_dramsOn, .ref a_t_brothOn, .int t_cause, .int t_causeDetail, .ref a_t_lowOn, .ref a_t_highOn, .ref a_t_lowStored, .ref a_t_highStored, .ref a_t_isBrothStored, .int t_storeMany, .ref a_t_step, .ref a_t_stepF, .ref a_t_line, .int t_lineMany])), (a_t_s, .inl (cT 0, 282, .inl t_s))] Hh) : Met l yX12_holds (wA yX12_holds cX12_holds 4 (some .boolean)) ({ frames := 1, cells := 0, slots := 0, locals := 25 } : Room) (PK dC dI cT [.ref a_t, .int p1, .long p2] Hh) (va_Qi (fun x (_ : Unit) => x = o) (fun _ t => t.heap = Hh) (va_A [] Hh.size)) 0 0 (va_A [] Hh.size) := by
  refine Met.ofW (cc := cX12_holds) (maxL := 4) (ret := (some .boolean)) (by decide) rfl ?_
  intro p e s m args below meth c s₁ B hml hv
  obtain ⟨rfl, hH, hK⟩ := hv
  subst hH
  have hx := B.exec
  have hb := B.bytes
  have hr := B.returns
  have hta : ∀ w ∈ ALLW, w.before [.ref a_t, .int p1, .long p2].toArray s = true := fun w hw => atoms_spec (ws := wA yX12_holds cX12_holds 4 (some .boolean)) B.pre w (List.mem_cons_of_mem _ hw)
  have hown : s.vm.findClass RX12 = some m.cls := findClass_of_methodNamed B.named
  have hlocks := B.notSynchronized
  generalize hAe : va_A [] s.heap.size = A
  have hA : ∀ q : Nat, s.heap.size ≤ q → A q := fun q h => by rw [← hAe]; exact Or.inr h
  have hS : va_S A s.heap s.heap [] := va_S.rf
  have hl := lv_entry [.ref a_t, .int p1, .long p2] (n := 4) (Nat.le_of_ble_eq_true rfl)
  rw [lg_entry_eq]
  generalize (lg_sl [.ref a_t, .int p1, .long p2] ++ List.replicate (4 - (lg_sl [.ref a_t, .int p1, .long p2]).length) Slot.unset).toArray = ls at hl ⊢
  have hl : lv_has ls 4 [(0, .ref a_t), (1, .int p1), (2, .long p2)] := hl
  unfold g_X12_holds at h
  refine lv_lload_n hx hb dX12_holds_0 rfl (lv_at hl 2 rfl) ?_
  refine lv_aload_n hx hb dX12_holds_1 rfl (lv_at hl 0 rfl) ?_
  refine lv_iload_n hx hb dX12_holds_2 rfl (lv_at hl 1 rfl) ?_
  refine lv_iconst (v := 1) hx hb dX12_holds_3 (by decide) ?_
  obtain ⟨r1, hq, h⟩ := gb_some h
  refine crI (va_runV (As := [.int p1, .int 1]) (rest := [.long p2]) ⟨hx, hb, hml, hown, hta⟩ (c_X12_of l dC dI cT hq (hR0.sub (ws' := [(a_t, .inr (15, [.ref a_t_s, .ref a_t_f, .ref a_t_before, .ref a_t_beforeF, .ref a_t_aside, .ref a_t_asideF, .ref a_t_saved, .ref a_t_savedF, .int t_isSaved, .ref a_t_past, .ref a_t_pastF, .int t_pastMany, .int t_boiled, .int t_thrown, .ref a_t_refused, .ref a_t_text, .int t_length, .int t_error, .ref a_t_signs, .ref a_t_numbers, .int t_tokens, .int t_spoons, .int t_mostSpoons, .ref a_t_row, .ref a_t_isBrothOn, .ref a_t_dramsOn, .ref a_t_brothOn, .int t_cause, .int t_causeDetail, .ref a_t_lowOn, .ref a_t_highOn, .ref a_t_lowStored, .ref a_t_highStored, .ref a_t_isBrothStored, .int t_storeMany, .ref a_t_step, .ref a_t_stepF, .ref a_t_line, .int t_lineMany])), (a_t_s, .inl (cT 0, 282, .inl t_s))]) [0, 1] rfl)) (cV hta lm_X12_116 md_X12_of ⟨(Nat.le_of_ble_eq_true rfl), (Nat.le_of_ble_eq_true rfl)⟩) ⟨fbK, va_recv hK hR0 (ci := 15) (q0 := 0) rfl rfl, fun U hU hW => ⟨rfl, hU, va_K.moved hW.alike hK⟩⟩ rfl rfl hl.1 rfl (lv_room (Nat.le_of_ble_eq_true rfl)) dX12_holds_4 ⟨(Nat.le_of_ble_eq_true rfl), (Nat.le_of_ble_eq_true rfl)⟩) hS hA (fun locs hS => ?_)
  refine lv_i2l hx hb dX12_holds_7 rfl ?_
  refine lv_aload_n hx hb dX12_holds_8 rfl (lv_at hl 0 rfl) ?_
  refine lv_iload_n hx hb dX12_holds_9 rfl (lv_at hl 1 rfl) ?_
  refine lv_iconst (v := 2) hx hb dX12_holds_10 (by decide) ?_
  obtain ⟨r2, hq, h⟩ := gb_some h
  refine crI (va_runV (As := [.int p1, .int 2]) (rest := [.long r1.toInt64, .long p2]) ⟨hx, hb, hml, hown, hta⟩ (c_X12_of l dC dI cT hq (hR0.sub (ws' := [(a_t, .inr (15, [.ref a_t_s, .ref a_t_f, .ref a_t_before, .ref a_t_beforeF, .ref a_t_aside, .ref a_t_asideF, .ref a_t_saved, .ref a_t_savedF, .int t_isSaved, .ref a_t_past, .ref a_t_pastF, .int t_pastMany, .int t_boiled, .int t_thrown, .ref a_t_refused, .ref a_t_text, .int t_length, .int t_error, .ref a_t_signs, .ref a_t_numbers, .int t_tokens, .int t_spoons, .int t_mostSpoons, .ref a_t_row, .ref a_t_isBrothOn, .ref a_t_dramsOn, .ref a_t_brothOn, .int t_cause, .int t_causeDetail, .ref a_t_lowOn, .ref a_t_highOn, .ref a_t_lowStored, .ref a_t_highStored, .ref a_t_isBrothStored, .int t_storeMany, .ref a_t_step, .ref a_t_stepF, .ref a_t_line, .int t_lineMany])), (a_t_s, .inl (cT 0, 282, .inl t_s))]) [0, 1] rfl)) (cV hta lm_X12_116 md_X12_of ⟨(Nat.le_of_ble_eq_true rfl), (Nat.le_of_ble_eq_true rfl)⟩) ⟨fbK, va_recv hK hR0 (ci := 15) (q0 := 0) rfl rfl, fun U hU hW => ⟨rfl, hU, va_K.moved hW.alike hK⟩⟩ rfl rfl hl.1 rfl (lv_room (Nat.le_of_ble_eq_true rfl)) dX12_holds_11 ⟨(Nat.le_of_ble_eq_true rfl), (Nat.le_of_ble_eq_true rfl)⟩) hS hA (fun locs hS => ?_)
  refine lv_i2l hx hb dX12_holds_14 rfl ?_
  obtain ⟨r3, hq, h⟩ := gb_some h
  refine crI (va_runS (As := [.long p2, .long r1.toInt64, .long r2.toInt64]) (rest := []) ⟨hx, hb, hml, hown, hta⟩ (c_X12_in l dC dI cT hq) (cS hta lm_X12_112 md_X12_in ⟨(Nat.le_of_ble_eq_true rfl), (Nat.le_of_ble_eq_true rfl)⟩) ⟨fbK, fun U hU hW => ⟨rfl, hU, va_K.moved hW.alike hK⟩⟩ rfl rfl hl.1 rfl (lv_room (Nat.le_of_ble_eq_true rfl)) dX12_holds_15 ⟨(Nat.le_of_ble_eq_true rfl), (Nat.le_of_ble_eq_true rfl)⟩) hS hA (fun locs hS => ?_)
  obtain ⟨hc, h⟩ := gc_some h
  have ho := Option.some.inj h
  exact W.zret (ty := .boolean) (v := r3) hx hb hr (bo_n hc) (fun t ht hW => ⟨⟨r3, (), rfl, by rw [← ho], ht⟩, hS.F ht⟩) hS.2.2 dX12_holds_18
def g_X12_doPour (t_thrown : Int32) (t_s : Nat → Int32) (t_refused : Nat → Int32) (p1 : Int32) (p2 : Int32) : Option (Int32 × Int32 × (Nat → Int32) × (Nat → Int32)) :=
  gb (g_X12_isCauldron t_s p1) fun r1 =>
  if r1 = 0 then
    gb (g_X12_fails t_thrown (1 : Int32)) fun r8 =>
    some (r8.1, r8.2, t_s, t_refused)
  else
    gb (g_X12_isBroth t_s p1) fun r2 =>
    if r2 = 0 then
      gb (g_X12_holds t_s p1 p2.toInt64) fun r3 =>
      if r3 = 0 then
        gb (g_X12_refuse t_thrown t_refused (2 : Int32) (3 : Int32) p2) fun r6 =>
        some (r6.1, r6.2.1, t_s, r6.2.2)
      else
        gb (g_X12_of t_s p1 (3 : Int32)) fun r4 =>
        gb (g_X12_sets t_s p1 (3 : Int32) p2) fun r5 =>
        some (r4, t_thrown, r5, t_refused)
    else
      gb (g_X12_refuse t_thrown t_refused (2 : Int32) (2 : Int32) p1) fun r7 =>
      some (r7.1, r7.2.1, t_s, r7.2.2)
set_option maxHeartbeats 4000000 in
set_option maxRecDepth 100000 in
theorem c_X12_doPour (l : Launch) (dC : Nat → ClassId) (dI : Nat → Nat → Nat) (cT : Nat → ClassId) {Hh : Heap} {a_t : Nat} {a_t_s : Nat} {a_t_refused : Nat} {a_t_f : Nat} {a_t_before : Nat} {a_t_beforeF : Nat} {a_t_aside : Nat} {a_t_asideF : Nat} {a_t_saved : Nat} {a_t_savedF : Nat} {a_t_past : Nat} {a_t_pastF : Nat} {a_t_text : Nat} {a_t_signs : Nat} {a_t_numbers : Nat} {a_t_row : Nat} {a_t_isBrothOn : Nat} {a_t_dramsOn : Nat} {a_t_brothOn : Nat} {a_t_lowOn : Nat} {a_t_highOn : Nat} {a_t_lowStored : Nat} {a_t_highStored : Nat} {a_t_isBrothStored : Nat} {a_t_step : Nat} {a_t_stepF : Nat} {a_t_line : Nat} {t_thrown : Int32} {t_s : Nat → Int32} {t_refused : Nat → Int32} {p1 : Int32} {p2 : Int32} {t_isSaved : Int32} {t_pastMany : Int32} {t_boiled : Int32} {t_length : Int32} {t_error : Int32} {t_tokens : Int32} {t_spoons : Int32} {t_mostSpoons : Int32} {t_cause : Int32} {t_causeDetail : Int32} {t_storeMany : Int32} {t_lineMany : Int32} {o : Int32 × Int32 × (Nat → Int32) × (Nat → Int32)} (h : g_X12_doPour t_thrown t_s t_refused p1 p2 = some o) (hP0 : va_P (dC, dI) vwCl [(a_t, .inr (15, [.ref a_t_s, .ref a_t_f, .ref a_t_before, .ref a_t_beforeF, .ref a_t_aside, .ref a_t_asideF, .ref a_t_saved, .ref a_t_savedF, .int t_isSaved, .ref a_t_past, .ref a_t_pastF, .int t_pastMany, .int t_boiled, .int t_thrown, .ref a_t_refused, .ref a_t_text, .int t_length, .int t_error, .ref a_t_signs, .ref a_t_numbers, .int t_tokens, .int t_spoons, .int t_mostSpoons, .ref a_t_row, .ref a_t_isBrothOn, .ref a_t_dramsOn, .ref a_t_brothOn, .int t_cause, .int t_causeDetail, .ref a_t_lowOn, .ref a_t_highOn, .ref a_t_lowStored, .ref a_t_highStored, .ref a_t_isBrothStored, .int t_storeMany, .ref a_t_step, .ref a_t_stepF, .ref a_t_line, .int t_lineMany])), (a_t_s, .inl (cT 0, 282, .inl t_s)), (a_t_refused, .inl (cT 0, 4, .inl t_refused))] Hh) (hD0 : va_D (fun _ => True) [(a_t, .inr (15, [.ref a_t_s, .ref a_t_f, .ref a_t_before, .ref a_t_beforeF, .ref a_t_aside, .ref a_t_asideF, .ref a_t_saved, .ref a_t_savedF, .int t_isSaved, .ref a_t_past, .ref a_t_pastF, .int t_pastMany, .int t_boiled, .int t_thrown, .ref a_t_refused, .ref a_t_text, .int t_length, .int t_error, .ref a_t_signs, .ref a_t_numbers, .int t_tokens, .int t_spoons, .int t_mostSpoons, .ref a_t_row, .ref a_t_isBrothOn, .ref a_t_dramsOn, .ref a_t_brothOn, .int t_cause, .int t_causeDetail, .ref a_t_lowOn, .ref a_t_highOn, .ref a_t_lowStored, .ref a_t_highStored, .ref a_t_isBrothStored, .int t_storeMany, .ref a_t_step, .ref a_t_stepF, .ref a_t_line, .int t_lineMany])), (a_t_s, .inl (cT 0, 282, .inl t_s)), (a_t_refused, .inl (cT 0, 4, .inl t_refused))]) : Met l yX12_doPour (wA yX12_doPour cX12_doPour 4 (some .int)) ({ frames := 2, cells := 0, slots := 0, locals := 48 } : Room) (PK dC dI cT [.ref a_t, .int p1, .int p2] Hh) (va_Qi (fun x (_ : Unit) => x = o.1) (fun _ t => va_P (dC, dI) vwCl [(a_t, .inr (15, [.ref a_t_s, .ref a_t_f, .ref a_t_before, .ref a_t_beforeF, .ref a_t_aside, .ref a_t_asideF, .ref a_t_saved, .ref a_t_savedF, .int t_isSaved, .ref a_t_past, .ref a_t_pastF, .int t_pastMany, .int t_boiled, .int o.2.1, .ref a_t_refused, .ref a_t_text, .int t_length, .int t_error, .ref a_t_signs, .ref a_t_numbers, .int t_tokens, .int t_spoons, .int t_mostSpoons, .ref a_t_row, .ref a_t_isBrothOn, .ref a_t_dramsOn, .ref a_t_brothOn, .int t_cause, .int t_causeDetail, .ref a_t_lowOn, .ref a_t_highOn, .ref a_t_lowStored, .ref a_t_highStored, .ref a_t_isBrothStored, .int t_storeMany, .ref a_t_step, .ref a_t_stepF, .ref a_t_line, .int t_lineMany])), (a_t_s, .inl (cT 0, 282, .inl o.2.2.1)), (a_t_refused, .inl (cT 0, 4, .inl o.2.2.2))] t.heap) (va_A [(a_t, .inr (15, [.ref a_t_s, .ref a_t_f, .ref a_t_before, .ref a_t_beforeF, .ref a_t_aside, .ref a_t_asideF, .ref a_t_saved, .ref a_t_savedF, .int t_isSaved, .ref a_t_past, .ref a_t_pastF, .int t_pastMany, .int t_boiled, .int t_thrown, .ref a_t_refused, .ref a_t_text, .int t_length, .int t_error, .ref a_t_signs, .ref a_t_numbers, .int t_tokens, .int t_spoons, .int t_mostSpoons, .ref a_t_row, .ref a_t_isBrothOn, .ref a_t_dramsOn, .ref a_t_brothOn, .int t_cause, .int t_causeDetail, .ref a_t_lowOn, .ref a_t_highOn, .ref a_t_lowStored, .ref a_t_highStored, .ref a_t_isBrothStored, .int t_storeMany, .ref a_t_step, .ref a_t_stepF, .ref a_t_line, .int t_lineMany])), (a_t_s, .inl (cT 0, 282, .inl t_s)), (a_t_refused, .inl (cT 0, 4, .inl t_refused))] Hh.size)) 0 0 (va_A [(a_t, .inr (15, [.ref a_t_s, .ref a_t_f, .ref a_t_before, .ref a_t_beforeF, .ref a_t_aside, .ref a_t_asideF, .ref a_t_saved, .ref a_t_savedF, .int t_isSaved, .ref a_t_past, .ref a_t_pastF, .int t_pastMany, .int t_boiled, .int t_thrown, .ref a_t_refused, .ref a_t_text, .int t_length, .int t_error, .ref a_t_signs, .ref a_t_numbers, .int t_tokens, .int t_spoons, .int t_mostSpoons, .ref a_t_row, .ref a_t_isBrothOn, .ref a_t_dramsOn, .ref a_t_brothOn, .int t_cause, .int t_causeDetail, .ref a_t_lowOn, .ref a_t_highOn, .ref a_t_lowStored, .ref a_t_highStored, .ref a_t_isBrothStored, .int t_storeMany, .ref a_t_step, .ref a_t_stepF, .ref a_t_line, .int t_lineMany])), (a_t_s, .inl (cT 0, 282, .inl t_s)), (a_t_refused, .inl (cT 0, 4, .inl t_refused))] Hh.size) := by
  refine Met.ofW (cc := cX12_doPour) (maxL := 4) (ret := (some .int)) (by decide) rfl ?_
  intro p e s m args below meth c s₁ B hml hv
  obtain ⟨rfl, hH, hK⟩ := hv
  subst hH
  have hx := B.exec
  have hb := B.bytes
  have hr := B.returns
  have hta : ∀ w ∈ ALLW, w.before [.ref a_t, .int p1, .int p2].toArray s = true := fun w hw => atoms_spec (ws := wA yX12_doPour cX12_doPour 4 (some .int)) B.pre w (List.mem_cons_of_mem _ hw)
  have hown : s.vm.findClass RX12 = some m.cls := findClass_of_methodNamed B.named
  have hlocks := B.notSynchronized
  have hD := hD0.self (sz := s.heap.size)
  generalize hAe : va_A [(a_t, .inr (15, [.ref a_t_s, .ref a_t_f, .ref a_t_before, .ref a_t_beforeF, .ref a_t_aside, .ref a_t_asideF, .ref a_t_saved, .ref a_t_savedF, .int t_isSaved, .ref a_t_past, .ref a_t_pastF, .int t_pastMany, .int t_boiled, .int t_thrown, .ref a_t_refused, .ref a_t_text, .int t_length, .int t_error, .ref a_t_signs, .ref a_t_numbers, .int t_tokens, .int t_spoons, .int t_mostSpoons, .ref a_t_row, .ref a_t_isBrothOn, .ref a_t_dramsOn, .ref a_t_brothOn, .int t_cause, .int t_causeDetail, .ref a_t_lowOn, .ref a_t_highOn, .ref a_t_lowStored, .ref a_t_highStored, .ref a_t_isBrothStored, .int t_storeMany, .ref a_t_step, .ref a_t_stepF, .ref a_t_line, .int t_lineMany])), (a_t_s, .inl (cT 0, 282, .inl t_s)), (a_t_refused, .inl (cT 0, 4, .inl t_refused))] s.heap.size = A at hD ⊢
  have hP := hP0
  have hA : ∀ q : Nat, s.heap.size ≤ q → A q := fun q h => by rw [← hAe]; exact Or.inr h
  have hS : va_S A s.heap s.heap [] := va_S.rf
  have hl := lv_entry [.ref a_t, .int p1, .int p2] (n := 4) (Nat.le_of_ble_eq_true rfl)
  rw [lg_entry_eq]
  generalize (lg_sl [.ref a_t, .int p1, .int p2] ++ List.replicate (4 - (lg_sl [.ref a_t, .int p1, .int p2]).length) Slot.unset).toArray = ls at hl ⊢
  have hl : lv_has ls 4 [(0, .ref a_t), (1, .int p1), (2, .int p2)] := hl
  unfold g_X12_doPour at h
  refine lv_aload_n hx hb dX12_doPour_0 rfl (lv_at hl 0 rfl) ?_
  refine lv_iload_n hx hb dX12_doPour_1 rfl (lv_at hl 1 rfl) ?_
  obtain ⟨r1, hq, h⟩ := gb_some h
  refine crI (va_runV (As := [.int p1]) (rest := []) ⟨hx, hb, hml, hown, hta⟩ (c_X12_isCauldron l dC dI cT hq (hP.sub (ws' := [(a_t, .inr (15, [.ref a_t_s, .ref a_t_f, .ref a_t_before, .ref a_t_beforeF, .ref a_t_aside, .ref a_t_asideF, .ref a_t_saved, .ref a_t_savedF, .int t_isSaved, .ref a_t_past, .ref a_t_pastF, .int t_pastMany, .int t_boiled, .int t_thrown, .ref a_t_refused, .ref a_t_text, .int t_length, .int t_error, .ref a_t_signs, .ref a_t_numbers, .int t_tokens, .int t_spoons, .int t_mostSpoons, .ref a_t_row, .ref a_t_isBrothOn, .ref a_t_dramsOn, .ref a_t_brothOn, .int t_cause, .int t_causeDetail, .ref a_t_lowOn, .ref a_t_highOn, .ref a_t_lowStored, .ref a_t_highStored, .ref a_t_isBrothStored, .int t_storeMany, .ref a_t_step, .ref a_t_stepF, .ref a_t_line, .int t_lineMany])), (a_t_s, .inl (cT 0, 282, .inl t_s))]) [0, 1] rfl)) (cV hta lm_X12_156 md_X12_isCauldron ⟨(Nat.le_of_ble_eq_true rfl), (Nat.le_of_ble_eq_true rfl)⟩) ⟨fbK, va_recv hK hP (ci := 15) (q0 := 0) rfl rfl, fun U hU hW => ⟨rfl, hU, va_K.moved hW.alike hK⟩⟩ rfl rfl hl.1 rfl (lv_room (Nat.le_of_ble_eq_true rfl)) dX12_doPour_2 ⟨(Nat.le_of_ble_eq_true rfl), (Nat.le_of_ble_eq_true rfl)⟩) hS hA (fun locs hS => ?_)
  refine lv_if_ne (tgt := 14) hx hb dX12_doPour_5 (by decide) (fun c0 => ?_) (fun c0 => ?_)
  · have h := (if_neg c0).symm.trans h
    refine lv_aload_n hx hb dX12_doPour_14 rfl (lv_at hl 0 rfl) ?_
    refine lv_iload_n hx hb dX12_doPour_15 rfl (lv_at hl 1 rfl) ?_
    obtain ⟨r2, hq, h⟩ := gb_some h
    refine crI (va_runV (As := [.int p1]) (rest := []) ⟨hx, hb, hml, hown, hta⟩ (c_X12_isBroth l dC dI cT hq (hP.sub (ws' := [(a_t, .inr (15, [.ref a_t_s, .ref a_t_f, .ref a_t_before, .ref a_t_beforeF, .ref a_t_aside, .ref a_t_asideF, .ref a_t_saved, .ref a_t_savedF, .int t_isSaved, .ref a_t_past, .ref a_t_pastF, .int t_pastMany, .int t_boiled, .int t_thrown, .ref a_t_refused, .ref a_t_text, .int t_length, .int t_error, .ref a_t_signs, .ref a_t_numbers, .int t_tokens, .int t_spoons, .int t_mostSpoons, .ref a_t_row, .ref a_t_isBrothOn, .ref a_t_dramsOn, .ref a_t_brothOn, .int t_cause, .int t_causeDetail, .ref a_t_lowOn, .ref a_t_highOn, .ref a_t_lowStored, .ref a_t_highStored, .ref a_t_isBrothStored, .int t_storeMany, .ref a_t_step, .ref a_t_stepF, .ref a_t_line, .int t_lineMany])), (a_t_s, .inl (cT 0, 282, .inl t_s))]) [0, 1] rfl)) (cV hta lm_X12_160 md_X12_isBroth ⟨(Nat.le_of_ble_eq_true rfl), (Nat.le_of_ble_eq_true rfl)⟩) ⟨fbK, va_recv hK hP (ci := 15) (q0 := 0) rfl rfl, fun U hU hW => ⟨rfl, hU, va_K.moved hW.alike hK⟩⟩ rfl rfl hl.1 rfl (lv_room (Nat.le_of_ble_eq_true rfl)) dX12_doPour_16 ⟨(Nat.le_of_ble_eq_true rfl), (Nat.le_of_ble_eq_true rfl)⟩) hS hA (fun locs hS => ?_)
    refine lv_if_eq (tgt := 30) hx hb dX12_doPour_19 (by decide) (fun c0 => ?_) (fun c0 => ?_)
    · have h := (if_pos c0).symm.trans h
      refine lv_aload_n hx hb dX12_doPour_30 rfl (lv_at hl 0 rfl) ?_
      refine lv_iload_n hx hb dX12_doPour_31 rfl (lv_at hl 1 rfl) ?_
      refine lv_iload_n hx hb dX12_doPour_32 rfl (lv_at hl 2 rfl) ?_
      refine lv_i2l hx hb dX12_doPour_33 rfl ?_
      obtain ⟨r3, hq, h⟩ := gb_some h
      refine crI (va_runV (As := [.int p1, .long p2.toInt64]) (rest := []) ⟨hx, hb, hml, hown, hta⟩ (c_X12_holds l dC dI cT hq (hP.sub (ws' := [(a_t, .inr (15, [.ref a_t_s, .ref a_t_f, .ref a_t_before, .ref a_t_beforeF, .ref a_t_aside, .ref a_t_asideF, .ref a_t_saved, .ref a_t_savedF, .int t_isSaved, .ref a_t_past, .ref a_t_pastF, .int t_pastMany, .int t_boiled, .int t_thrown, .ref a_t_refused, .ref a_t_text, .int t_length, .int t_error, .ref a_t_signs, .ref a_t_numbers, .int t_tokens, .int t_spoons, .int t_mostSpoons, .ref a_t_row, .ref a_t_isBrothOn, .ref a_t_dramsOn, .ref a_t_brothOn, .int t_cause, .int t_causeDetail, .ref a_t_lowOn, .ref a_t_highOn, .ref a_t_lowStored, .ref a_t_highStored, .ref a_t_isBrothStored, .int t_storeMany, .ref a_t_step, .ref a_t_stepF, .ref a_t_line, .int t_lineMany])), (a_t_s, .inl (cT 0, 282, .inl t_s))]) [0, 1] rfl)) (cV hta lm_X12_163 md_X12_holds ⟨(Nat.le_of_ble_eq_true rfl), (Nat.le_of_ble_eq_true rfl)⟩) ⟨fbK, va_recv hK hP (ci := 15) (q0 := 0) rfl rfl, fun U hU hW => ⟨rfl, hU, va_K.moved hW.alike hK⟩⟩ rfl rfl hl.1 rfl (lv_room (Nat.le_of_ble_eq_true rfl)) dX12_doPour_34 ⟨(Nat.le_of_ble_eq_true rfl), (Nat.le_of_ble_eq_true rfl)⟩) hS hA (fun locs hS => ?_)
      refine lv_if_ne (tgt := 48) hx hb dX12_doPour_37 (by decide) (fun c0 => ?_) (fun c0 => ?_)
      · have h := (if_neg c0).symm.trans h
        refine lv_aload_n hx hb dX12_doPour_48 rfl (lv_at hl 0 rfl) ?_
        refine lv_iload_n hx hb dX12_doPour_49 rfl (lv_at hl 1 rfl) ?_
        refine lv_iconst (v := 3) hx hb dX12_doPour_50 (by decide) ?_
        obtain ⟨r4, hq, h⟩ := gb_some h
        refine crI (va_runV (As := [.int p1, .int 3]) (rest := []) ⟨hx, hb, hml, hown, hta⟩ (c_X12_of l dC dI cT hq (hP.sub (ws' := [(a_t, .inr (15, [.ref a_t_s, .ref a_t_f, .ref a_t_before, .ref a_t_beforeF, .ref a_t_aside, .ref a_t_asideF, .ref a_t_saved, .ref a_t_savedF, .int t_isSaved, .ref a_t_past, .ref a_t_pastF, .int t_pastMany, .int t_boiled, .int t_thrown, .ref a_t_refused, .ref a_t_text, .int t_length, .int t_error, .ref a_t_signs, .ref a_t_numbers, .int t_tokens, .int t_spoons, .int t_mostSpoons, .ref a_t_row, .ref a_t_isBrothOn, .ref a_t_dramsOn, .ref a_t_brothOn, .int t_cause, .int t_causeDetail, .ref a_t_lowOn, .ref a_t_highOn, .ref a_t_lowStored, .ref a_t_highStored, .ref a_t_isBrothStored, .int t_storeMany, .ref a_t_step, .ref a_t_stepF, .ref a_t_line, .int t_lineMany])), (a_t_s, .inl (cT 0, 282, .inl t_s))]) [0, 1] rfl)) (cV hta lm_X12_116 md_X12_of ⟨(Nat.le_of_ble_eq_true rfl), (Nat.le_of_ble_eq_true rfl)⟩) ⟨fbK, va_recv hK hP (ci := 15) (q0 := 0) rfl rfl, fun U hU hW => ⟨rfl, hU, va_K.moved hW.alike hK⟩⟩ rfl rfl hl.1 rfl (lv_room (Nat.le_of_ble_eq_true rfl)) dX12_doPour_51 ⟨(Nat.le_of_ble_eq_true rfl), (Nat.le_of_ble_eq_true rfl)⟩) hS hA (fun locs hS => ?_)
        refine lv_istore_n (lv' := [(3, .int r4), (0, .ref a_t), (1, .int p1), (2, .int p2)]) hx hb dX12_doPour_54 rfl hl (by decide) rfl (fun ls hl => ?_)
        refine lv_aload_n hx hb dX12_doPour_55 rfl (lv_at hl 1 rfl) ?_
        refine lv_iload_n hx hb dX12_doPour_56 rfl (lv_at hl 2 rfl) ?_
        refine lv_iconst (v := 3) hx hb dX12_doPour_57 (by decide) ?_
        refine lv_iload_n hx hb dX12_doPour_58 rfl (lv_at hl 3 rfl) ?_
        obtain ⟨r5, hq, h⟩ := gb_some h
        refine cxV (X2 := [(a_t, .inr (15, [.ref a_t_s, .ref a_t_f, .ref a_t_before, .ref a_t_beforeF, .ref a_t_aside, .ref a_t_asideF, .ref a_t_saved, .ref a_t_savedF, .int t_isSaved, .ref a_t_past, .ref a_t_pastF, .int t_pastMany, .int t_boiled, .int t_thrown, .ref a_t_refused, .ref a_t_text, .int t_length, .int t_error, .ref a_t_signs, .ref a_t_numbers, .int t_tokens, .int t_spoons, .int t_mostSpoons, .ref a_t_row, .ref a_t_isBrothOn, .ref a_t_dramsOn, .ref a_t_brothOn, .int t_cause, .int t_causeDetail, .ref a_t_lowOn, .ref a_t_highOn, .ref a_t_lowStored, .ref a_t_highStored, .ref a_t_isBrothStored, .int t_storeMany, .ref a_t_step, .ref a_t_stepF, .ref a_t_line, .int t_lineMany])), (a_t_s, .inl (cT 0, 282, .inl r5)), (a_t_refused, .inl (cT 0, 4, .inl t_refused))]) (va_runV (As := [.int p1, .int 3, .int p2]) (rest := []) ⟨hx, hb, hml, hown, hta⟩ (c_X12_sets l dC dI cT hq (hP.sub (ws' := [(a_t_s, .inl (cT 0, 282, .inl t_s))]) [1] rfl) (hP.sub (ws' := [(a_t, .inr (15, [.ref a_t_s, .ref a_t_f, .ref a_t_before, .ref a_t_beforeF, .ref a_t_aside, .ref a_t_asideF, .ref a_t_saved, .ref a_t_savedF, .int t_isSaved, .ref a_t_past, .ref a_t_pastF, .int t_pastMany, .int t_boiled, .int t_thrown, .ref a_t_refused, .ref a_t_text, .int t_length, .int t_error, .ref a_t_signs, .ref a_t_numbers, .int t_tokens, .int t_spoons, .int t_mostSpoons, .ref a_t_row, .ref a_t_isBrothOn, .ref a_t_dramsOn, .ref a_t_brothOn, .int t_cause, .int t_causeDetail, .ref a_t_lowOn, .ref a_t_highOn, .ref a_t_lowStored, .ref a_t_highStored, .ref a_t_isBrothStored, .int t_storeMany, .ref a_t_step, .ref a_t_stepF, .ref a_t_line, .int t_lineMany]))]) [0] rfl) ((hD.sub [1] (by decide) rfl).weaken (fun _ _ _ _ => trivial)) (nac hP hD [1] rfl (va_free hD hS hA [1] rfl) na_nil [.inr 0] rfl rfl)) (cV hta lm_X12_126 md_X12_sets ⟨(Nat.le_of_ble_eq_true rfl), (Nat.le_of_ble_eq_true rfl)⟩) ⟨fbK, va_recv hK hP (ci := 15) (q0 := 0) rfl rfl, fun U hU hW => ⟨rfl, hU, va_K.moved hW.alike hK⟩⟩ rfl rfl hl.1 rfl (lv_room (Nat.le_of_ble_eq_true rfl)) dX12_doPour_59 ⟨(Nat.le_of_ble_eq_true rfl), (Nat.le_of_ble_eq_true rfl)⟩) hS hA hP hD [1] rfl [.inr 0, .inl 0, .inr 2] rfl rfl rfl (fun H locs hP hD hS => ?_)
        refine lv_iload_n hx hb dX12_doPour_62 rfl (lv_at hl 0 rfl) ?_
        have ho := Option.some.inj h
        exact W.iret (v := r4) hx hb hr (fun t ht hW => ⟨⟨r4, (), rfl, by rw [← ho], by show va_P (dC, dI) vwCl _ t.heap; rw [ht, ← ho]; exact hP⟩, hS.F ht⟩) hS.2.2 dX12_doPour_63
      · have h := (if_pos c0).symm.trans h
        refine lv_aload_n hx hb dX12_doPour_40 rfl (lv_at hl 0 rfl) ?_
        refine lv_iconst (v := 2) hx hb dX12_doPour_41 (by decide) ?_
        refine lv_iconst (v := 3) hx hb dX12_doPour_42 (by decide) ?_
        refine lv_iload_n hx hb dX12_doPour_43 rfl (lv_at hl 2 rfl) ?_
        obtain ⟨r6, hq, h⟩ := gb_some h
        refine cxI (X2 := [(a_t, .inr (15, [.ref a_t_s, .ref a_t_f, .ref a_t_before, .ref a_t_beforeF, .ref a_t_aside, .ref a_t_asideF, .ref a_t_saved, .ref a_t_savedF, .int t_isSaved, .ref a_t_past, .ref a_t_pastF, .int t_pastMany, .int t_boiled, .int r6.2.1, .ref a_t_refused, .ref a_t_text, .int t_length, .int t_error, .ref a_t_signs, .ref a_t_numbers, .int t_tokens, .int t_spoons, .int t_mostSpoons, .ref a_t_row, .ref a_t_isBrothOn, .ref a_t_dramsOn, .ref a_t_brothOn, .int t_cause, .int t_causeDetail, .ref a_t_lowOn, .ref a_t_highOn, .ref a_t_lowStored, .ref a_t_highStored, .ref a_t_isBrothStored, .int t_storeMany, .ref a_t_step, .ref a_t_stepF, .ref a_t_line, .int t_lineMany])), (a_t_s, .inl (cT 0, 282, .inl t_s)), (a_t_refused, .inl (cT 0, 4, .inl r6.2.2))]) (va_runV (As := [.int 2, .int 3, .int p2]) (rest := []) ⟨hx, hb, hml, hown, hta⟩ (c_X12_refuse l dC dI cT hq (hP.sub (ws' := [(a_t, .inr (15, [.ref a_t_s, .ref a_t_f, .ref a_t_before, .ref a_t_beforeF, .ref a_t_aside, .ref a_t_asideF, .ref a_t_saved, .ref a_t_savedF, .int t_isSaved, .ref a_t_past, .ref a_t_pastF, .int t_pastMany, .int t_boiled, .int t_thrown, .ref a_t_refused, .ref a_t_text, .int t_length, .int t_error, .ref a_t_signs, .ref a_t_numbers, .int t_tokens, .int t_spoons, .int t_mostSpoons, .ref a_t_row, .ref a_t_isBrothOn, .ref a_t_dramsOn, .ref a_t_brothOn, .int t_cause, .int t_causeDetail, .ref a_t_lowOn, .ref a_t_highOn, .ref a_t_lowStored, .ref a_t_highStored, .ref a_t_isBrothStored, .int t_storeMany, .ref a_t_step, .ref a_t_stepF, .ref a_t_line, .int t_lineMany])), (a_t_refused, .inl (cT 0, 4, .inl t_refused))]) [0, 2] rfl) ((hD.sub [0, 2] (by decide) rfl).weaken (fun _ _ _ _ => trivial))) (cV hta lm_X12_122 md_X12_refuse ⟨(Nat.le_of_ble_eq_true rfl), (Nat.le_of_ble_eq_true rfl)⟩) ⟨fbK, va_recv hK hP (ci := 15) (q0 := 0) rfl rfl, fun U hU hW => ⟨rfl, hU, va_K.moved hW.alike hK⟩⟩ rfl rfl hl.1 rfl (lv_room (Nat.le_of_ble_eq_true rfl)) dX12_doPour_44 ⟨(Nat.le_of_ble_eq_true rfl), (Nat.le_of_ble_eq_true rfl)⟩) hS hA hP hD [0, 2] rfl [.inl 0, .inr 1, .inl 1] rfl rfl rfl (fun H locs hP hD hS => ?_)
        have ho := Option.some.inj h
        exact W.iret (v := r6.1) hx hb hr (fun t ht hW => ⟨⟨r6.1, (), rfl, by rw [← ho], by show va_P (dC, dI) vwCl _ t.heap; rw [ht, ← ho]; exact hP⟩, hS.F ht⟩) hS.2.2 dX12_doPour_47
    · have h := (if_neg c0).symm.trans h
      refine lv_aload_n hx hb dX12_doPour_22 rfl (lv_at hl 0 rfl) ?_
      refine lv_iconst (v := 2) hx hb dX12_doPour_23 (by decide) ?_
      refine lv_iconst (v := 2) hx hb dX12_doPour_24 (by decide) ?_
      refine lv_iload_n hx hb dX12_doPour_25 rfl (lv_at hl 1 rfl) ?_
      obtain ⟨r7, hq, h⟩ := gb_some h
      refine cxI (X2 := [(a_t, .inr (15, [.ref a_t_s, .ref a_t_f, .ref a_t_before, .ref a_t_beforeF, .ref a_t_aside, .ref a_t_asideF, .ref a_t_saved, .ref a_t_savedF, .int t_isSaved, .ref a_t_past, .ref a_t_pastF, .int t_pastMany, .int t_boiled, .int r7.2.1, .ref a_t_refused, .ref a_t_text, .int t_length, .int t_error, .ref a_t_signs, .ref a_t_numbers, .int t_tokens, .int t_spoons, .int t_mostSpoons, .ref a_t_row, .ref a_t_isBrothOn, .ref a_t_dramsOn, .ref a_t_brothOn, .int t_cause, .int t_causeDetail, .ref a_t_lowOn, .ref a_t_highOn, .ref a_t_lowStored, .ref a_t_highStored, .ref a_t_isBrothStored, .int t_storeMany, .ref a_t_step, .ref a_t_stepF, .ref a_t_line, .int t_lineMany])), (a_t_s, .inl (cT 0, 282, .inl t_s)), (a_t_refused, .inl (cT 0, 4, .inl r7.2.2))]) (va_runV (As := [.int 2, .int 2, .int p1]) (rest := []) ⟨hx, hb, hml, hown, hta⟩ (c_X12_refuse l dC dI cT hq (hP.sub (ws' := [(a_t, .inr (15, [.ref a_t_s, .ref a_t_f, .ref a_t_before, .ref a_t_beforeF, .ref a_t_aside, .ref a_t_asideF, .ref a_t_saved, .ref a_t_savedF, .int t_isSaved, .ref a_t_past, .ref a_t_pastF, .int t_pastMany, .int t_boiled, .int t_thrown, .ref a_t_refused, .ref a_t_text, .int t_length, .int t_error, .ref a_t_signs, .ref a_t_numbers, .int t_tokens, .int t_spoons, .int t_mostSpoons, .ref a_t_row, .ref a_t_isBrothOn, .ref a_t_dramsOn, .ref a_t_brothOn, .int t_cause, .int t_causeDetail, .ref a_t_lowOn, .ref a_t_highOn, .ref a_t_lowStored, .ref a_t_highStored, .ref a_t_isBrothStored, .int t_storeMany, .ref a_t_step, .ref a_t_stepF, .ref a_t_line, .int t_lineMany])), (a_t_refused, .inl (cT 0, 4, .inl t_refused))]) [0, 2] rfl) ((hD.sub [0, 2] (by decide) rfl).weaken (fun _ _ _ _ => trivial))) (cV hta lm_X12_122 md_X12_refuse ⟨(Nat.le_of_ble_eq_true rfl), (Nat.le_of_ble_eq_true rfl)⟩) ⟨fbK, va_recv hK hP (ci := 15) (q0 := 0) rfl rfl, fun U hU hW => ⟨rfl, hU, va_K.moved hW.alike hK⟩⟩ rfl rfl hl.1 rfl (lv_room (Nat.le_of_ble_eq_true rfl)) dX12_doPour_26 ⟨(Nat.le_of_ble_eq_true rfl), (Nat.le_of_ble_eq_true rfl)⟩) hS hA hP hD [0, 2] rfl [.inl 0, .inr 1, .inl 1] rfl rfl rfl (fun H locs hP hD hS => ?_)
      have ho := Option.some.inj h
      exact W.iret (v := r7.1) hx hb hr (fun t ht hW => ⟨⟨r7.1, (), rfl, by rw [← ho], by show va_P (dC, dI) vwCl _ t.heap; rw [ht, ← ho]; exact hP⟩, hS.F ht⟩) hS.2.2 dX12_doPour_29
  · have h := (if_pos c0).symm.trans h
    refine lv_aload_n hx hb dX12_doPour_8 rfl (lv_at hl 0 rfl) ?_
    refine lv_iconst (v := 1) hx hb dX12_doPour_9 (by decide) ?_
    obtain ⟨r8, hq, h⟩ := gb_some h
    refine cxI (X2 := [(a_t, .inr (15, [.ref a_t_s, .ref a_t_f, .ref a_t_before, .ref a_t_beforeF, .ref a_t_aside, .ref a_t_asideF, .ref a_t_saved, .ref a_t_savedF, .int t_isSaved, .ref a_t_past, .ref a_t_pastF, .int t_pastMany, .int t_boiled, .int r8.2, .ref a_t_refused, .ref a_t_text, .int t_length, .int t_error, .ref a_t_signs, .ref a_t_numbers, .int t_tokens, .int t_spoons, .int t_mostSpoons, .ref a_t_row, .ref a_t_isBrothOn, .ref a_t_dramsOn, .ref a_t_brothOn, .int t_cause, .int t_causeDetail, .ref a_t_lowOn, .ref a_t_highOn, .ref a_t_lowStored, .ref a_t_highStored, .ref a_t_isBrothStored, .int t_storeMany, .ref a_t_step, .ref a_t_stepF, .ref a_t_line, .int t_lineMany])), (a_t_s, .inl (cT 0, 282, .inl t_s)), (a_t_refused, .inl (cT 0, 4, .inl t_refused))]) (va_runV (As := [.int 1]) (rest := []) ⟨hx, hb, hml, hown, hta⟩ (c_X12_fails l dC dI cT hq (hP.sub (ws' := [(a_t, .inr (15, [.ref a_t_s, .ref a_t_f, .ref a_t_before, .ref a_t_beforeF, .ref a_t_aside, .ref a_t_asideF, .ref a_t_saved, .ref a_t_savedF, .int t_isSaved, .ref a_t_past, .ref a_t_pastF, .int t_pastMany, .int t_boiled, .int t_thrown, .ref a_t_refused, .ref a_t_text, .int t_length, .int t_error, .ref a_t_signs, .ref a_t_numbers, .int t_tokens, .int t_spoons, .int t_mostSpoons, .ref a_t_row, .ref a_t_isBrothOn, .ref a_t_dramsOn, .ref a_t_brothOn, .int t_cause, .int t_causeDetail, .ref a_t_lowOn, .ref a_t_highOn, .ref a_t_lowStored, .ref a_t_highStored, .ref a_t_isBrothStored, .int t_storeMany, .ref a_t_step, .ref a_t_stepF, .ref a_t_line, .int t_lineMany]))]) [0] rfl) ((hD.sub [0] (by decide) rfl).weaken (fun _ _ _ _ => trivial))) (cV hta lm_X12_149 md_X12_fails ⟨(Nat.le_of_ble_eq_true rfl), (Nat.le_of_ble_eq_true rfl)⟩) ⟨fbK, va_recv hK hP (ci := 15) (q0 := 0) rfl rfl, fun U hU hW => ⟨rfl, hU, va_K.moved hW.alike hK⟩⟩ rfl rfl hl.1 rfl (lv_room (Nat.le_of_ble_eq_true rfl)) dX12_doPour_10 ⟨(Nat.le_of_ble_eq_true rfl), (Nat.le_of_ble_eq_true rfl)⟩) hS hA hP hD [0] rfl [.inl 0, .inr 1, .inr 2] rfl rfl rfl (fun H locs hP hD hS => ?_)
    have ho := Option.some.inj h
    exact W.iret (v := r8.1) hx hb hr (fun t ht hW => ⟨⟨r8.1, (), rfl, by rw [← ho], by show va_P (dC, dI) vwCl _ t.heap; rw [ht, ← ho]; exact hP⟩, hS.F ht⟩) hS.2.2 dX12_doPour_13
def g_X12_pour (t_pastMany : Int32) (t_thrown : Int32) (t_s : Nat → Int32) (t_before : Nat → Int32) (t_f : Nat → UInt32) (t_beforeF : Nat → UInt32) (t_refused : Nat → Int32) (t_past : Nat → Int32) (t_pastF : Nat → UInt32) (p1 : Int32) (p2 : Int32) : Option (Int32 × Int32 × Int32 × (Nat → Int32) × (Nat → Int32) × (Nat → UInt32) × (Nat → UInt32) × (Nat → Int32) × (Nat → Int32) × (Nat → UInt32)) :=
  gb (g_X12_keep t_thrown t_s t_before t_f t_beforeF) fun r1 =>
  gb (g_X12_doPour r1.1 t_s t_refused p1 p2) fun r2 =>
  gb (g_X12_ends t_pastMany r2.2.1 t_past t_pastF r1.2.1 r2.2.2.1 r1.2.2 t_f r2.1) fun r3 =>
  some (r3.1, r3.2.1, r2.2.1, r3.2.2.2.2.1, r1.2.1, r3.2.2.2.2.2, r1.2.2, r2.2.2.2, r3.2.2.1, r3.2.2.2.1)
set_option maxHeartbeats 4000000 in
set_option maxRecDepth 100000 in
theorem c_X12_pour (l : Launch) (dC : Nat → ClassId) (dI : Nat → Nat → Nat) (cT : Nat → ClassId) {Hh : Heap} {a_t : Nat} {a_t_s : Nat} {a_t_before : Nat} {a_t_f : Nat} {a_t_beforeF : Nat} {a_t_refused : Nat} {a_t_past : Nat} {a_t_pastF : Nat} {a_t_aside : Nat} {a_t_asideF : Nat} {a_t_saved : Nat} {a_t_savedF : Nat} {a_t_text : Nat} {a_t_signs : Nat} {a_t_numbers : Nat} {a_t_row : Nat} {a_t_isBrothOn : Nat} {a_t_dramsOn : Nat} {a_t_brothOn : Nat} {a_t_lowOn : Nat} {a_t_highOn : Nat} {a_t_lowStored : Nat} {a_t_highStored : Nat} {a_t_isBrothStored : Nat} {a_t_step : Nat} {a_t_stepF : Nat} {a_t_line : Nat} {t_pastMany : Int32} {t_thrown : Int32} {t_s : Nat → Int32} {t_before : Nat → Int32} {t_f : Nat → UInt32} {t_beforeF : Nat → UInt32} {t_refused : Nat → Int32} {t_past : Nat → Int32} {t_pastF : Nat → UInt32} {p1 : Int32} {p2 : Int32} {t_isSaved : Int32} {t_boiled : Int32} {t_length : Int32} {t_error : Int32} {t_tokens : Int32} {t_spoons : Int32} {t_mostSpoons : Int32} {t_cause : Int32} {t_causeDetail : Int32} {t_storeMany : Int32} {t_lineMany : Int32} {o : Int32 × Int32 × Int32 × (Nat → Int32) × (Nat → Int32) × (Nat → UInt32) × (Nat → UInt32) × (Nat → Int32) × (Nat → Int32) × (Nat → UInt32)} (h : g_X12_pour t_pastMany t_thrown t_s t_before t_f t_beforeF t_refused t_past t_pastF p1 p2 = some o) (hP0 : va_P (dC, dI) vwCl [(a_t, .inr (15, [.ref a_t_s, .ref a_t_f, .ref a_t_before, .ref a_t_beforeF, .ref a_t_aside, .ref a_t_asideF, .ref a_t_saved, .ref a_t_savedF, .int t_isSaved, .ref a_t_past, .ref a_t_pastF, .int t_pastMany, .int t_boiled, .int t_thrown, .ref a_t_refused, .ref a_t_text, .int t_length, .int t_error, .ref a_t_signs, .ref a_t_numbers, .int t_tokens, .int t_spoons, .int t_mostSpoons, .ref a_t_row, .ref a_t_isBrothOn, .ref a_t_dramsOn, .ref a_t_brothOn, .int t_cause, .int t_causeDetail, .ref a_t_lowOn, .ref a_t_highOn, .ref a_t_lowStored, .ref a_t_highStored, .ref a_t_isBrothStored, .int t_storeMany, .ref a_t_step, .ref a_t_stepF, .ref a_t_line, .int t_lineMany])), (a_t_s, .inl (cT 0, 282, .inl t_s)), (a_t_before, .inl (cT 0, 282, .inl t_before)), (a_t_f, .inl (cT 4, 6, .inr (.inr (.inl t_f)))), (a_t_beforeF, .inl (cT 4, 6, .inr (.inr (.inl t_beforeF)))), (a_t_refused, .inl (cT 0, 4, .inl t_refused)), (a_t_past, .inl (cT 0, 1692, .inl t_past)), (a_t_pastF, .inl (cT 4, 36, .inr (.inr (.inl t_pastF))))] Hh) (hD0 : va_D (fun _ => True) [(a_t, .inr (15, [.ref a_t_s, .ref a_t_f, .ref a_t_before, .ref a_t_beforeF, .ref a_t_aside, .ref a_t_asideF, .ref a_t_saved, .ref a_t_savedF, .int t_isSaved, .ref a_t_past, .ref a_t_pastF, .int t_pastMany, .int t_boiled, .int t_thrown, .ref a_t_refused, .ref a_t_text, .int t_length, .int t_error, .ref a_t_signs, .ref a_t_numbers, .int t_tokens, .int t_spoons, .int t_mostSpoons, .ref a_t_row, .ref a_t_isBrothOn, .ref a_t_dramsOn, .ref a_t_brothOn, .int t_cause, .int t_causeDetail, .ref a_t_lowOn, .ref a_t_highOn, .ref a_t_lowStored, .ref a_t_highStored, .ref a_t_isBrothStored, .int t_storeMany, .ref a_t_step, .ref a_t_stepF, .ref a_t_line, .int t_lineMany])), (a_t_s, .inl (cT 0, 282, .inl t_s)), (a_t_before, .inl (cT 0, 282, .inl t_before)), (a_t_f, .inl (cT 4, 6, .inr (.inr (.inl t_f)))), (a_t_beforeF, .inl (cT 4, 6, .inr (.inr (.inl t_beforeF)))), (a_t_refused, .inl (cT 0, 4, .inl t_refused)), (a_t_past, .inl (cT 0, 1692, .inl t_past)), (a_t_pastF, .inl (cT 4, 36, .inr (.inr (.inl t_pastF))))]) : Met l yX12_pour (wA yX12_pour cX12_pour 3 (some .int)) ({ frames := 3, cells := 0, slots := 0, locals := 71 } : Room) (PK dC dI cT [.ref a_t, .int p1, .int p2] Hh) (va_Qi (fun x (_ : Unit) => x = o.1) (fun _ t => va_P (dC, dI) vwCl [(a_t, .inr (15, [.ref a_t_s, .ref a_t_f, .ref a_t_before, .ref a_t_beforeF, .ref a_t_aside, .ref a_t_asideF, .ref a_t_saved, .ref a_t_savedF, .int t_isSaved, .ref a_t_past, .ref a_t_pastF, .int o.2.1, .int t_boiled, .int o.2.2.1, .ref a_t_refused, .ref a_t_text, .int t_length, .int t_error, .ref a_t_signs, .ref a_t_numbers, .int t_tokens, .int t_spoons, .int t_mostSpoons, .ref a_t_row, .ref a_t_isBrothOn, .ref a_t_dramsOn, .ref a_t_brothOn, .int t_cause, .int t_causeDetail, .ref a_t_lowOn, .ref a_t_highOn, .ref a_t_lowStored, .ref a_t_highStored, .ref a_t_isBrothStored, .int t_storeMany, .ref a_t_step, .ref a_t_stepF, .ref a_t_line, .int t_lineMany])), (a_t_s, .inl (cT 0, 282, .inl o.2.2.2.1)), (a_t_before, .inl (cT 0, 282, .inl o.2.2.2.2.1)), (a_t_f, .inl (cT 4, 6, .inr (.inr (.inl o.2.2.2.2.2.1)))), (a_t_beforeF, .inl (cT 4, 6, .inr (.inr (.inl o.2.2.2.2.2.2.1)))), (a_t_refused, .inl (cT 0, 4, .inl o.2.2.2.2.2.2.2.1)), (a_t_past, .inl (cT 0, 1692, .inl o.2.2.2.2.2.2.2.2.1)), (a_t_pastF, .inl (cT 4, 36, .inr (.inr (.inl o.2.2.2.2.2.2.2.2.2))))] t.heap) (va_A [(a_t, .inr (15, [.ref a_t_s, .ref a_t_f, .ref a_t_before, .ref a_t_beforeF, .ref a_t_aside, .ref a_t_asideF, .ref a_t_saved, .ref a_t_savedF, .int t_isSaved, .ref a_t_past, .ref a_t_pastF, .int t_pastMany, .int t_boiled, .int t_thrown, .ref a_t_refused, .ref a_t_text, .int t_length, .int t_error, .ref a_t_signs, .ref a_t_numbers, .int t_tokens, .int t_spoons, .int t_mostSpoons, .ref a_t_row, .ref a_t_isBrothOn, .ref a_t_dramsOn, .ref a_t_brothOn, .int t_cause, .int t_causeDetail, .ref a_t_lowOn, .ref a_t_highOn, .ref a_t_lowStored, .ref a_t_highStored, .ref a_t_isBrothStored, .int t_storeMany, .ref a_t_step, .ref a_t_stepF, .ref a_t_line, .int t_lineMany])), (a_t_s, .inl (cT 0, 282, .inl t_s)), (a_t_before, .inl (cT 0, 282, .inl t_before)), (a_t_f, .inl (cT 4, 6, .inr (.inr (.inl t_f)))), (a_t_beforeF, .inl (cT 4, 6, .inr (.inr (.inl t_beforeF)))), (a_t_refused, .inl (cT 0, 4, .inl t_refused)), (a_t_past, .inl (cT 0, 1692, .inl t_past)), (a_t_pastF, .inl (cT 4, 36, .inr (.inr (.inl t_pastF))))] Hh.size)) 0 0 (va_A [(a_t, .inr (15, [.ref a_t_s, .ref a_t_f, .ref a_t_before, .ref a_t_beforeF, .ref a_t_aside, .ref a_t_asideF, .ref a_t_saved, .ref a_t_savedF, .int t_isSaved, .ref a_t_past, .ref a_t_pastF, .int t_pastMany, .int t_boiled, .int t_thrown, .ref a_t_refused, .ref a_t_text, .int t_length, .int t_error, .ref a_t_signs, .ref a_t_numbers, .int t_tokens, .int t_spoons, .int t_mostSpoons, .ref a_t_row, .ref a_t_isBrothOn, .ref a_t_dramsOn, .ref a_t_brothOn, .int t_cause, .int t_causeDetail, .ref a_t_lowOn, .ref a_t_highOn, .ref a_t_lowStored, .ref a_t_highStored, .ref a_t_isBrothStored, .int t_storeMany, .ref a_t_step, .ref a_t_stepF, .ref a_t_line, .int t_lineMany])), (a_t_s, .inl (cT 0, 282, .inl t_s)), (a_t_before, .inl (cT 0, 282, .inl t_before)), (a_t_f, .inl (cT 4, 6, .inr (.inr (.inl t_f)))), (a_t_beforeF, .inl (cT 4, 6, .inr (.inr (.inl t_beforeF)))), (a_t_refused, .inl (cT 0, 4, .inl t_refused)), (a_t_past, .inl (cT 0, 1692, .inl t_past)), (a_t_pastF, .inl (cT 4, 36, .inr (.inr (.inl t_pastF))))] Hh.size) := by
  refine Met.ofW (cc := cX12_pour) (maxL := 3) (ret := (some .int)) (by decide) rfl ?_
  intro p e s m args below meth c s₁ B hml hv
  obtain ⟨rfl, hH, hK⟩ := hv
  subst hH
  have hx := B.exec
  have hb := B.bytes
  have hr := B.returns
  have hta : ∀ w ∈ ALLW, w.before [.ref a_t, .int p1, .int p2].toArray s = true := fun w hw => atoms_spec (ws := wA yX12_pour cX12_pour 3 (some .int)) B.pre w (List.mem_cons_of_mem _ hw)
  have hown : s.vm.findClass RX12 = some m.cls := findClass_of_methodNamed B.named
  have hlocks := B.notSynchronized
  have hD := hD0.self (sz := s.heap.size)
  generalize hAe : va_A [(a_t, .inr (15, [.ref a_t_s, .ref a_t_f, .ref a_t_before, .ref a_t_beforeF, .ref a_t_aside, .ref a_t_asideF, .ref a_t_saved, .ref a_t_savedF, .int t_isSaved, .ref a_t_past, .ref a_t_pastF, .int t_pastMany, .int t_boiled, .int t_thrown, .ref a_t_refused, .ref a_t_text, .int t_length, .int t_error, .ref a_t_signs, .ref a_t_numbers, .int t_tokens, .int t_spoons, .int t_mostSpoons, .ref a_t_row, .ref a_t_isBrothOn, .ref a_t_dramsOn, .ref a_t_brothOn, .int t_cause, .int t_causeDetail, .ref a_t_lowOn, .ref a_t_highOn, .ref a_t_lowStored, .ref a_t_highStored, .ref a_t_isBrothStored, .int t_storeMany, .ref a_t_step, .ref a_t_stepF, .ref a_t_line, .int t_lineMany])), (a_t_s, .inl (cT 0, 282, .inl t_s)), (a_t_before, .inl (cT 0, 282, .inl t_before)), (a_t_f, .inl (cT 4, 6, .inr (.inr (.inl t_f)))), (a_t_beforeF, .inl (cT 4, 6, .inr (.inr (.inl t_beforeF)))), (a_t_refused, .inl (cT 0, 4, .inl t_refused)), (a_t_past, .inl (cT 0, 1692, .inl t_past)), (a_t_pastF, .inl (cT 4, 36, .inr (.inr (.inl t_pastF))))] s.heap.size = A at hD ⊢
  have hP := hP0
  have hA : ∀ q : Nat, s.heap.size ≤ q → A q := fun q h => by rw [← hAe]; exact Or.inr h
  have hS : va_S A s.heap s.heap [] := va_S.rf
  have hl := lv_entry [.ref a_t, .int p1, .int p2] (n := 3) (Nat.le_of_ble_eq_true rfl)
  rw [lg_entry_eq]
  generalize (lg_sl [.ref a_t, .int p1, .int p2] ++ List.replicate (3 - (lg_sl [.ref a_t, .int p1, .int p2]).length) Slot.unset).toArray = ls at hl ⊢
  have hl : lv_has ls 3 [(0, .ref a_t), (1, .int p1), (2, .int p2)] := hl
  unfold g_X12_pour at h
  refine lv_aload_n hx hb dX12_pour_0 rfl (lv_at hl 0 rfl) ?_
  obtain ⟨r1, hq, h⟩ := gb_some h
  refine cxV (X2 := [(a_t, .inr (15, [.ref a_t_s, .ref a_t_f, .ref a_t_before, .ref a_t_beforeF, .ref a_t_aside, .ref a_t_asideF, .ref a_t_saved, .ref a_t_savedF, .int t_isSaved, .ref a_t_past, .ref a_t_pastF, .int t_pastMany, .int t_boiled, .int r1.1, .ref a_t_refused, .ref a_t_text, .int t_length, .int t_error, .ref a_t_signs, .ref a_t_numbers, .int t_tokens, .int t_spoons, .int t_mostSpoons, .ref a_t_row, .ref a_t_isBrothOn, .ref a_t_dramsOn, .ref a_t_brothOn, .int t_cause, .int t_causeDetail, .ref a_t_lowOn, .ref a_t_highOn, .ref a_t_lowStored, .ref a_t_highStored, .ref a_t_isBrothStored, .int t_storeMany, .ref a_t_step, .ref a_t_stepF, .ref a_t_line, .int t_lineMany])), (a_t_s, .inl (cT 0, 282, .inl t_s)), (a_t_before, .inl (cT 0, 282, .inl r1.2.1)), (a_t_f, .inl (cT 4, 6, .inr (.inr (.inl t_f)))), (a_t_beforeF, .inl (cT 4, 6, .inr (.inr (.inl r1.2.2)))), (a_t_refused, .inl (cT 0, 4, .inl t_refused)), (a_t_past, .inl (cT 0, 1692, .inl t_past)), (a_t_pastF, .inl (cT 4, 36, .inr (.inr (.inl t_pastF))))]) (va_runV (As := []) (rest := []) ⟨hx, hb, hml, hown, hta⟩ (c_X12_keep l dC dI cT hq (hP.sub (ws' := [(a_t, .inr (15, [.ref a_t_s, .ref a_t_f, .ref a_t_before, .ref a_t_beforeF, .ref a_t_aside, .ref a_t_asideF, .ref a_t_saved, .ref a_t_savedF, .int t_isSaved, .ref a_t_past, .ref a_t_pastF, .int t_pastMany, .int t_boiled, .int t_thrown, .ref a_t_refused, .ref a_t_text, .int t_length, .int t_error, .ref a_t_signs, .ref a_t_numbers, .int t_tokens, .int t_spoons, .int t_mostSpoons, .ref a_t_row, .ref a_t_isBrothOn, .ref a_t_dramsOn, .ref a_t_brothOn, .int t_cause, .int t_causeDetail, .ref a_t_lowOn, .ref a_t_highOn, .ref a_t_lowStored, .ref a_t_highStored, .ref a_t_isBrothStored, .int t_storeMany, .ref a_t_step, .ref a_t_stepF, .ref a_t_line, .int t_lineMany])), (a_t_s, .inl (cT 0, 282, .inl t_s)), (a_t_before, .inl (cT 0, 282, .inl t_before)), (a_t_f, .inl (cT 4, 6, .inr (.inr (.inl t_f)))), (a_t_beforeF, .inl (cT 4, 6, .inr (.inr (.inl t_beforeF))))]) [0, 1, 2, 3, 4] rfl) ((hD.sub [0, 1, 2, 3, 4] (by decide) rfl).weaken (fun _ _ _ _ => trivial))) (cV hta lm_X12_138 md_X12_keep ⟨(Nat.le_of_ble_eq_true rfl), (Nat.le_of_ble_eq_true rfl)⟩) ⟨fbK, va_recv hK hP (ci := 15) (q0 := 0) rfl rfl, fun U hU hW => ⟨rfl, hU, va_K.moved hW.alike hK⟩⟩ rfl rfl hl.1 rfl (lv_room (Nat.le_of_ble_eq_true rfl)) dX12_pour_1 ⟨(Nat.le_of_ble_eq_true rfl), (Nat.le_of_ble_eq_true rfl)⟩) hS hA hP hD [0, 1, 2, 3, 4] rfl [.inl 0, .inl 1, .inl 2, .inl 3, .inl 4, .inr 5, .inr 6, .inr 7] rfl rfl rfl (fun H locs hP hD hS => ?_)
  refine lv_aload_n hx hb dX12_pour_4 rfl (lv_at hl 0 rfl) ?_
  refine lv_aload_n hx hb dX12_pour_5 rfl (lv_at hl 0 rfl) ?_
  refine lv_iload_n hx hb dX12_pour_6 rfl (lv_at hl 1 rfl) ?_
  refine lv_iload_n hx hb dX12_pour_7 rfl (lv_at hl 2 rfl) ?_
  obtain ⟨r2, hq, h⟩ := gb_some h
  refine cxI (X2 := [(a_t, .inr (15, [.ref a_t_s, .ref a_t_f, .ref a_t_before, .ref a_t_beforeF, .ref a_t_aside, .ref a_t_asideF, .ref a_t_saved, .ref a_t_savedF, .int t_isSaved, .ref a_t_past, .ref a_t_pastF, .int t_pastMany, .int t_boiled, .int r2.2.1, .ref a_t_refused, .ref a_t_text, .int t_length, .int t_error, .ref a_t_signs, .ref a_t_numbers, .int t_tokens, .int t_spoons, .int t_mostSpoons, .ref a_t_row, .ref a_t_isBrothOn, .ref a_t_dramsOn, .ref a_t_brothOn, .int t_cause, .int t_causeDetail, .ref a_t_lowOn, .ref a_t_highOn, .ref a_t_lowStored, .ref a_t_highStored, .ref a_t_isBrothStored, .int t_storeMany, .ref a_t_step, .ref a_t_stepF, .ref a_t_line, .int t_lineMany])), (a_t_s, .inl (cT 0, 282, .inl r2.2.2.1)), (a_t_before, .inl (cT 0, 282, .inl r1.2.1)), (a_t_f, .inl (cT 4, 6, .inr (.inr (.inl t_f)))), (a_t_beforeF, .inl (cT 4, 6, .inr (.inr (.inl r1.2.2)))), (a_t_refused, .inl (cT 0, 4, .inl r2.2.2.2)), (a_t_past, .inl (cT 0, 1692, .inl t_past)), (a_t_pastF, .inl (cT 4, 36, .inr (.inr (.inl t_pastF))))]) (va_runV (As := [.int p1, .int p2]) (rest := [.ref a_t]) ⟨hx, hb, hml, hown, hta⟩ (c_X12_doPour l dC dI cT hq (hP.sub (ws' := [(a_t, .inr (15, [.ref a_t_s, .ref a_t_f, .ref a_t_before, .ref a_t_beforeF, .ref a_t_aside, .ref a_t_asideF, .ref a_t_saved, .ref a_t_savedF, .int t_isSaved, .ref a_t_past, .ref a_t_pastF, .int t_pastMany, .int t_boiled, .int r1.1, .ref a_t_refused, .ref a_t_text, .int t_length, .int t_error, .ref a_t_signs, .ref a_t_numbers, .int t_tokens, .int t_spoons, .int t_mostSpoons, .ref a_t_row, .ref a_t_isBrothOn, .ref a_t_dramsOn, .ref a_t_brothOn, .int t_cause, .int t_causeDetail, .ref a_t_lowOn, .ref a_t_highOn, .ref a_t_lowStored, .ref a_t_highStored, .ref a_t_isBrothStored, .int t_storeMany, .ref a_t_step, .ref a_t_stepF, .ref a_t_line, .int t_lineMany])), (a_t_s, .inl (cT 0, 282, .inl t_s)), (a_t_refused, .inl (cT 0, 4, .inl t_refused))]) [0, 1, 5] rfl) ((hD.sub [0, 1, 5] (by decide) rfl).weaken (fun _ _ _ _ => trivial))) (cV hta lm_X12_167 md_X12_doPour ⟨(Nat.le_of_ble_eq_true rfl), (Nat.le_of_ble_eq_true rfl)⟩) ⟨fbK, va_recv hK hP (ci := 15) (q0 := 0) rfl rfl, fun U hU hW => ⟨rfl, hU, va_K.moved hW.alike hK⟩⟩ rfl rfl hl.1 rfl (lv_room (Nat.le_of_ble_eq_true rfl)) dX12_pour_8 ⟨(Nat.le_of_ble_eq_true rfl), (Nat.le_of_ble_eq_true rfl)⟩) hS hA hP hD [0, 1, 5] rfl [.inl 0, .inl 1, .inr 2, .inr 3, .inr 4, .inl 2, .inr 6, .inr 7] rfl rfl rfl (fun H locs hP hD hS => ?_)
  obtain ⟨r3, hq, h⟩ := gb_some h
  refine cxI (X2 := [(a_t, .inr (15, [.ref a_t_s, .ref a_t_f, .ref a_t_before, .ref a_t_beforeF, .ref a_t_aside, .ref a_t_asideF, .ref a_t_saved, .ref a_t_savedF, .int t_isSaved, .ref a_t_past, .ref a_t_pastF, .int r3.2.1, .int t_boiled, .int r2.2.1, .ref a_t_refused, .ref a_t_text, .int t_length, .int t_error, .ref a_t_signs, .ref a_t_numbers, .int t_tokens, .int t_spoons, .int t_mostSpoons, .ref a_t_row, .ref a_t_isBrothOn, .ref a_t_dramsOn, .ref a_t_brothOn, .int t_cause, .int t_causeDetail, .ref a_t_lowOn, .ref a_t_highOn, .ref a_t_lowStored, .ref a_t_highStored, .ref a_t_isBrothStored, .int t_storeMany, .ref a_t_step, .ref a_t_stepF, .ref a_t_line, .int t_lineMany])), (a_t_s, .inl (cT 0, 282, .inl r3.2.2.2.2.1)), (a_t_before, .inl (cT 0, 282, .inl r1.2.1)), (a_t_f, .inl (cT 4, 6, .inr (.inr (.inl r3.2.2.2.2.2)))), (a_t_beforeF, .inl (cT 4, 6, .inr (.inr (.inl r1.2.2)))), (a_t_refused, .inl (cT 0, 4, .inl r2.2.2.2)), (a_t_past, .inl (cT 0, 1692, .inl r3.2.2.1)), (a_t_pastF, .inl (cT 4, 36, .inr (.inr (.inl r3.2.2.2.1))))]) (va_runV (As := [.int r2.1]) (rest := []) ⟨hx, hb, hml, hown, hta⟩ (c_X12_ends l dC dI cT hq (hP.sub (ws' := [(a_t, .inr (15, [.ref a_t_s, .ref a_t_f, .ref a_t_before, .ref a_t_beforeF, .ref a_t_aside, .ref a_t_asideF, .ref a_t_saved, .ref a_t_savedF, .int t_isSaved, .ref a_t_past, .ref a_t_pastF, .int t_pastMany, .int t_boiled, .int r2.2.1, .ref a_t_refused, .ref a_t_text, .int t_length, .int t_error, .ref a_t_signs, .ref a_t_numbers, .int t_tokens, .int t_spoons, .int t_mostSpoons, .ref a_t_row, .ref a_t_isBrothOn, .ref a_t_dramsOn, .ref a_t_brothOn, .int t_cause, .int t_causeDetail, .ref a_t_lowOn, .ref a_t_highOn, .ref a_t_lowStored, .ref a_t_highStored, .ref a_t_isBrothStored, .int t_storeMany, .ref a_t_step, .ref a_t_stepF, .ref a_t_line, .int t_lineMany])), (a_t_past, .inl (cT 0, 1692, .inl t_past)), (a_t_pastF, .inl (cT 4, 36, .inr (.inr (.inl t_pastF)))), (a_t_before, .inl (cT 0, 282, .inl r1.2.1)), (a_t_s, .inl (cT 0, 282, .inl r2.2.2.1)), (a_t_beforeF, .inl (cT 4, 6, .inr (.inr (.inl r1.2.2)))), (a_t_f, .inl (cT 4, 6, .inr (.inr (.inl t_f))))]) [0, 6, 7, 2, 1, 4, 3] rfl) ((hD.sub [0, 6, 7, 2, 1, 4, 3] (by decide) rfl).weaken (fun _ _ _ _ => trivial))) (cV hta lm_X12_153 md_X12_ends ⟨(Nat.le_of_ble_eq_true rfl), (Nat.le_of_ble_eq_true rfl)⟩) ⟨fbK, va_recv hK hP (ci := 15) (q0 := 0) rfl rfl, fun U hU hW => ⟨rfl, hU, va_K.moved hW.alike hK⟩⟩ rfl rfl hl.1 rfl (lv_room (Nat.le_of_ble_eq_true rfl)) dX12_pour_11 ⟨(Nat.le_of_ble_eq_true rfl), (Nat.le_of_ble_eq_true rfl)⟩) hS hA hP hD [0, 6, 7, 2, 1, 4, 3] rfl [.inl 0, .inl 4, .inl 3, .inl 6, .inl 5, .inr 5, .inl 1, .inl 2] rfl rfl rfl (fun H locs hP hD hS => ?_)
  have ho := Option.some.inj h
  exact W.iret (v := r3.1) hx hb hr (fun t ht hW => ⟨⟨r3.1, (), rfl, by rw [← ho], by show va_P (dC, dI) vwCl _ t.heap; rw [ht, ← ho]; exact hP⟩, hS.F ht⟩) hS.2.2 dX12_pour_14
def g_X12_doLadle (t_thrown : Int32) (t_s : Nat → Int32) (t_f : Nat → UInt32) (t_refused : Nat → Int32) (p1 : Int32) (p2 : Int32) : Option (Int32 × Int32 × (Nat → UInt32) × (Nat → Int32)) :=
  gb (g_X12_isCauldron t_s p1) fun r1 =>
  if r1 = 0 then
    gb (g_X12_fails t_thrown (1 : Int32)) fun r7 =>
    some (r7.1, r7.2, t_f, t_refused)
  else
    gb (g_X12_in p2.toInt64 (-9999 : Int64) (9999 : Int64)) fun r2 =>
    if r2 = 0 then
      gb (g_X12_fails t_thrown (2 : Int32)) fun r6 =>
      some (r6.1, r6.2, t_f, t_refused)
    else
      gb (g_X12_isBroth t_s p1) fun r3 =>
      if r3 = 0 then
        gb (g_X12_refuse t_thrown t_refused (3 : Int32) (4 : Int32) p1) fun r5 =>
        some (r5.1, r5.2.1, t_f, r5.2.2)
      else
        gc (inb p1 6) <|
        gb (g_Jxf58ca_floatToIntBits_5c35a (t_f p1.toNatClampNeg)) fun r4 =>
        gc (n32 (FP.fdiv (FP.i2f p2) (1120403456 : UInt32))) <|
        gc (inb p1 6) <|
        some (r4, t_thrown, (vf_upd t_f p1.toNatClampNeg (FP.fdiv (FP.i2f p2) (1120403456 : UInt32))), t_refused)
set_option maxHeartbeats 4000000 in
set_option maxRecDepth 100000 in
theorem c_X12_doLadle (l : Launch) (dC : Nat → ClassId) (dI : Nat → Nat → Nat) (cT : Nat → ClassId) {Hh : Heap} {a_t : Nat} {a_t_s : Nat} {a_t_f : Nat} {a_t_refused : Nat} {a_t_before : Nat} {a_t_beforeF : Nat} {a_t_aside : Nat} {a_t_asideF : Nat} {a_t_saved : Nat} {a_t_savedF : Nat} {a_t_past : Nat} {a_t_pastF : Nat} {a_t_text : Nat} {a_t_signs : Nat} {a_t_numbers : Nat} {a_t_row : Nat} {a_t_isBrothOn : Nat} {a_t_dramsOn : Nat} {a_t_brothOn : Nat} {a_t_lowOn : Nat} {a_t_highOn : Nat} {a_t_lowStored : Nat} {a_t_highStored : Nat} {a_t_isBrothStored : Nat} {a_t_step : Nat} {a_t_stepF : Nat} {a_t_line : Nat} {t_thrown : Int32} {t_s : Nat → Int32} {t_f : Nat → UInt32} {t_refused : Nat → Int32} {p1 : Int32} {p2 : Int32} {t_isSaved : Int32} {t_pastMany : Int32} {t_boiled : Int32} {t_length : Int32} {t_error : Int32} {t_tokens : Int32} {t_spoons : Int32} {t_mostSpoons : Int32} {t_cause : Int32} {t_causeDetail : Int32} {t_storeMany : Int32} {t_lineMany : Int32} {o : Int32 × Int32 × (Nat → UInt32) × (Nat → Int32)} (h : g_X12_doLadle t_thrown t_s t_f t_refused p1 p2 = some o) (hP0 : va_P (dC, dI) vwCl [(a_t, .inr (15, [.ref a_t_s, .ref a_t_f, .ref a_t_before, .ref a_t_beforeF, .ref a_t_aside, .ref a_t_asideF, .ref a_t_saved, .ref a_t_savedF, .int t_isSaved, .ref a_t_past, .ref a_t_pastF, .int t_pastMany, .int t_boiled, .int t_thrown, .ref a_t_refused, .ref a_t_text, .int t_length, .int t_error, .ref a_t_signs, .ref a_t_numbers, .int t_tokens, .int t_spoons, .int t_mostSpoons, .ref a_t_row, .ref a_t_isBrothOn, .ref a_t_dramsOn, .ref a_t_brothOn, .int t_cause, .int t_causeDetail, .ref a_t_lowOn, .ref a_t_highOn, .ref a_t_lowStored, .ref a_t_highStored, .ref a_t_isBrothStored, .int t_storeMany, .ref a_t_step, .ref a_t_stepF, .ref a_t_line, .int t_lineMany])), (a_t_f, .inl (cT 4, 6, .inr (.inr (.inl t_f)))), (a_t_refused, .inl (cT 0, 4, .inl t_refused))] Hh) (hR0 : va_P (dC, dI) vwCl [(a_t_s, .inl (cT 0, 282, .inl t_s))] Hh) (hD0 : va_D (fun _ => True) [(a_t, .inr (15, [.ref a_t_s, .ref a_t_f, .ref a_t_before, .ref a_t_beforeF, .ref a_t_aside, .ref a_t_asideF, .ref a_t_saved, .ref a_t_savedF, .int t_isSaved, .ref a_t_past, .ref a_t_pastF, .int t_pastMany, .int t_boiled, .int t_thrown, .ref a_t_refused, .ref a_t_text, .int t_length, .int t_error, .ref a_t_signs, .ref a_t_numbers, .int t_tokens, .int t_spoons, .int t_mostSpoons, .ref a_t_row, .ref a_t_isBrothOn, .ref a_t_dramsOn, .ref a_t_brothOn, .int t_cause, .int t_causeDetail, .ref a_t_lowOn, .ref a_t_highOn, .ref a_t_lowStored, .ref a_t_highStored, .ref a_t_isBrothStored, .int t_storeMany, .ref a_t_step, .ref a_t_stepF, .ref a_t_line, .int t_lineMany])), (a_t_f, .inl (cT 4, 6, .inr (.inr (.inl t_f)))), (a_t_refused, .inl (cT 0, 4, .inl t_refused))]) (hN0 : ∀ (k : Nat) (q : Nat × va_E), ([(a_t_s, .inl (cT 0, 282, .inl t_s))] : va_W)[k]? = some q → ¬ va_A [(a_t, .inr (15, [.ref a_t_s, .ref a_t_f, .ref a_t_before, .ref a_t_beforeF, .ref a_t_aside, .ref a_t_asideF, .ref a_t_saved, .ref a_t_savedF, .int t_isSaved, .ref a_t_past, .ref a_t_pastF, .int t_pastMany, .int t_boiled, .int t_thrown, .ref a_t_refused, .ref a_t_text, .int t_length, .int t_error, .ref a_t_signs, .ref a_t_numbers, .int t_tokens, .int t_spoons, .int t_mostSpoons, .ref a_t_row, .ref a_t_isBrothOn, .ref a_t_dramsOn, .ref a_t_brothOn, .int t_cause, .int t_causeDetail, .ref a_t_lowOn, .ref a_t_highOn, .ref a_t_lowStored, .ref a_t_highStored, .ref a_t_isBrothStored, .int t_storeMany, .ref a_t_step, .ref a_t_stepF, .ref a_t_line, .int t_lineMany])), (a_t_f, .inl (cT 4, 6, .inr (.inr (.inl t_f)))), (a_t_refused, .inl (cT 0, 4, .inl t_refused))] Hh.size q.1) : Met l yX12_doLadle (wA yX12_doLadle cX12_doLadle 4 (some .int)) ({ frames := 2, cells := 0, slots := 0, locals := 50 } : Room) (PK dC dI cT [.ref a_t, .int p1, .int p2] Hh) (va_Qi (fun x (_ : Unit) => x = o.1) (fun _ t => va_P (dC, dI) vwCl [(a_t, .inr (15, [.ref a_t_s, .ref a_t_f, .ref a_t_before, .ref a_t_beforeF, .ref a_t_aside, .ref a_t_asideF, .ref a_t_saved, .ref a_t_savedF, .int t_isSaved, .ref a_t_past, .ref a_t_pastF, .int t_pastMany, .int t_boiled, .int o.2.1, .ref a_t_refused, .ref a_t_text, .int t_length, .int t_error, .ref a_t_signs, .ref a_t_numbers, .int t_tokens, .int t_spoons, .int t_mostSpoons, .ref a_t_row, .ref a_t_isBrothOn, .ref a_t_dramsOn, .ref a_t_brothOn, .int t_cause, .int t_causeDetail, .ref a_t_lowOn, .ref a_t_highOn, .ref a_t_lowStored, .ref a_t_highStored, .ref a_t_isBrothStored, .int t_storeMany, .ref a_t_step, .ref a_t_stepF, .ref a_t_line, .int t_lineMany])), (a_t_f, .inl (cT 4, 6, .inr (.inr (.inl o.2.2.1)))), (a_t_refused, .inl (cT 0, 4, .inl o.2.2.2))] t.heap) (va_A [(a_t, .inr (15, [.ref a_t_s, .ref a_t_f, .ref a_t_before, .ref a_t_beforeF, .ref a_t_aside, .ref a_t_asideF, .ref a_t_saved, .ref a_t_savedF, .int t_isSaved, .ref a_t_past, .ref a_t_pastF, .int t_pastMany, .int t_boiled, .int t_thrown, .ref a_t_refused, .ref a_t_text, .int t_length, .int t_error, .ref a_t_signs, .ref a_t_numbers, .int t_tokens, .int t_spoons, .int t_mostSpoons, .ref a_t_row, .ref a_t_isBrothOn, .ref a_t_dramsOn, .ref a_t_brothOn, .int t_cause, .int t_causeDetail, .ref a_t_lowOn, .ref a_t_highOn, .ref a_t_lowStored, .ref a_t_highStored, .ref a_t_isBrothStored, .int t_storeMany, .ref a_t_step, .ref a_t_stepF, .ref a_t_line, .int t_lineMany])), (a_t_f, .inl (cT 4, 6, .inr (.inr (.inl t_f)))), (a_t_refused, .inl (cT 0, 4, .inl t_refused))] Hh.size)) 0 0 (va_A [(a_t, .inr (15, [.ref a_t_s, .ref a_t_f, .ref a_t_before, .ref a_t_beforeF, .ref a_t_aside, .ref a_t_asideF, .ref a_t_saved, .ref a_t_savedF, .int t_isSaved, .ref a_t_past, .ref a_t_pastF, .int t_pastMany, .int t_boiled, .int t_thrown, .ref a_t_refused, .ref a_t_text, .int t_length, .int t_error, .ref a_t_signs, .ref a_t_numbers, .int t_tokens, .int t_spoons, .int t_mostSpoons, .ref a_t_row, .ref a_t_isBrothOn, .ref a_t_dramsOn, .ref a_t_brothOn, .int t_cause, .int t_causeDetail, .ref a_t_lowOn, .ref a_t_highOn, .ref a_t_lowStored, .ref a_t_highStored, .ref a_t_isBrothStored, .int t_storeMany, .ref a_t_step, .ref a_t_stepF, .ref a_t_line, .int t_lineMany])), (a_t_f, .inl (cT 4, 6, .inr (.inr (.inl t_f)))), (a_t_refused, .inl (cT 0, 4, .inl t_refused))] Hh.size) := by
  refine Met.ofW (cc := cX12_doLadle) (maxL := 4) (ret := (some .int)) (by decide) rfl ?_
  intro p e s m args below meth c s₁ B hml hv
  obtain ⟨rfl, hH, hK⟩ := hv
  subst hH
  have hx := B.exec
  have hb := B.bytes
  have hr := B.returns
  have hta : ∀ w ∈ ALLW, w.before [.ref a_t, .int p1, .int p2].toArray s = true := fun w hw => atoms_spec (ws := wA yX12_doLadle cX12_doLadle 4 (some .int)) B.pre w (List.mem_cons_of_mem _ hw)
  have hown : s.vm.findClass RX12 = some m.cls := findClass_of_methodNamed B.named
  have hlocks := B.notSynchronized
  have hD := hD0.self (sz := s.heap.size)
  have hNA := hN0
  generalize hAe : va_A [(a_t, .inr (15, [.ref a_t_s, .ref a_t_f, .ref a_t_before, .ref a_t_beforeF, .ref a_t_aside, .ref a_t_asideF, .ref a_t_saved, .ref a_t_savedF, .int t_isSaved, .ref a_t_past, .ref a_t_pastF, .int t_pastMany, .int t_boiled, .int t_thrown, .ref a_t_refused, .ref a_t_text, .int t_length, .int t_error, .ref a_t_signs, .ref a_t_numbers, .int t_tokens, .int t_spoons, .int t_mostSpoons, .ref a_t_row, .ref a_t_isBrothOn, .ref a_t_dramsOn, .ref a_t_brothOn, .int t_cause, .int t_causeDetail, .ref a_t_lowOn, .ref a_t_highOn, .ref a_t_lowStored, .ref a_t_highStored, .ref a_t_isBrothStored, .int t_storeMany, .ref a_t_step, .ref a_t_stepF, .ref a_t_line, .int t_lineMany])), (a_t_f, .inl (cT 4, 6, .inr (.inr (.inl t_f)))), (a_t_refused, .inl (cT 0, 4, .inl t_refused))] s.heap.size = A at hD hNA ⊢
  have hP := hP0
  have hA : ∀ q : Nat, s.heap.size ≤ q → A q := fun q h => by rw [← hAe]; exact Or.inr h
  have hS : va_S A s.heap s.heap [] := va_S.rf
  have hl := lv_entry [.ref a_t, .int p1, .int p2] (n := 4) (Nat.le_of_ble_eq_true rfl)
  rw [lg_entry_eq]
  generalize (lg_sl [.ref a_t, .int p1, .int p2] ++ List.replicate (4 - (lg_sl [.ref a_t, .int p1, .int p2]).length) Slot.unset).toArray = ls at hl ⊢
  have hl : lv_has ls 4 [(0, .ref a_t), (1, .int p1), (2, .int p2)] := hl
  unfold g_X12_doLadle at h
  refine lv_aload_n hx hb dX12_doLadle_0 rfl (lv_at hl 0 rfl) ?_
  refine lv_iload_n hx hb dX12_doLadle_1 rfl (lv_at hl 1 rfl) ?_
  obtain ⟨r1, hq, h⟩ := gb_some h
  refine crI (va_runV (As := [.int p1]) (rest := []) ⟨hx, hb, hml, hown, hta⟩ (c_X12_isCauldron l dC dI cT hq ((va_P.app hP (rk hR0 hNA hS)).sub (ws' := [(a_t, .inr (15, [.ref a_t_s, .ref a_t_f, .ref a_t_before, .ref a_t_beforeF, .ref a_t_aside, .ref a_t_asideF, .ref a_t_saved, .ref a_t_savedF, .int t_isSaved, .ref a_t_past, .ref a_t_pastF, .int t_pastMany, .int t_boiled, .int t_thrown, .ref a_t_refused, .ref a_t_text, .int t_length, .int t_error, .ref a_t_signs, .ref a_t_numbers, .int t_tokens, .int t_spoons, .int t_mostSpoons, .ref a_t_row, .ref a_t_isBrothOn, .ref a_t_dramsOn, .ref a_t_brothOn, .int t_cause, .int t_causeDetail, .ref a_t_lowOn, .ref a_t_highOn, .ref a_t_lowStored, .ref a_t_highStored, .ref a_t_isBrothStored, .int t_storeMany, .ref a_t_step, .ref a_t_stepF, .ref a_t_line, .int t_lineMany])), (a_t_s, .inl (cT 0, 282, .inl t_s))]) [0, 3] rfl)) (cV hta lm_X12_156 md_X12_isCauldron ⟨(Nat.le_of_ble_eq_true rfl), (Nat.le_of_ble_eq_true rfl)⟩) ⟨fbK, va_recv hK hP (ci := 15) (q0 := 0) rfl rfl, fun U hU hW => ⟨rfl, hU, va_K.moved hW.alike hK⟩⟩ rfl rfl hl.1 rfl (lv_room (Nat.le_of_ble_eq_true rfl)) dX12_doLadle_2 ⟨(Nat.le_of_ble_eq_true rfl), (Nat.le_of_ble_eq_true rfl)⟩) hS hA (fun locs hS => ?_)
  refine lv_if_ne (tgt := 14) hx hb dX12_doLadle_5 (by decide) (fun c0 => ?_) (fun c0 => ?_)
  · have h := (if_neg c0).symm.trans h
    refine lv_iload_n hx hb dX12_doLadle_14 rfl (lv_at hl 2 rfl) ?_
    refine lv_i2l hx hb dX12_doLadle_15 rfl ?_
    refine lv_ldc2 (v := -9999) hx hb hown (hta _ kc_X12_170) dX12_doLadle_16 ?_
    refine lv_ldc2 (v := 9999) hx hb hown (hta _ kc_X12_172) dX12_doLadle_19 ?_
    obtain ⟨r2, hq, h⟩ := gb_some h
    refine crI (va_runS (As := [.long p2.toInt64, .long (-9999 : Int64), .long (9999 : Int64)]) (rest := []) ⟨hx, hb, hml, hown, hta⟩ (c_X12_in l dC dI cT hq) (cS hta lm_X12_112 md_X12_in ⟨(Nat.le_of_ble_eq_true rfl), (Nat.le_of_ble_eq_true rfl)⟩) ⟨fbK, fun U hU hW => ⟨rfl, hU, va_K.moved hW.alike hK⟩⟩ rfl rfl hl.1 rfl (lv_room (Nat.le_of_ble_eq_true rfl)) dX12_doLadle_22 ⟨(Nat.le_of_ble_eq_true rfl), (Nat.le_of_ble_eq_true rfl)⟩) hS hA (fun locs hS => ?_)
    refine lv_if_ne (tgt := 34) hx hb dX12_doLadle_25 (by decide) (fun c0 => ?_) (fun c0 => ?_)
    · have h := (if_neg c0).symm.trans h
      refine lv_aload_n hx hb dX12_doLadle_34 rfl (lv_at hl 0 rfl) ?_
      refine lv_iload_n hx hb dX12_doLadle_35 rfl (lv_at hl 1 rfl) ?_
      obtain ⟨r3, hq, h⟩ := gb_some h
      refine crI (va_runV (As := [.int p1]) (rest := []) ⟨hx, hb, hml, hown, hta⟩ (c_X12_isBroth l dC dI cT hq ((va_P.app hP (rk hR0 hNA hS)).sub (ws' := [(a_t, .inr (15, [.ref a_t_s, .ref a_t_f, .ref a_t_before, .ref a_t_beforeF, .ref a_t_aside, .ref a_t_asideF, .ref a_t_saved, .ref a_t_savedF, .int t_isSaved, .ref a_t_past, .ref a_t_pastF, .int t_pastMany, .int t_boiled, .int t_thrown, .ref a_t_refused, .ref a_t_text, .int t_length, .int t_error, .ref a_t_signs, .ref a_t_numbers, .int t_tokens, .int t_spoons, .int t_mostSpoons, .ref a_t_row, .ref a_t_isBrothOn, .ref a_t_dramsOn, .ref a_t_brothOn, .int t_cause, .int t_causeDetail, .ref a_t_lowOn, .ref a_t_highOn, .ref a_t_lowStored, .ref a_t_highStored, .ref a_t_isBrothStored, .int t_storeMany, .ref a_t_step, .ref a_t_stepF, .ref a_t_line, .int t_lineMany])), (a_t_s, .inl (cT 0, 282, .inl t_s))]) [0, 3] rfl)) (cV hta lm_X12_160 md_X12_isBroth ⟨(Nat.le_of_ble_eq_true rfl), (Nat.le_of_ble_eq_true rfl)⟩) ⟨fbK, va_recv hK hP (ci := 15) (q0 := 0) rfl rfl, fun U hU hW => ⟨rfl, hU, va_K.moved hW.alike hK⟩⟩ rfl rfl hl.1 rfl (lv_room (Nat.le_of_ble_eq_true rfl)) dX12_doLadle_36 ⟨(Nat.le_of_ble_eq_true rfl), (Nat.le_of_ble_eq_true rfl)⟩) hS hA (fun locs hS => ?_)
      refine lv_if_ne (tgt := 50) hx hb dX12_doLadle_39 (by decide) (fun c0 => ?_) (fun c0 => ?_)
      · have h := (if_neg c0).symm.trans h
        refine lv_aload_n hx hb dX12_doLadle_50 rfl (lv_at hl 0 rfl) ?_
        refine va_get (D := (dC, dI)) (ci := 15) (v := .ref a_t_f) (C := RX12) (T := TX12) (N := 39) hx hb hta inX12w hown hK hP 0 rfl rfl 1 (by decide) (hta _ lk_X12_13) (fun _ h9 => h9) rfl dX12_doLadle_51 ?_
        refine lv_iload_n hx hb dX12_doLadle_54 rfl (lv_at hl 1 rfl) ?_
        obtain ⟨hc, h⟩ := gc_some h
        refine va_fald hx hb hK hP 1 4 rfl rfl (inb_in hc) dX12_doLadle_55 ?_
        obtain ⟨r4, hq, h⟩ := gb_some h
        refine crI (va_runS (As := [.float (t_f p1.toNatClampNeg)]) (rest := []) ⟨hx, hb, hml, hown, hta⟩ (c_Jxf58ca_floatToIntBits_5c35a l dC dI cT hq) (cS hta lm_X12_174 md_Jxf58ca_floatToIntBits_5c35a ⟨(Nat.le_of_ble_eq_true rfl), (Nat.le_of_ble_eq_true rfl)⟩) ⟨fbK, fun U hU hW => ⟨rfl, hU, va_K.moved hW.alike hK⟩⟩ rfl rfl hl.1 rfl (lv_room (Nat.le_of_ble_eq_true rfl)) dX12_doLadle_56 ⟨(Nat.le_of_ble_eq_true rfl), (Nat.le_of_ble_eq_true rfl)⟩) hS hA (fun locs hS => ?_)
        refine lv_istore_n (lv' := [(3, .int r4), (0, .ref a_t), (1, .int p1), (2, .int p2)]) hx hb dX12_doLadle_59 rfl hl (by decide) rfl (fun ls hl => ?_)
        refine lv_aload_n hx hb dX12_doLadle_60 rfl (lv_at hl 1 rfl) ?_
        refine va_get (D := (dC, dI)) (ci := 15) (v := .ref a_t_f) (C := RX12) (T := TX12) (N := 39) hx hb hta inX12w hown hK hP 0 rfl rfl 1 (by decide) (hta _ lk_X12_13) (fun _ h9 => h9) rfl dX12_doLadle_61 ?_
        refine lv_iload_n hx hb dX12_doLadle_64 rfl (lv_at hl 2 rfl) ?_
        refine lv_iload_n hx hb dX12_doLadle_65 rfl (lv_at hl 3 rfl) ?_
        refine lv_i2f hx hb dX12_doLadle_66 ?_
        refine lv_ldcf (v := 1120403456) hx hb hown (hta _ kc_X12_180) dX12_doLadle_67 ?_
        obtain ⟨hc, h⟩ := gc_some h
        refine lv_fdiv hx hb dX12_doLadle_69 (n32_n hc) ?_
        obtain ⟨hc, h⟩ := gc_some h
        refine va_fast hx hb hK hP hD hS 1 4 rfl rfl (inb_in hc) dX12_doLadle_70 (fun H locs hP hD hS => ?_)
        have hP : va_P (dC, dI) vwCl [(a_t, .inr (15, [.ref a_t_s, .ref a_t_f, .ref a_t_before, .ref a_t_beforeF, .ref a_t_aside, .ref a_t_asideF, .ref a_t_saved, .ref a_t_savedF, .int t_isSaved, .ref a_t_past, .ref a_t_pastF, .int t_pastMany, .int t_boiled, .int t_thrown, .ref a_t_refused, .ref a_t_text, .int t_length, .int t_error, .ref a_t_signs, .ref a_t_numbers, .int t_tokens, .int t_spoons, .int t_mostSpoons, .ref a_t_row, .ref a_t_isBrothOn, .ref a_t_dramsOn, .ref a_t_brothOn, .int t_cause, .int t_causeDetail, .ref a_t_lowOn, .ref a_t_highOn, .ref a_t_lowStored, .ref a_t_highStored, .ref a_t_isBrothStored, .int t_storeMany, .ref a_t_step, .ref a_t_stepF, .ref a_t_line, .int t_lineMany])), (a_t_f, .inl (cT 4, 6, .inr (.inr (.inl (vf_upd t_f p1.toNatClampNeg (FP.fdiv (FP.i2f p2) (1120403456 : UInt32))))))), (a_t_refused, .inl (cT 0, 4, .inl t_refused))] H := hP
        have hD : va_D A [(a_t, .inr (15, [.ref a_t_s, .ref a_t_f, .ref a_t_before, .ref a_t_beforeF, .ref a_t_aside, .ref a_t_asideF, .ref a_t_saved, .ref a_t_savedF, .int t_isSaved, .ref a_t_past, .ref a_t_pastF, .int t_pastMany, .int t_boiled, .int t_thrown, .ref a_t_refused, .ref a_t_text, .int t_length, .int t_error, .ref a_t_signs, .ref a_t_numbers, .int t_tokens, .int t_spoons, .int t_mostSpoons, .ref a_t_row, .ref a_t_isBrothOn, .ref a_t_dramsOn, .ref a_t_brothOn, .int t_cause, .int t_causeDetail, .ref a_t_lowOn, .ref a_t_highOn, .ref a_t_lowStored, .ref a_t_highStored, .ref a_t_isBrothStored, .int t_storeMany, .ref a_t_step, .ref a_t_stepF, .ref a_t_line, .int t_lineMany])), (a_t_f, .inl (cT 4, 6, .inr (.inr (.inl (vf_upd t_f p1.toNatClampNeg (FP.fdiv (FP.i2f p2) (1120403456 : UInt32))))))), (a_t_refused, .inl (cT 0, 4, .inl t_refused))] := hD
        refine lv_iload_n hx hb dX12_doLadle_71 rfl (lv_at hl 0 rfl) ?_
        have ho := Option.some.inj h
        exact W.iret (v := r4) hx hb hr (fun t ht hW => ⟨⟨r4, (), rfl, by rw [← ho], by show va_P (dC, dI) vwCl _ t.heap; rw [ht, ← ho]; exact hP⟩, hS.F ht⟩) hS.2.2 dX12_doLadle_72
      · have h := (if_pos c0).symm.trans h
        refine lv_aload_n hx hb dX12_doLadle_42 rfl (lv_at hl 0 rfl) ?_
        refine lv_iconst (v := 3) hx hb dX12_doLadle_43 (by decide) ?_
        refine lv_iconst (v := 4) hx hb dX12_doLadle_44 (by decide) ?_
        refine lv_iload_n hx hb dX12_doLadle_45 rfl (lv_at hl 1 rfl) ?_
        obtain ⟨r5, hq, h⟩ := gb_some h
        refine cxI (X2 := [(a_t, .inr (15, [.ref a_t_s, .ref a_t_f, .ref a_t_before, .ref a_t_beforeF, .ref a_t_aside, .ref a_t_asideF, .ref a_t_saved, .ref a_t_savedF, .int t_isSaved, .ref a_t_past, .ref a_t_pastF, .int t_pastMany, .int t_boiled, .int r5.2.1, .ref a_t_refused, .ref a_t_text, .int t_length, .int t_error, .ref a_t_signs, .ref a_t_numbers, .int t_tokens, .int t_spoons, .int t_mostSpoons, .ref a_t_row, .ref a_t_isBrothOn, .ref a_t_dramsOn, .ref a_t_brothOn, .int t_cause, .int t_causeDetail, .ref a_t_lowOn, .ref a_t_highOn, .ref a_t_lowStored, .ref a_t_highStored, .ref a_t_isBrothStored, .int t_storeMany, .ref a_t_step, .ref a_t_stepF, .ref a_t_line, .int t_lineMany])), (a_t_f, .inl (cT 4, 6, .inr (.inr (.inl t_f)))), (a_t_refused, .inl (cT 0, 4, .inl r5.2.2))]) (va_runV (As := [.int 3, .int 4, .int p1]) (rest := []) ⟨hx, hb, hml, hown, hta⟩ (c_X12_refuse l dC dI cT hq (hP.sub (ws' := [(a_t, .inr (15, [.ref a_t_s, .ref a_t_f, .ref a_t_before, .ref a_t_beforeF, .ref a_t_aside, .ref a_t_asideF, .ref a_t_saved, .ref a_t_savedF, .int t_isSaved, .ref a_t_past, .ref a_t_pastF, .int t_pastMany, .int t_boiled, .int t_thrown, .ref a_t_refused, .ref a_t_text, .int t_length, .int t_error, .ref a_t_signs, .ref a_t_numbers, .int t_tokens, .int t_spoons, .int t_mostSpoons, .ref a_t_row, .ref a_t_isBrothOn, .ref a_t_dramsOn, .ref a_t_brothOn, .int t_cause, .int t_causeDetail, .ref a_t_lowOn, .ref a_t_highOn, .ref a_t_lowStored, .ref a_t_highStored, .ref a_t_isBrothStored, .int t_storeMany, .ref a_t_step, .ref a_t_stepF, .ref a_t_line, .int t_lineMany])), (a_t_refused, .inl (cT 0, 4, .inl t_refused))]) [0, 2] rfl) ((hD.sub [0, 2] (by decide) rfl).weaken (fun _ _ _ _ => trivial))) (cV hta lm_X12_122 md_X12_refuse ⟨(Nat.le_of_ble_eq_true rfl), (Nat.le_of_ble_eq_true rfl)⟩) ⟨fbK, va_recv hK hP (ci := 15) (q0 := 0) rfl rfl, fun U hU hW => ⟨rfl, hU, va_K.moved hW.alike hK⟩⟩ rfl rfl hl.1 rfl (lv_room (Nat.le_of_ble_eq_true rfl)) dX12_doLadle_46 ⟨(Nat.le_of_ble_eq_true rfl), (Nat.le_of_ble_eq_true rfl)⟩) hS hA hP hD [0, 2] rfl [.inl 0, .inr 1, .inl 1] rfl rfl rfl (fun H locs hP hD hS => ?_)
        have ho := Option.some.inj h
        exact W.iret (v := r5.1) hx hb hr (fun t ht hW => ⟨⟨r5.1, (), rfl, by rw [← ho], by show va_P (dC, dI) vwCl _ t.heap; rw [ht, ← ho]; exact hP⟩, hS.F ht⟩) hS.2.2 dX12_doLadle_49
    · have h := (if_pos c0).symm.trans h
      refine lv_aload_n hx hb dX12_doLadle_28 rfl (lv_at hl 0 rfl) ?_
      refine lv_iconst (v := 2) hx hb dX12_doLadle_29 (by decide) ?_
      obtain ⟨r6, hq, h⟩ := gb_some h
      refine cxI (X2 := [(a_t, .inr (15, [.ref a_t_s, .ref a_t_f, .ref a_t_before, .ref a_t_beforeF, .ref a_t_aside, .ref a_t_asideF, .ref a_t_saved, .ref a_t_savedF, .int t_isSaved, .ref a_t_past, .ref a_t_pastF, .int t_pastMany, .int t_boiled, .int r6.2, .ref a_t_refused, .ref a_t_text, .int t_length, .int t_error, .ref a_t_signs, .ref a_t_numbers, .int t_tokens, .int t_spoons, .int t_mostSpoons, .ref a_t_row, .ref a_t_isBrothOn, .ref a_t_dramsOn, .ref a_t_brothOn, .int t_cause, .int t_causeDetail, .ref a_t_lowOn, .ref a_t_highOn, .ref a_t_lowStored, .ref a_t_highStored, .ref a_t_isBrothStored, .int t_storeMany, .ref a_t_step, .ref a_t_stepF, .ref a_t_line, .int t_lineMany])), (a_t_f, .inl (cT 4, 6, .inr (.inr (.inl t_f)))), (a_t_refused, .inl (cT 0, 4, .inl t_refused))]) (va_runV (As := [.int 2]) (rest := []) ⟨hx, hb, hml, hown, hta⟩ (c_X12_fails l dC dI cT hq (hP.sub (ws' := [(a_t, .inr (15, [.ref a_t_s, .ref a_t_f, .ref a_t_before, .ref a_t_beforeF, .ref a_t_aside, .ref a_t_asideF, .ref a_t_saved, .ref a_t_savedF, .int t_isSaved, .ref a_t_past, .ref a_t_pastF, .int t_pastMany, .int t_boiled, .int t_thrown, .ref a_t_refused, .ref a_t_text, .int t_length, .int t_error, .ref a_t_signs, .ref a_t_numbers, .int t_tokens, .int t_spoons, .int t_mostSpoons, .ref a_t_row, .ref a_t_isBrothOn, .ref a_t_dramsOn, .ref a_t_brothOn, .int t_cause, .int t_causeDetail, .ref a_t_lowOn, .ref a_t_highOn, .ref a_t_lowStored, .ref a_t_highStored, .ref a_t_isBrothStored, .int t_storeMany, .ref a_t_step, .ref a_t_stepF, .ref a_t_line, .int t_lineMany]))]) [0] rfl) ((hD.sub [0] (by decide) rfl).weaken (fun _ _ _ _ => trivial))) (cV hta lm_X12_149 md_X12_fails ⟨(Nat.le_of_ble_eq_true rfl), (Nat.le_of_ble_eq_true rfl)⟩) ⟨fbK, va_recv hK hP (ci := 15) (q0 := 0) rfl rfl, fun U hU hW => ⟨rfl, hU, va_K.moved hW.alike hK⟩⟩ rfl rfl hl.1 rfl (lv_room (Nat.le_of_ble_eq_true rfl)) dX12_doLadle_30 ⟨(Nat.le_of_ble_eq_true rfl), (Nat.le_of_ble_eq_true rfl)⟩) hS hA hP hD [0] rfl [.inl 0, .inr 1, .inr 2] rfl rfl rfl (fun H locs hP hD hS => ?_)
      have ho := Option.some.inj h
      exact W.iret (v := r6.1) hx hb hr (fun t ht hW => ⟨⟨r6.1, (), rfl, by rw [← ho], by show va_P (dC, dI) vwCl _ t.heap; rw [ht, ← ho]; exact hP⟩, hS.F ht⟩) hS.2.2 dX12_doLadle_33
  · have h := (if_pos c0).symm.trans h
    refine lv_aload_n hx hb dX12_doLadle_8 rfl (lv_at hl 0 rfl) ?_
    refine lv_iconst (v := 1) hx hb dX12_doLadle_9 (by decide) ?_
    obtain ⟨r7, hq, h⟩ := gb_some h
    refine cxI (X2 := [(a_t, .inr (15, [.ref a_t_s, .ref a_t_f, .ref a_t_before, .ref a_t_beforeF, .ref a_t_aside, .ref a_t_asideF, .ref a_t_saved, .ref a_t_savedF, .int t_isSaved, .ref a_t_past, .ref a_t_pastF, .int t_pastMany, .int t_boiled, .int r7.2, .ref a_t_refused, .ref a_t_text, .int t_length, .int t_error, .ref a_t_signs, .ref a_t_numbers, .int t_tokens, .int t_spoons, .int t_mostSpoons, .ref a_t_row, .ref a_t_isBrothOn, .ref a_t_dramsOn, .ref a_t_brothOn, .int t_cause, .int t_causeDetail, .ref a_t_lowOn, .ref a_t_highOn, .ref a_t_lowStored, .ref a_t_highStored, .ref a_t_isBrothStored, .int t_storeMany, .ref a_t_step, .ref a_t_stepF, .ref a_t_line, .int t_lineMany])), (a_t_f, .inl (cT 4, 6, .inr (.inr (.inl t_f)))), (a_t_refused, .inl (cT 0, 4, .inl t_refused))]) (va_runV (As := [.int 1]) (rest := []) ⟨hx, hb, hml, hown, hta⟩ (c_X12_fails l dC dI cT hq (hP.sub (ws' := [(a_t, .inr (15, [.ref a_t_s, .ref a_t_f, .ref a_t_before, .ref a_t_beforeF, .ref a_t_aside, .ref a_t_asideF, .ref a_t_saved, .ref a_t_savedF, .int t_isSaved, .ref a_t_past, .ref a_t_pastF, .int t_pastMany, .int t_boiled, .int t_thrown, .ref a_t_refused, .ref a_t_text, .int t_length, .int t_error, .ref a_t_signs, .ref a_t_numbers, .int t_tokens, .int t_spoons, .int t_mostSpoons, .ref a_t_row, .ref a_t_isBrothOn, .ref a_t_dramsOn, .ref a_t_brothOn, .int t_cause, .int t_causeDetail, .ref a_t_lowOn, .ref a_t_highOn, .ref a_t_lowStored, .ref a_t_highStored, .ref a_t_isBrothStored, .int t_storeMany, .ref a_t_step, .ref a_t_stepF, .ref a_t_line, .int t_lineMany]))]) [0] rfl) ((hD.sub [0] (by decide) rfl).weaken (fun _ _ _ _ => trivial))) (cV hta lm_X12_149 md_X12_fails ⟨(Nat.le_of_ble_eq_true rfl), (Nat.le_of_ble_eq_true rfl)⟩) ⟨fbK, va_recv hK hP (ci := 15) (q0 := 0) rfl rfl, fun U hU hW => ⟨rfl, hU, va_K.moved hW.alike hK⟩⟩ rfl rfl hl.1 rfl (lv_room (Nat.le_of_ble_eq_true rfl)) dX12_doLadle_10 ⟨(Nat.le_of_ble_eq_true rfl), (Nat.le_of_ble_eq_true rfl)⟩) hS hA hP hD [0] rfl [.inl 0, .inr 1, .inr 2] rfl rfl rfl (fun H locs hP hD hS => ?_)
    have ho := Option.some.inj h
    exact W.iret (v := r7.1) hx hb hr (fun t ht hW => ⟨⟨r7.1, (), rfl, by rw [← ho], by show va_P (dC, dI) vwCl _ t.heap; rw [ht, ← ho]; exact hP⟩, hS.F ht⟩) hS.2.2 dX12_doLadle_13
def g_X12_ladle (t_pastMany : Int32) (t_thrown : Int32) (t_s : Nat → Int32) (t_before : Nat → Int32) (t_f : Nat → UInt32) (t_beforeF : Nat → UInt32) (t_refused : Nat → Int32) (t_past : Nat → Int32) (t_pastF : Nat → UInt32) (p1 : Int32) (p2 : Int32) : Option (Int32 × Int32 × Int32 × (Nat → Int32) × (Nat → Int32) × (Nat → UInt32) × (Nat → UInt32) × (Nat → Int32) × (Nat → Int32) × (Nat → UInt32)) :=
  gb (g_X12_keep t_thrown t_s t_before t_f t_beforeF) fun r1 =>
  gb (g_X12_doLadle r1.1 t_s t_f t_refused p1 p2) fun r2 =>
  gb (g_X12_ends t_pastMany r2.2.1 t_past t_pastF r1.2.1 t_s r1.2.2 r2.2.2.1 r2.1) fun r3 =>
  some (r3.1, r3.2.1, r2.2.1, r3.2.2.2.2.1, r1.2.1, r3.2.2.2.2.2, r1.2.2, r2.2.2.2, r3.2.2.1, r3.2.2.2.1)
set_option maxHeartbeats 4000000 in
set_option maxRecDepth 100000 in
theorem c_X12_ladle (l : Launch) (dC : Nat → ClassId) (dI : Nat → Nat → Nat) (cT : Nat → ClassId) {Hh : Heap} {a_t : Nat} {a_t_s : Nat} {a_t_before : Nat} {a_t_f : Nat} {a_t_beforeF : Nat} {a_t_refused : Nat} {a_t_past : Nat} {a_t_pastF : Nat} {a_t_aside : Nat} {a_t_asideF : Nat} {a_t_saved : Nat} {a_t_savedF : Nat} {a_t_text : Nat} {a_t_signs : Nat} {a_t_numbers : Nat} {a_t_row : Nat} {a_t_isBrothOn : Nat} {a_t_dramsOn : Nat} {a_t_brothOn : Nat} {a_t_lowOn : Nat} {a_t_highOn : Nat} {a_t_lowStored : Nat} {a_t_highStored : Nat} {a_t_isBrothStored : Nat} {a_t_step : Nat} {a_t_stepF : Nat} {a_t_line : Nat} {t_pastMany : Int32} {t_thrown : Int32} {t_s : Nat → Int32} {t_before : Nat → Int32} {t_f : Nat → UInt32} {t_beforeF : Nat → UInt32} {t_refused : Nat → Int32} {t_past : Nat → Int32} {t_pastF : Nat → UInt32} {p1 : Int32} {p2 : Int32} {t_isSaved : Int32} {t_boiled : Int32} {t_length : Int32} {t_error : Int32} {t_tokens : Int32} {t_spoons : Int32} {t_mostSpoons : Int32} {t_cause : Int32} {t_causeDetail : Int32} {t_storeMany : Int32} {t_lineMany : Int32} {o : Int32 × Int32 × Int32 × (Nat → Int32) × (Nat → Int32) × (Nat → UInt32) × (Nat → UInt32) × (Nat → Int32) × (Nat → Int32) × (Nat → UInt32)} (h : g_X12_ladle t_pastMany t_thrown t_s t_before t_f t_beforeF t_refused t_past t_pastF p1 p2 = some o) (hP0 : va_P (dC, dI) vwCl [(a_t, .inr (15, [.ref a_t_s, .ref a_t_f, .ref a_t_before, .ref a_t_beforeF, .ref a_t_aside, .ref a_t_asideF, .ref a_t_saved, .ref a_t_savedF, .int t_isSaved, .ref a_t_past, .ref a_t_pastF, .int t_pastMany, .int t_boiled, .int t_thrown, .ref a_t_refused, .ref a_t_text, .int t_length, .int t_error, .ref a_t_signs, .ref a_t_numbers, .int t_tokens, .int t_spoons, .int t_mostSpoons, .ref a_t_row, .ref a_t_isBrothOn, .ref a_t_dramsOn, .ref a_t_brothOn, .int t_cause, .int t_causeDetail, .ref a_t_lowOn, .ref a_t_highOn, .ref a_t_lowStored, .ref a_t_highStored, .ref a_t_isBrothStored, .int t_storeMany, .ref a_t_step, .ref a_t_stepF, .ref a_t_line, .int t_lineMany])), (a_t_s, .inl (cT 0, 282, .inl t_s)), (a_t_before, .inl (cT 0, 282, .inl t_before)), (a_t_f, .inl (cT 4, 6, .inr (.inr (.inl t_f)))), (a_t_beforeF, .inl (cT 4, 6, .inr (.inr (.inl t_beforeF)))), (a_t_refused, .inl (cT 0, 4, .inl t_refused)), (a_t_past, .inl (cT 0, 1692, .inl t_past)), (a_t_pastF, .inl (cT 4, 36, .inr (.inr (.inl t_pastF))))] Hh) (hD0 : va_D (fun _ => True) [(a_t, .inr (15, [.ref a_t_s, .ref a_t_f, .ref a_t_before, .ref a_t_beforeF, .ref a_t_aside, .ref a_t_asideF, .ref a_t_saved, .ref a_t_savedF, .int t_isSaved, .ref a_t_past, .ref a_t_pastF, .int t_pastMany, .int t_boiled, .int t_thrown, .ref a_t_refused, .ref a_t_text, .int t_length, .int t_error, .ref a_t_signs, .ref a_t_numbers, .int t_tokens, .int t_spoons, .int t_mostSpoons, .ref a_t_row, .ref a_t_isBrothOn, .ref a_t_dramsOn, .ref a_t_brothOn, .int t_cause, .int t_causeDetail, .ref a_t_lowOn, .ref a_t_highOn, .ref a_t_lowStored, .ref a_t_highStored, .ref a_t_isBrothStored, .int t_storeMany, .ref a_t_step, .ref a_t_stepF, .ref a_t_line, .int t_lineMany])), (a_t_s, .inl (cT 0, 282, .inl t_s)), (a_t_before, .inl (cT 0, 282, .inl t_before)), (a_t_f, .inl (cT 4, 6, .inr (.inr (.inl t_f)))), (a_t_beforeF, .inl (cT 4, 6, .inr (.inr (.inl t_beforeF)))), (a_t_refused, .inl (cT 0, 4, .inl t_refused)), (a_t_past, .inl (cT 0, 1692, .inl t_past)), (a_t_pastF, .inl (cT 4, 36, .inr (.inr (.inl t_pastF))))]) : Met l yX12_ladle (wA yX12_ladle cX12_ladle 3 (some .int)) ({ frames := 3, cells := 0, slots := 0, locals := 73 } : Room) (PK dC dI cT [.ref a_t, .int p1, .int p2] Hh) (va_Qi (fun x (_ : Unit) => x = o.1) (fun _ t => va_P (dC, dI) vwCl [(a_t, .inr (15, [.ref a_t_s, .ref a_t_f, .ref a_t_before, .ref a_t_beforeF, .ref a_t_aside, .ref a_t_asideF, .ref a_t_saved, .ref a_t_savedF, .int t_isSaved, .ref a_t_past, .ref a_t_pastF, .int o.2.1, .int t_boiled, .int o.2.2.1, .ref a_t_refused, .ref a_t_text, .int t_length, .int t_error, .ref a_t_signs, .ref a_t_numbers, .int t_tokens, .int t_spoons, .int t_mostSpoons, .ref a_t_row, .ref a_t_isBrothOn, .ref a_t_dramsOn, .ref a_t_brothOn, .int t_cause, .int t_causeDetail, .ref a_t_lowOn, .ref a_t_highOn, .ref a_t_lowStored, .ref a_t_highStored, .ref a_t_isBrothStored, .int t_storeMany, .ref a_t_step, .ref a_t_stepF, .ref a_t_line, .int t_lineMany])), (a_t_s, .inl (cT 0, 282, .inl o.2.2.2.1)), (a_t_before, .inl (cT 0, 282, .inl o.2.2.2.2.1)), (a_t_f, .inl (cT 4, 6, .inr (.inr (.inl o.2.2.2.2.2.1)))), (a_t_beforeF, .inl (cT 4, 6, .inr (.inr (.inl o.2.2.2.2.2.2.1)))), (a_t_refused, .inl (cT 0, 4, .inl o.2.2.2.2.2.2.2.1)), (a_t_past, .inl (cT 0, 1692, .inl o.2.2.2.2.2.2.2.2.1)), (a_t_pastF, .inl (cT 4, 36, .inr (.inr (.inl o.2.2.2.2.2.2.2.2.2))))] t.heap) (va_A [(a_t, .inr (15, [.ref a_t_s, .ref a_t_f, .ref a_t_before, .ref a_t_beforeF, .ref a_t_aside, .ref a_t_asideF, .ref a_t_saved, .ref a_t_savedF, .int t_isSaved, .ref a_t_past, .ref a_t_pastF, .int t_pastMany, .int t_boiled, .int t_thrown, .ref a_t_refused, .ref a_t_text, .int t_length, .int t_error, .ref a_t_signs, .ref a_t_numbers, .int t_tokens, .int t_spoons, .int t_mostSpoons, .ref a_t_row, .ref a_t_isBrothOn, .ref a_t_dramsOn, .ref a_t_brothOn, .int t_cause, .int t_causeDetail, .ref a_t_lowOn, .ref a_t_highOn, .ref a_t_lowStored, .ref a_t_highStored, .ref a_t_isBrothStored, .int t_storeMany, .ref a_t_step, .ref a_t_stepF, .ref a_t_line, .int t_lineMany])), (a_t_s, .inl (cT 0, 282, .inl t_s)), (a_t_before, .inl (cT 0, 282, .inl t_before)), (a_t_f, .inl (cT 4, 6, .inr (.inr (.inl t_f)))), (a_t_beforeF, .inl (cT 4, 6, .inr (.inr (.inl t_beforeF)))), (a_t_refused, .inl (cT 0, 4, .inl t_refused)), (a_t_past, .inl (cT 0, 1692, .inl t_past)), (a_t_pastF, .inl (cT 4, 36, .inr (.inr (.inl t_pastF))))] Hh.size)) 0 0 (va_A [(a_t, .inr (15, [.ref a_t_s, .ref a_t_f, .ref a_t_before, .ref a_t_beforeF, .ref a_t_aside, .ref a_t_asideF, .ref a_t_saved, .ref a_t_savedF, .int t_isSaved, .ref a_t_past, .ref a_t_pastF, .int t_pastMany, .int t_boiled, .int t_thrown, .ref a_t_refused, .ref a_t_text, .int t_length, .int t_error, .ref a_t_signs, .ref a_t_numbers, .int t_tokens, .int t_spoons, .int t_mostSpoons, .ref a_t_row, .ref a_t_isBrothOn, .ref a_t_dramsOn, .ref a_t_brothOn, .int t_cause, .int t_causeDetail, .ref a_t_lowOn, .ref a_t_highOn, .ref a_t_lowStored, .ref a_t_highStored, .ref a_t_isBrothStored, .int t_storeMany, .ref a_t_step, .ref a_t_stepF, .ref a_t_line, .int t_lineMany])), (a_t_s, .inl (cT 0, 282, .inl t_s)), (a_t_before, .inl (cT 0, 282, .inl t_before)), (a_t_f, .inl (cT 4, 6, .inr (.inr (.inl t_f)))), (a_t_beforeF, .inl (cT 4, 6, .inr (.inr (.inl t_beforeF)))), (a_t_refused, .inl (cT 0, 4, .inl t_refused)), (a_t_past, .inl (cT 0, 1692, .inl t_past)), (a_t_pastF, .inl (cT 4, 36, .inr (.inr (.inl t_pastF))))] Hh.size) := by
  refine Met.ofW (cc := cX12_ladle) (maxL := 3) (ret := (some .int)) (by decide) rfl ?_
  intro p e s m args below meth c s₁ B hml hv
  obtain ⟨rfl, hH, hK⟩ := hv
  subst hH
  have hx := B.exec
  have hb := B.bytes
  have hr := B.returns
  have hta : ∀ w ∈ ALLW, w.before [.ref a_t, .int p1, .int p2].toArray s = true := fun w hw => atoms_spec (ws := wA yX12_ladle cX12_ladle 3 (some .int)) B.pre w (List.mem_cons_of_mem _ hw)
  have hown : s.vm.findClass RX12 = some m.cls := findClass_of_methodNamed B.named
  have hlocks := B.notSynchronized
  have hD := hD0.self (sz := s.heap.size)
  generalize hAe : va_A [(a_t, .inr (15, [.ref a_t_s, .ref a_t_f, .ref a_t_before, .ref a_t_beforeF, .ref a_t_aside, .ref a_t_asideF, .ref a_t_saved, .ref a_t_savedF, .int t_isSaved, .ref a_t_past, .ref a_t_pastF, .int t_pastMany, .int t_boiled, .int t_thrown, .ref a_t_refused, .ref a_t_text, .int t_length, .int t_error, .ref a_t_signs, .ref a_t_numbers, .int t_tokens, .int t_spoons, .int t_mostSpoons, .ref a_t_row, .ref a_t_isBrothOn, .ref a_t_dramsOn, .ref a_t_brothOn, .int t_cause, .int t_causeDetail, .ref a_t_lowOn, .ref a_t_highOn, .ref a_t_lowStored, .ref a_t_highStored, .ref a_t_isBrothStored, .int t_storeMany, .ref a_t_step, .ref a_t_stepF, .ref a_t_line, .int t_lineMany])), (a_t_s, .inl (cT 0, 282, .inl t_s)), (a_t_before, .inl (cT 0, 282, .inl t_before)), (a_t_f, .inl (cT 4, 6, .inr (.inr (.inl t_f)))), (a_t_beforeF, .inl (cT 4, 6, .inr (.inr (.inl t_beforeF)))), (a_t_refused, .inl (cT 0, 4, .inl t_refused)), (a_t_past, .inl (cT 0, 1692, .inl t_past)), (a_t_pastF, .inl (cT 4, 36, .inr (.inr (.inl t_pastF))))] s.heap.size = A at hD ⊢
  have hP := hP0
  have hA : ∀ q : Nat, s.heap.size ≤ q → A q := fun q h => by rw [← hAe]; exact Or.inr h
  have hS : va_S A s.heap s.heap [] := va_S.rf
  have hl := lv_entry [.ref a_t, .int p1, .int p2] (n := 3) (Nat.le_of_ble_eq_true rfl)
  rw [lg_entry_eq]
  generalize (lg_sl [.ref a_t, .int p1, .int p2] ++ List.replicate (3 - (lg_sl [.ref a_t, .int p1, .int p2]).length) Slot.unset).toArray = ls at hl ⊢
  have hl : lv_has ls 3 [(0, .ref a_t), (1, .int p1), (2, .int p2)] := hl
  unfold g_X12_ladle at h
  refine lv_aload_n hx hb dX12_ladle_0 rfl (lv_at hl 0 rfl) ?_
  obtain ⟨r1, hq, h⟩ := gb_some h
  refine cxV (X2 := [(a_t, .inr (15, [.ref a_t_s, .ref a_t_f, .ref a_t_before, .ref a_t_beforeF, .ref a_t_aside, .ref a_t_asideF, .ref a_t_saved, .ref a_t_savedF, .int t_isSaved, .ref a_t_past, .ref a_t_pastF, .int t_pastMany, .int t_boiled, .int r1.1, .ref a_t_refused, .ref a_t_text, .int t_length, .int t_error, .ref a_t_signs, .ref a_t_numbers, .int t_tokens, .int t_spoons, .int t_mostSpoons, .ref a_t_row, .ref a_t_isBrothOn, .ref a_t_dramsOn, .ref a_t_brothOn, .int t_cause, .int t_causeDetail, .ref a_t_lowOn, .ref a_t_highOn, .ref a_t_lowStored, .ref a_t_highStored, .ref a_t_isBrothStored, .int t_storeMany, .ref a_t_step, .ref a_t_stepF, .ref a_t_line, .int t_lineMany])), (a_t_s, .inl (cT 0, 282, .inl t_s)), (a_t_before, .inl (cT 0, 282, .inl r1.2.1)), (a_t_f, .inl (cT 4, 6, .inr (.inr (.inl t_f)))), (a_t_beforeF, .inl (cT 4, 6, .inr (.inr (.inl r1.2.2)))), (a_t_refused, .inl (cT 0, 4, .inl t_refused)), (a_t_past, .inl (cT 0, 1692, .inl t_past)), (a_t_pastF, .inl (cT 4, 36, .inr (.inr (.inl t_pastF))))]) (va_runV (As := []) (rest := []) ⟨hx, hb, hml, hown, hta⟩ (c_X12_keep l dC dI cT hq (hP.sub (ws' := [(a_t, .inr (15, [.ref a_t_s, .ref a_t_f, .ref a_t_before, .ref a_t_beforeF, .ref a_t_aside, .ref a_t_asideF, .ref a_t_saved, .ref a_t_savedF, .int t_isSaved, .ref a_t_past, .ref a_t_pastF, .int t_pastMany, .int t_boiled, .int t_thrown, .ref a_t_refused, .ref a_t_text, .int t_length, .int t_error, .ref a_t_signs, .ref a_t_numbers, .int t_tokens, .int t_spoons, .int t_mostSpoons, .ref a_t_row, .ref a_t_isBrothOn, .ref a_t_dramsOn, .ref a_t_brothOn, .int t_cause, .int t_causeDetail, .ref a_t_lowOn, .ref a_t_highOn, .ref a_t_lowStored, .ref a_t_highStored, .ref a_t_isBrothStored, .int t_storeMany, .ref a_t_step, .ref a_t_stepF, .ref a_t_line, .int t_lineMany])), (a_t_s, .inl (cT 0, 282, .inl t_s)), (a_t_before, .inl (cT 0, 282, .inl t_before)), (a_t_f, .inl (cT 4, 6, .inr (.inr (.inl t_f)))), (a_t_beforeF, .inl (cT 4, 6, .inr (.inr (.inl t_beforeF))))]) [0, 1, 2, 3, 4] rfl) ((hD.sub [0, 1, 2, 3, 4] (by decide) rfl).weaken (fun _ _ _ _ => trivial))) (cV hta lm_X12_138 md_X12_keep ⟨(Nat.le_of_ble_eq_true rfl), (Nat.le_of_ble_eq_true rfl)⟩) ⟨fbK, va_recv hK hP (ci := 15) (q0 := 0) rfl rfl, fun U hU hW => ⟨rfl, hU, va_K.moved hW.alike hK⟩⟩ rfl rfl hl.1 rfl (lv_room (Nat.le_of_ble_eq_true rfl)) dX12_ladle_1 ⟨(Nat.le_of_ble_eq_true rfl), (Nat.le_of_ble_eq_true rfl)⟩) hS hA hP hD [0, 1, 2, 3, 4] rfl [.inl 0, .inl 1, .inl 2, .inl 3, .inl 4, .inr 5, .inr 6, .inr 7] rfl rfl rfl (fun H locs hP hD hS => ?_)
  refine lv_aload_n hx hb dX12_ladle_4 rfl (lv_at hl 0 rfl) ?_
  refine lv_aload_n hx hb dX12_ladle_5 rfl (lv_at hl 0 rfl) ?_
  refine lv_iload_n hx hb dX12_ladle_6 rfl (lv_at hl 1 rfl) ?_
  refine lv_iload_n hx hb dX12_ladle_7 rfl (lv_at hl 2 rfl) ?_
  obtain ⟨r2, hq, h⟩ := gb_some h
  refine cxI (X2 := [(a_t, .inr (15, [.ref a_t_s, .ref a_t_f, .ref a_t_before, .ref a_t_beforeF, .ref a_t_aside, .ref a_t_asideF, .ref a_t_saved, .ref a_t_savedF, .int t_isSaved, .ref a_t_past, .ref a_t_pastF, .int t_pastMany, .int t_boiled, .int r2.2.1, .ref a_t_refused, .ref a_t_text, .int t_length, .int t_error, .ref a_t_signs, .ref a_t_numbers, .int t_tokens, .int t_spoons, .int t_mostSpoons, .ref a_t_row, .ref a_t_isBrothOn, .ref a_t_dramsOn, .ref a_t_brothOn, .int t_cause, .int t_causeDetail, .ref a_t_lowOn, .ref a_t_highOn, .ref a_t_lowStored, .ref a_t_highStored, .ref a_t_isBrothStored, .int t_storeMany, .ref a_t_step, .ref a_t_stepF, .ref a_t_line, .int t_lineMany])), (a_t_s, .inl (cT 0, 282, .inl t_s)), (a_t_before, .inl (cT 0, 282, .inl r1.2.1)), (a_t_f, .inl (cT 4, 6, .inr (.inr (.inl r2.2.2.1)))), (a_t_beforeF, .inl (cT 4, 6, .inr (.inr (.inl r1.2.2)))), (a_t_refused, .inl (cT 0, 4, .inl r2.2.2.2)), (a_t_past, .inl (cT 0, 1692, .inl t_past)), (a_t_pastF, .inl (cT 4, 36, .inr (.inr (.inl t_pastF))))]) (va_runV (As := [.int p1, .int p2]) (rest := [.ref a_t]) ⟨hx, hb, hml, hown, hta⟩ (c_X12_doLadle l dC dI cT hq (hP.sub (ws' := [(a_t, .inr (15, [.ref a_t_s, .ref a_t_f, .ref a_t_before, .ref a_t_beforeF, .ref a_t_aside, .ref a_t_asideF, .ref a_t_saved, .ref a_t_savedF, .int t_isSaved, .ref a_t_past, .ref a_t_pastF, .int t_pastMany, .int t_boiled, .int r1.1, .ref a_t_refused, .ref a_t_text, .int t_length, .int t_error, .ref a_t_signs, .ref a_t_numbers, .int t_tokens, .int t_spoons, .int t_mostSpoons, .ref a_t_row, .ref a_t_isBrothOn, .ref a_t_dramsOn, .ref a_t_brothOn, .int t_cause, .int t_causeDetail, .ref a_t_lowOn, .ref a_t_highOn, .ref a_t_lowStored, .ref a_t_highStored, .ref a_t_isBrothStored, .int t_storeMany, .ref a_t_step, .ref a_t_stepF, .ref a_t_line, .int t_lineMany])), (a_t_f, .inl (cT 4, 6, .inr (.inr (.inl t_f)))), (a_t_refused, .inl (cT 0, 4, .inl t_refused))]) [0, 3, 5] rfl) (hP.sub (ws' := [(a_t_s, .inl (cT 0, 282, .inl t_s))]) [1] rfl) ((hD.sub [0, 3, 5] (by decide) rfl).weaken (fun _ _ _ _ => trivial)) (nac hP hD [0, 3, 5] rfl (va_free hD hS hA [0, 3, 5] rfl) na_nil [.inr 1] rfl rfl)) (cV hta lm_X12_181 md_X12_doLadle ⟨(Nat.le_of_ble_eq_true rfl), (Nat.le_of_ble_eq_true rfl)⟩) ⟨fbK, va_recv hK hP (ci := 15) (q0 := 0) rfl rfl, fun U hU hW => ⟨rfl, hU, va_K.moved hW.alike hK⟩⟩ rfl rfl hl.1 rfl (lv_room (Nat.le_of_ble_eq_true rfl)) dX12_ladle_8 ⟨(Nat.le_of_ble_eq_true rfl), (Nat.le_of_ble_eq_true rfl)⟩) hS hA hP hD [0, 3, 5] rfl [.inl 0, .inr 1, .inr 2, .inl 1, .inr 4, .inl 2, .inr 6, .inr 7] rfl rfl rfl (fun H locs hP hD hS => ?_)
  obtain ⟨r3, hq, h⟩ := gb_some h
  refine cxI (X2 := [(a_t, .inr (15, [.ref a_t_s, .ref a_t_f, .ref a_t_before, .ref a_t_beforeF, .ref a_t_aside, .ref a_t_asideF, .ref a_t_saved, .ref a_t_savedF, .int t_isSaved, .ref a_t_past, .ref a_t_pastF, .int r3.2.1, .int t_boiled, .int r2.2.1, .ref a_t_refused, .ref a_t_text, .int t_length, .int t_error, .ref a_t_signs, .ref a_t_numbers, .int t_tokens, .int t_spoons, .int t_mostSpoons, .ref a_t_row, .ref a_t_isBrothOn, .ref a_t_dramsOn, .ref a_t_brothOn, .int t_cause, .int t_causeDetail, .ref a_t_lowOn, .ref a_t_highOn, .ref a_t_lowStored, .ref a_t_highStored, .ref a_t_isBrothStored, .int t_storeMany, .ref a_t_step, .ref a_t_stepF, .ref a_t_line, .int t_lineMany])), (a_t_s, .inl (cT 0, 282, .inl r3.2.2.2.2.1)), (a_t_before, .inl (cT 0, 282, .inl r1.2.1)), (a_t_f, .inl (cT 4, 6, .inr (.inr (.inl r3.2.2.2.2.2)))), (a_t_beforeF, .inl (cT 4, 6, .inr (.inr (.inl r1.2.2)))), (a_t_refused, .inl (cT 0, 4, .inl r2.2.2.2)), (a_t_past, .inl (cT 0, 1692, .inl r3.2.2.1)), (a_t_pastF, .inl (cT 4, 36, .inr (.inr (.inl r3.2.2.2.1))))]) (va_runV (As := [.int r2.1]) (rest := []) ⟨hx, hb, hml, hown, hta⟩ (c_X12_ends l dC dI cT hq (hP.sub (ws' := [(a_t, .inr (15, [.ref a_t_s, .ref a_t_f, .ref a_t_before, .ref a_t_beforeF, .ref a_t_aside, .ref a_t_asideF, .ref a_t_saved, .ref a_t_savedF, .int t_isSaved, .ref a_t_past, .ref a_t_pastF, .int t_pastMany, .int t_boiled, .int r2.2.1, .ref a_t_refused, .ref a_t_text, .int t_length, .int t_error, .ref a_t_signs, .ref a_t_numbers, .int t_tokens, .int t_spoons, .int t_mostSpoons, .ref a_t_row, .ref a_t_isBrothOn, .ref a_t_dramsOn, .ref a_t_brothOn, .int t_cause, .int t_causeDetail, .ref a_t_lowOn, .ref a_t_highOn, .ref a_t_lowStored, .ref a_t_highStored, .ref a_t_isBrothStored, .int t_storeMany, .ref a_t_step, .ref a_t_stepF, .ref a_t_line, .int t_lineMany])), (a_t_past, .inl (cT 0, 1692, .inl t_past)), (a_t_pastF, .inl (cT 4, 36, .inr (.inr (.inl t_pastF)))), (a_t_before, .inl (cT 0, 282, .inl r1.2.1)), (a_t_s, .inl (cT 0, 282, .inl t_s)), (a_t_beforeF, .inl (cT 4, 6, .inr (.inr (.inl r1.2.2)))), (a_t_f, .inl (cT 4, 6, .inr (.inr (.inl r2.2.2.1))))]) [0, 6, 7, 2, 1, 4, 3] rfl) ((hD.sub [0, 6, 7, 2, 1, 4, 3] (by decide) rfl).weaken (fun _ _ _ _ => trivial))) (cV hta lm_X12_153 md_X12_ends ⟨(Nat.le_of_ble_eq_true rfl), (Nat.le_of_ble_eq_true rfl)⟩) ⟨fbK, va_recv hK hP (ci := 15) (q0 := 0) rfl rfl, fun U hU hW => ⟨rfl, hU, va_K.moved hW.alike hK⟩⟩ rfl rfl hl.1 rfl (lv_room (Nat.le_of_ble_eq_true rfl)) dX12_ladle_11 ⟨(Nat.le_of_ble_eq_true rfl), (Nat.le_of_ble_eq_true rfl)⟩) hS hA hP hD [0, 6, 7, 2, 1, 4, 3] rfl [.inl 0, .inl 4, .inl 3, .inl 6, .inl 5, .inr 5, .inl 1, .inl 2] rfl rfl rfl (fun H locs hP hD hS => ?_)
  have ho := Option.some.inj h
  exact W.iret (v := r3.1) hx hb hr (fun t ht hW => ⟨⟨r3.1, (), rfl, by rw [← ho], by show va_P (dC, dI) vwCl _ t.heap; rw [ht, ← ho]; exact hP⟩, hS.F ht⟩) hS.2.2 dX12_ladle_14
def g_X12_adds_b100 (t_spoons : Int32) (t_mostSpoons : Int32) (t_numbers_100 : Nat → Int32) (t_signs_100 : Nat → Int32) (t_tokens_100 : Int32) (x5_100 : Int32) (s2_100 : Int32) : Option (Int32 × Int32 × Int32 × Int32 × (Nat → Int32) × (Nat → Int32)) :=
  gl (t_spoons + s2_100) fun v1 =>
  gl (if t_mostSpoons < v1 then v1 else t_mostSpoons) fun v2 =>
  gc (bo x5_100) <|
  some (x5_100, t_tokens_100, v1, v2, t_signs_100, t_numbers_100)
def g_X12_adds_b80 (t_tokens : Int32) (t_spoons : Int32) (t_mostSpoons : Int32) (p4 : Int32) (t_numbers_80 : Nat → Int32) (t_signs_80 : Nat → Int32) (x5_80 : Int32) (s2_80 : Int32) : Option (Int32 × Int32 × Int32 × Int32 × (Nat → Int32) × (Nat → Int32)) :=
  gl (t_tokens + s2_80) fun v3 =>
  if x5_80 = 0 then
    g_X12_adds_b100 t_spoons t_mostSpoons t_numbers_80 t_signs_80 v3 x5_80 0
  else
    g_X12_adds_b100 t_spoons t_mostSpoons t_numbers_80 t_signs_80 v3 x5_80 p4
def g_X12_adds_b43 (t_tokens : Int32) (t_spoons : Int32) (t_mostSpoons : Int32) (t_signs : Nat → Int32) (t_numbers : Nat → Int32) (p1 : Int32) (p2 : Int32) (p4 : Int32) (s0_43 : Int32) : Option (Int32 × Int32 × Int32 × Int32 × (Nat → Int32) × (Nat → Int32)) :=
  gc (inb t_tokens 60) <|
  gc (inb t_tokens 60) <|
  if s0_43 = 0 then
    g_X12_adds_b80 t_tokens t_spoons t_mostSpoons p4 (upd t_numbers t_tokens.toNatClampNeg p2) (upd t_signs t_tokens.toNatClampNeg (vp_nar .char p1)) s0_43 0
  else
    g_X12_adds_b80 t_tokens t_spoons t_mostSpoons p4 (upd t_numbers t_tokens.toNatClampNeg p2) (upd t_signs t_tokens.toNatClampNeg (vp_nar .char p1)) s0_43 1
def g_X12_adds_b42 (t_tokens : Int32) (t_spoons : Int32) (t_mostSpoons : Int32) (t_signs : Nat → Int32) (t_numbers : Nat → Int32) (p1 : Int32) (p2 : Int32) (p4 : Int32) : Option (Int32 × Int32 × Int32 × Int32 × (Nat → Int32) × (Nat → Int32)) :=
  g_X12_adds_b43 t_tokens t_spoons t_mostSpoons t_signs t_numbers p1 p2 p4 0
def g_X12_adds (t_tokens : Int32) (t_spoons : Int32) (t_mostSpoons : Int32) (t_signs : Nat → Int32) (t_numbers : Nat → Int32) (p1 : Int32) (p2 : Int32) (p3 : Int32) (p4 : Int32) : Option (Int32 × Int32 × Int32 × Int32 × (Nat → Int32) × (Nat → Int32)) :=
  if t_spoons < p3 then
    g_X12_adds_b42 t_tokens t_spoons t_mostSpoons t_signs t_numbers p1 p2 p4
  else
    if 5 < (t_spoons + p4) then
      g_X12_adds_b42 t_tokens t_spoons t_mostSpoons t_signs t_numbers p1 p2 p4
    else
      if 24 < (((t_tokens + 1) + t_spoons) + p4) then
        g_X12_adds_b42 t_tokens t_spoons t_mostSpoons t_signs t_numbers p1 p2 p4
      else
        g_X12_adds_b43 t_tokens t_spoons t_mostSpoons t_signs t_numbers p1 p2 p4 1
set_option maxHeartbeats 4000000 in
set_option maxRecDepth 100000 in
theorem c_X12_adds (l : Launch) (dC : Nat → ClassId) (dI : Nat → Nat → Nat) (cT : Nat → ClassId) {Hh : Heap} {a_t : Nat} {a_t_signs : Nat} {a_t_numbers : Nat} {a_t_s : Nat} {a_t_f : Nat} {a_t_before : Nat} {a_t_beforeF : Nat} {a_t_aside : Nat} {a_t_asideF : Nat} {a_t_saved : Nat} {a_t_savedF : Nat} {a_t_past : Nat} {a_t_pastF : Nat} {a_t_refused : Nat} {a_t_text : Nat} {a_t_row : Nat} {a_t_isBrothOn : Nat} {a_t_dramsOn : Nat} {a_t_brothOn : Nat} {a_t_lowOn : Nat} {a_t_highOn : Nat} {a_t_lowStored : Nat} {a_t_highStored : Nat} {a_t_isBrothStored : Nat} {a_t_step : Nat} {a_t_stepF : Nat} {a_t_line : Nat} {t_tokens : Int32} {t_spoons : Int32} {t_mostSpoons : Int32} {t_signs : Nat → Int32} {t_numbers : Nat → Int32} {p1 : Int32} {p2 : Int32} {p3 : Int32} {p4 : Int32} {t_isSaved : Int32} {t_pastMany : Int32} {t_boiled : Int32} {t_thrown : Int32} {t_length : Int32} {t_error : Int32} {t_cause : Int32} {t_causeDetail : Int32} {t_storeMany : Int32} {t_lineMany : Int32} {o : Int32 × Int32 × Int32 × Int32 × (Nat → Int32) × (Nat → Int32)} (h : g_X12_adds t_tokens t_spoons t_mostSpoons t_signs t_numbers p1 p2 p3 p4 = some o) (hP0 : va_P (dC, dI) vwCl [(a_t, .inr (15, [.ref a_t_s, .ref a_t_f, .ref a_t_before, .ref a_t_beforeF, .ref a_t_aside, .ref a_t_asideF, .ref a_t_saved, .ref a_t_savedF, .int t_isSaved, .ref a_t_past, .ref a_t_pastF, .int t_pastMany, .int t_boiled, .int t_thrown, .ref a_t_refused, .ref a_t_text, .int t_length, .int t_error, .ref a_t_signs, .ref a_t_numbers, .int t_tokens, .int t_spoons, .int t_mostSpoons, .ref a_t_row, .ref a_t_isBrothOn, .ref a_t_dramsOn, .ref a_t_brothOn, .int t_cause, .int t_causeDetail, .ref a_t_lowOn, .ref a_t_highOn, .ref a_t_lowStored, .ref a_t_highStored, .ref a_t_isBrothStored, .int t_storeMany, .ref a_t_step, .ref a_t_stepF, .ref a_t_line, .int t_lineMany])), (a_t_signs, .inl (cT 2, 60, .inl t_signs)), (a_t_numbers, .inl (cT 0, 60, .inl t_numbers))] Hh) (hD0 : va_D (fun _ => True) [(a_t, .inr (15, [.ref a_t_s, .ref a_t_f, .ref a_t_before, .ref a_t_beforeF, .ref a_t_aside, .ref a_t_asideF, .ref a_t_saved, .ref a_t_savedF, .int t_isSaved, .ref a_t_past, .ref a_t_pastF, .int t_pastMany, .int t_boiled, .int t_thrown, .ref a_t_refused, .ref a_t_text, .int t_length, .int t_error, .ref a_t_signs, .ref a_t_numbers, .int t_tokens, .int t_spoons, .int t_mostSpoons, .ref a_t_row, .ref a_t_isBrothOn, .ref a_t_dramsOn, .ref a_t_brothOn, .int t_cause, .int t_causeDetail, .ref a_t_lowOn, .ref a_t_highOn, .ref a_t_lowStored, .ref a_t_highStored, .ref a_t_isBrothStored, .int t_storeMany, .ref a_t_step, .ref a_t_stepF, .ref a_t_line, .int t_lineMany])), (a_t_signs, .inl (cT 2, 60, .inl t_signs)), (a_t_numbers, .inl (cT 0, 60, .inl t_numbers))]) : Met l yX12_adds (wA yX12_adds cX12_adds 6 (some .boolean)) ({ frames := 1, cells := 0, slots := 0, locals := 21 } : Room) (PK dC dI cT [.ref a_t, .int p1, .int p2, .int p3, .int p4] Hh) (va_Qi (fun x (_ : Unit) => x = o.1) (fun _ t => va_P (dC, dI) vwCl [(a_t, .inr (15, [.ref a_t_s, .ref a_t_f, .ref a_t_before, .ref a_t_beforeF, .ref a_t_aside, .ref a_t_asideF, .ref a_t_saved, .ref a_t_savedF, .int t_isSaved, .ref a_t_past, .ref a_t_pastF, .int t_pastMany, .int t_boiled, .int t_thrown, .ref a_t_refused, .ref a_t_text, .int t_length, .int t_error, .ref a_t_signs, .ref a_t_numbers, .int o.2.1, .int o.2.2.1, .int o.2.2.2.1, .ref a_t_row, .ref a_t_isBrothOn, .ref a_t_dramsOn, .ref a_t_brothOn, .int t_cause, .int t_causeDetail, .ref a_t_lowOn, .ref a_t_highOn, .ref a_t_lowStored, .ref a_t_highStored, .ref a_t_isBrothStored, .int t_storeMany, .ref a_t_step, .ref a_t_stepF, .ref a_t_line, .int t_lineMany])), (a_t_signs, .inl (cT 2, 60, .inl o.2.2.2.2.1)), (a_t_numbers, .inl (cT 0, 60, .inl o.2.2.2.2.2))] t.heap) (va_A [(a_t, .inr (15, [.ref a_t_s, .ref a_t_f, .ref a_t_before, .ref a_t_beforeF, .ref a_t_aside, .ref a_t_asideF, .ref a_t_saved, .ref a_t_savedF, .int t_isSaved, .ref a_t_past, .ref a_t_pastF, .int t_pastMany, .int t_boiled, .int t_thrown, .ref a_t_refused, .ref a_t_text, .int t_length, .int t_error, .ref a_t_signs, .ref a_t_numbers, .int t_tokens, .int t_spoons, .int t_mostSpoons, .ref a_t_row, .ref a_t_isBrothOn, .ref a_t_dramsOn, .ref a_t_brothOn, .int t_cause, .int t_causeDetail, .ref a_t_lowOn, .ref a_t_highOn, .ref a_t_lowStored, .ref a_t_highStored, .ref a_t_isBrothStored, .int t_storeMany, .ref a_t_step, .ref a_t_stepF, .ref a_t_line, .int t_lineMany])), (a_t_signs, .inl (cT 2, 60, .inl t_signs)), (a_t_numbers, .inl (cT 0, 60, .inl t_numbers))] Hh.size)) 0 0 (va_A [(a_t, .inr (15, [.ref a_t_s, .ref a_t_f, .ref a_t_before, .ref a_t_beforeF, .ref a_t_aside, .ref a_t_asideF, .ref a_t_saved, .ref a_t_savedF, .int t_isSaved, .ref a_t_past, .ref a_t_pastF, .int t_pastMany, .int t_boiled, .int t_thrown, .ref a_t_refused, .ref a_t_text, .int t_length, .int t_error, .ref a_t_signs, .ref a_t_numbers, .int t_tokens, .int t_spoons, .int t_mostSpoons, .ref a_t_row, .ref a_t_isBrothOn, .ref a_t_dramsOn, .ref a_t_brothOn, .int t_cause, .int t_causeDetail, .ref a_t_lowOn, .ref a_t_highOn, .ref a_t_lowStored, .ref a_t_highStored, .ref a_t_isBrothStored, .int t_storeMany, .ref a_t_step, .ref a_t_stepF, .ref a_t_line, .int t_lineMany])), (a_t_signs, .inl (cT 2, 60, .inl t_signs)), (a_t_numbers, .inl (cT 0, 60, .inl t_numbers))] Hh.size) := by
  refine Met.ofW (cc := cX12_adds) (maxL := 6) (ret := (some .boolean)) (by decide) rfl ?_
  intro p e s m args below meth c s₁ B hml hv
  obtain ⟨rfl, hH, hK⟩ := hv
  subst hH
  have hx := B.exec
  have hb := B.bytes
  have hr := B.returns
  have hta : ∀ w ∈ ALLW, w.before [.ref a_t, .int p1, .int p2, .int p3, .int p4].toArray s = true := fun w hw => atoms_spec (ws := wA yX12_adds cX12_adds 6 (some .boolean)) B.pre w (List.mem_cons_of_mem _ hw)
  have hown : s.vm.findClass RX12 = some m.cls := findClass_of_methodNamed B.named
  have hlocks := B.notSynchronized
  have hD := hD0.self (sz := s.heap.size)
  generalize hAe : va_A [(a_t, .inr (15, [.ref a_t_s, .ref a_t_f, .ref a_t_before, .ref a_t_beforeF, .ref a_t_aside, .ref a_t_asideF, .ref a_t_saved, .ref a_t_savedF, .int t_isSaved, .ref a_t_past, .ref a_t_pastF, .int t_pastMany, .int t_boiled, .int t_thrown, .ref a_t_refused, .ref a_t_text, .int t_length, .int t_error, .ref a_t_signs, .ref a_t_numbers, .int t_tokens, .int t_spoons, .int t_mostSpoons, .ref a_t_row, .ref a_t_isBrothOn, .ref a_t_dramsOn, .ref a_t_brothOn, .int t_cause, .int t_causeDetail, .ref a_t_lowOn, .ref a_t_highOn, .ref a_t_lowStored, .ref a_t_highStored, .ref a_t_isBrothStored, .int t_storeMany, .ref a_t_step, .ref a_t_stepF, .ref a_t_line, .int t_lineMany])), (a_t_signs, .inl (cT 2, 60, .inl t_signs)), (a_t_numbers, .inl (cT 0, 60, .inl t_numbers))] s.heap.size = A at hD ⊢
  have hP := hP0
  have hA : ∀ q : Nat, s.heap.size ≤ q → A q := fun q h => by rw [← hAe]; exact Or.inr h
  have hS : va_S A s.heap s.heap [] := va_S.rf
  have hl := lv_entry [.ref a_t, .int p1, .int p2, .int p3, .int p4] (n := 6) (Nat.le_of_ble_eq_true rfl)
  rw [lg_entry_eq]
  generalize (lg_sl [.ref a_t, .int p1, .int p2, .int p3, .int p4] ++ List.replicate (6 - (lg_sl [.ref a_t, .int p1, .int p2, .int p3, .int p4]).length) Slot.unset).toArray = ls at hl ⊢
  have hl : lv_has ls 6 [(0, .ref a_t), (1, .int p1), (2, .int p2), (3, .int p3), (4, .int p4)] := hl
  obtain ⟨Q, hQ⟩ : ∃ Q, Q = MQ below (va_Qi (fun x (_ : Unit) => x = o.1) (fun _ t => va_P (dC, dI) vwCl [(a_t, .inr (15, [.ref a_t_s, .ref a_t_f, .ref a_t_before, .ref a_t_beforeF, .ref a_t_aside, .ref a_t_asideF, .ref a_t_saved, .ref a_t_savedF, .int t_isSaved, .ref a_t_past, .ref a_t_pastF, .int t_pastMany, .int t_boiled, .int t_thrown, .ref a_t_refused, .ref a_t_text, .int t_length, .int t_error, .ref a_t_signs, .ref a_t_numbers, .int o.2.1, .int o.2.2.1, .int o.2.2.2.1, .ref a_t_row, .ref a_t_isBrothOn, .ref a_t_dramsOn, .ref a_t_brothOn, .int t_cause, .int t_causeDetail, .ref a_t_lowOn, .ref a_t_highOn, .ref a_t_lowStored, .ref a_t_highStored, .ref a_t_isBrothStored, .int t_storeMany, .ref a_t_step, .ref a_t_stepF, .ref a_t_line, .int t_lineMany])), (a_t_signs, .inl (cT 2, 60, .inl o.2.2.2.2.1)), (a_t_numbers, .inl (cT 0, 60, .inl o.2.2.2.2.2))] t.heap) A) [.ref a_t, .int p1, .int p2, .int p3, .int p4].toArray s 0 0 A := ⟨_, rfl⟩
  rw [← hQ]
  have wB_100 : ∀ (t_numbers_100 : Nat → Int32) (t_signs_100 : Nat → Int32) (t_tokens_100 : Int32) (x5_100 : Int32) (s2_100 : Int32) (H : Heap) (locs : List Loc) (ls : Array Slot), g_X12_adds_b100 t_spoons t_mostSpoons t_numbers_100 t_signs_100 t_tokens_100 x5_100 s2_100 = some o → va_P (dC, dI) vwCl [(a_t, .inr (15, [.ref a_t_s, .ref a_t_f, .ref a_t_before, .ref a_t_beforeF, .ref a_t_aside, .ref a_t_asideF, .ref a_t_saved, .ref a_t_savedF, .int t_isSaved, .ref a_t_past, .ref a_t_pastF, .int t_pastMany, .int t_boiled, .int t_thrown, .ref a_t_refused, .ref a_t_text, .int t_length, .int t_error, .ref a_t_signs, .ref a_t_numbers, .int t_tokens_100, .int t_spoons, .int t_mostSpoons, .ref a_t_row, .ref a_t_isBrothOn, .ref a_t_dramsOn, .ref a_t_brothOn, .int t_cause, .int t_causeDetail, .ref a_t_lowOn, .ref a_t_highOn, .ref a_t_lowStored, .ref a_t_highStored, .ref a_t_isBrothStored, .int t_storeMany, .ref a_t_step, .ref a_t_stepF, .ref a_t_line, .int t_lineMany])), (a_t_signs, .inl (cT 2, 60, .inl t_signs_100)), (a_t_numbers, .inl (cT 0, 60, .inl t_numbers_100))] H → va_D A [(a_t, .inr (15, [.ref a_t_s, .ref a_t_f, .ref a_t_before, .ref a_t_beforeF, .ref a_t_aside, .ref a_t_asideF, .ref a_t_saved, .ref a_t_savedF, .int t_isSaved, .ref a_t_past, .ref a_t_pastF, .int t_pastMany, .int t_boiled, .int t_thrown, .ref a_t_refused, .ref a_t_text, .int t_length, .int t_error, .ref a_t_signs, .ref a_t_numbers, .int t_tokens_100, .int t_spoons, .int t_mostSpoons, .ref a_t_row, .ref a_t_isBrothOn, .ref a_t_dramsOn, .ref a_t_brothOn, .int t_cause, .int t_causeDetail, .ref a_t_lowOn, .ref a_t_highOn, .ref a_t_lowStored, .ref a_t_highStored, .ref a_t_isBrothStored, .int t_storeMany, .ref a_t_step, .ref a_t_stepF, .ref a_t_line, .int t_lineMany])), (a_t_signs, .inl (cT 2, 60, .inl t_signs_100)), (a_t_numbers, .inl (cT 0, 60, .inl t_numbers_100))] → va_S A s.heap H locs → lv_has ls 6 [(0, .ref a_t), (5, .int x5_100)] → W p l e ({ frames := 1, cells := 0, slots := 0, locals := 21 } : Room) s m [.ref a_t, .int p1, .int p2, .int p3, .int p4].toArray below meth c H locs 0 0 Q (F0 m 100 ls [.int s2_100, .int t_spoons, .ref a_t]) := by
    intro t_numbers_100 t_signs_100 t_tokens_100 x5_100 s2_100 H locs ls h hP hD hS hl
    unfold g_X12_adds_b100 at h
    refine lv_iadd hx hb dX12_adds_100 ?_
    refine lv_topi (fun v1 e_v1 => ?_)
    have h := gl_use e_v1 h
    refine va_put (D := (dC, dI)) (ci := 15) (v := .int v1) (ty := .int) (C := RX12) (T := TX12) (N := 39) hx hb hta inX12w tyX12 tyX12_ok nmX12 hown hK hP hD hS 0 rfl rfl 21 (by decide) (hta _ lk_X12_198) (fun _ h9 => h9) rfl (by decide +kernel) rfl rfl (Nat.le_of_ble_eq_true rfl) dX12_adds_101 (fun H locs hP hD hS => ?_)
    have hP : va_P (dC, dI) vwCl [(a_t, .inr (15, [.ref a_t_s, .ref a_t_f, .ref a_t_before, .ref a_t_beforeF, .ref a_t_aside, .ref a_t_asideF, .ref a_t_saved, .ref a_t_savedF, .int t_isSaved, .ref a_t_past, .ref a_t_pastF, .int t_pastMany, .int t_boiled, .int t_thrown, .ref a_t_refused, .ref a_t_text, .int t_length, .int t_error, .ref a_t_signs, .ref a_t_numbers, .int t_tokens_100, .int v1, .int t_mostSpoons, .ref a_t_row, .ref a_t_isBrothOn, .ref a_t_dramsOn, .ref a_t_brothOn, .int t_cause, .int t_causeDetail, .ref a_t_lowOn, .ref a_t_highOn, .ref a_t_lowStored, .ref a_t_highStored, .ref a_t_isBrothStored, .int t_storeMany, .ref a_t_step, .ref a_t_stepF, .ref a_t_line, .int t_lineMany])), (a_t_signs, .inl (cT 2, 60, .inl t_signs_100)), (a_t_numbers, .inl (cT 0, 60, .inl t_numbers_100))] H := hP
    have hD : va_D A [(a_t, .inr (15, [.ref a_t_s, .ref a_t_f, .ref a_t_before, .ref a_t_beforeF, .ref a_t_aside, .ref a_t_asideF, .ref a_t_saved, .ref a_t_savedF, .int t_isSaved, .ref a_t_past, .ref a_t_pastF, .int t_pastMany, .int t_boiled, .int t_thrown, .ref a_t_refused, .ref a_t_text, .int t_length, .int t_error, .ref a_t_signs, .ref a_t_numbers, .int t_tokens_100, .int v1, .int t_mostSpoons, .ref a_t_row, .ref a_t_isBrothOn, .ref a_t_dramsOn, .ref a_t_brothOn, .int t_cause, .int t_causeDetail, .ref a_t_lowOn, .ref a_t_highOn, .ref a_t_lowStored, .ref a_t_highStored, .ref a_t_isBrothStored, .int t_storeMany, .ref a_t_step, .ref a_t_stepF, .ref a_t_line, .int t_lineMany])), (a_t_signs, .inl (cT 2, 60, .inl t_signs_100)), (a_t_numbers, .inl (cT 0, 60, .inl t_numbers_100))] := hD
    refine lv_aload_n hx hb dX12_adds_104 rfl (lv_at hl 0 rfl) ?_
    refine lv_aload_n hx hb dX12_adds_105 rfl (lv_at hl 0 rfl) ?_
    refine va_get (D := (dC, dI)) (ci := 15) (v := .int t_mostSpoons) (C := RX12) (T := TX12) (N := 39) hx hb hta inX12w hown hK hP 0 rfl rfl 22 (by decide) (hta _ lk_X12_204) (fun _ h9 => h9) rfl dX12_adds_106 ?_
    refine lv_aload_n hx hb dX12_adds_109 rfl (lv_at hl 0 rfl) ?_
    refine va_get (D := (dC, dI)) (ci := 15) (v := .int v1) (C := RX12) (T := TX12) (N := 39) hx hb hta inX12w hown hK hP 0 rfl rfl 21 (by decide) (hta _ lk_X12_198) (fun _ h9 => h9) rfl dX12_adds_110 ?_
    refine va_mmax hx hb (hml.trans hl.1.symm) hown (hta _ lm_X12_135) (hta _ mth_maxint_s) (hta _ mth_i) (hta _ mth_maxint_c) (Nat.le_of_ble_eq_true rfl) (Nat.le_of_ble_eq_true rfl) (Nat.le_of_ble_eq_true rfl) (Nat.le_of_ble_eq_true rfl) dX12_adds_113 ?_
    refine lv_topi (fun v2 e_v2 => ?_)
    have h := gl_use e_v2 h
    refine va_put (D := (dC, dI)) (ci := 15) (v := .int v2) (ty := .int) (C := RX12) (T := TX12) (N := 39) hx hb hta inX12w tyX12 tyX12_ok nmX12 hown hK hP hD hS 0 rfl rfl 22 (by decide) (hta _ lk_X12_204) (fun _ h9 => h9) rfl (by decide +kernel) rfl rfl (Nat.le_of_ble_eq_true rfl) dX12_adds_116 (fun H locs hP hD hS => ?_)
    have hP : va_P (dC, dI) vwCl [(a_t, .inr (15, [.ref a_t_s, .ref a_t_f, .ref a_t_before, .ref a_t_beforeF, .ref a_t_aside, .ref a_t_asideF, .ref a_t_saved, .ref a_t_savedF, .int t_isSaved, .ref a_t_past, .ref a_t_pastF, .int t_pastMany, .int t_boiled, .int t_thrown, .ref a_t_refused, .ref a_t_text, .int t_length, .int t_error, .ref a_t_signs, .ref a_t_numbers, .int t_tokens_100, .int v1, .int v2, .ref a_t_row, .ref a_t_isBrothOn, .ref a_t_dramsOn, .ref a_t_brothOn, .int t_cause, .int t_causeDetail, .ref a_t_lowOn, .ref a_t_highOn, .ref a_t_lowStored, .ref a_t_highStored, .ref a_t_isBrothStored, .int t_storeMany, .ref a_t_step, .ref a_t_stepF, .ref a_t_line, .int t_lineMany])), (a_t_signs, .inl (cT 2, 60, .inl t_signs_100)), (a_t_numbers, .inl (cT 0, 60, .inl t_numbers_100))] H := hP
    have hD : va_D A [(a_t, .inr (15, [.ref a_t_s, .ref a_t_f, .ref a_t_before, .ref a_t_beforeF, .ref a_t_aside, .ref a_t_asideF, .ref a_t_saved, .ref a_t_savedF, .int t_isSaved, .ref a_t_past, .ref a_t_pastF, .int t_pastMany, .int t_boiled, .int t_thrown, .ref a_t_refused, .ref a_t_text, .int t_length, .int t_error, .ref a_t_signs, .ref a_t_numbers, .int t_tokens_100, .int v1, .int v2, .ref a_t_row, .ref a_t_isBrothOn, .ref a_t_dramsOn, .ref a_t_brothOn, .int t_cause, .int t_causeDetail, .ref a_t_lowOn, .ref a_t_highOn, .ref a_t_lowStored, .ref a_t_highStored, .ref a_t_isBrothStored, .int t_storeMany, .ref a_t_step, .ref a_t_stepF, .ref a_t_line, .int t_lineMany])), (a_t_signs, .inl (cT 2, 60, .inl t_signs_100)), (a_t_numbers, .inl (cT 0, 60, .inl t_numbers_100))] := hD
    refine lv_iload hx hb dX12_adds_119 (lv_at hl 1 rfl) ?_
    obtain ⟨hc, h⟩ := gc_some h
    have ho := Option.some.inj h
    rw [hQ]
    exact W.zret (ty := .boolean) (v := x5_100) hx hb hr (bo_n hc) (fun t ht hW => ⟨⟨x5_100, (), rfl, by rw [← ho], by show va_P (dC, dI) vwCl _ t.heap; rw [ht, ← ho]; exact hP⟩, hS.F ht⟩) hS.2.2 dX12_adds_121
  have wB_80 : ∀ (t_numbers_80 : Nat → Int32) (t_signs_80 : Nat → Int32) (x5_80 : Int32) (s2_80 : Int32) (H : Heap) (locs : List Loc) (ls : Array Slot), g_X12_adds_b80 t_tokens t_spoons t_mostSpoons p4 t_numbers_80 t_signs_80 x5_80 s2_80 = some o → va_P (dC, dI) vwCl [(a_t, .inr (15, [.ref a_t_s, .ref a_t_f, .ref a_t_before, .ref a_t_beforeF, .ref a_t_aside, .ref a_t_asideF, .ref a_t_saved, .ref a_t_savedF, .int t_isSaved, .ref a_t_past, .ref a_t_pastF, .int t_pastMany, .int t_boiled, .int t_thrown, .ref a_t_refused, .ref a_t_text, .int t_length, .int t_error, .ref a_t_signs, .ref a_t_numbers, .int t_tokens, .int t_spoons, .int t_mostSpoons, .ref a_t_row, .ref a_t_isBrothOn, .ref a_t_dramsOn, .ref a_t_brothOn, .int t_cause, .int t_causeDetail, .ref a_t_lowOn, .ref a_t_highOn, .ref a_t_lowStored, .ref a_t_highStored, .ref a_t_isBrothStored, .int t_storeMany, .ref a_t_step, .ref a_t_stepF, .ref a_t_line, .int t_lineMany])), (a_t_signs, .inl (cT 2, 60, .inl t_signs_80)), (a_t_numbers, .inl (cT 0, 60, .inl t_numbers_80))] H → va_D A [(a_t, .inr (15, [.ref a_t_s, .ref a_t_f, .ref a_t_before, .ref a_t_beforeF, .ref a_t_aside, .ref a_t_asideF, .ref a_t_saved, .ref a_t_savedF, .int t_isSaved, .ref a_t_past, .ref a_t_pastF, .int t_pastMany, .int t_boiled, .int t_thrown, .ref a_t_refused, .ref a_t_text, .int t_length, .int t_error, .ref a_t_signs, .ref a_t_numbers, .int t_tokens, .int t_spoons, .int t_mostSpoons, .ref a_t_row, .ref a_t_isBrothOn, .ref a_t_dramsOn, .ref a_t_brothOn, .int t_cause, .int t_causeDetail, .ref a_t_lowOn, .ref a_t_highOn, .ref a_t_lowStored, .ref a_t_highStored, .ref a_t_isBrothStored, .int t_storeMany, .ref a_t_step, .ref a_t_stepF, .ref a_t_line, .int t_lineMany])), (a_t_signs, .inl (cT 2, 60, .inl t_signs_80)), (a_t_numbers, .inl (cT 0, 60, .inl t_numbers_80))] → va_S A s.heap H locs → lv_has ls 6 [(0, .ref a_t), (4, .int p4), (5, .int x5_80)] → W p l e ({ frames := 1, cells := 0, slots := 0, locals := 21 } : Room) s m [.ref a_t, .int p1, .int p2, .int p3, .int p4].toArray below meth c H locs 0 0 Q (F0 m 80 ls [.int s2_80, .int t_tokens, .ref a_t]) := by
    intro t_numbers_80 t_signs_80 x5_80 s2_80 H locs ls h hP hD hS hl
    unfold g_X12_adds_b80 at h
    refine lv_iadd hx hb dX12_adds_80 ?_
    refine lv_topi (fun v3 e_v3 => ?_)
    have h := gl_use e_v3 h
    refine va_put (D := (dC, dI)) (ci := 15) (v := .int v3) (ty := .int) (C := RX12) (T := TX12) (N := 39) hx hb hta inX12w tyX12 tyX12_ok nmX12 hown hK hP hD hS 0 rfl rfl 20 (by decide) (hta _ lk_X12_201) (fun _ h9 => h9) rfl (by decide +kernel) rfl rfl (Nat.le_of_ble_eq_true rfl) dX12_adds_81 (fun H locs hP hD hS => ?_)
    have hP : va_P (dC, dI) vwCl [(a_t, .inr (15, [.ref a_t_s, .ref a_t_f, .ref a_t_before, .ref a_t_beforeF, .ref a_t_aside, .ref a_t_asideF, .ref a_t_saved, .ref a_t_savedF, .int t_isSaved, .ref a_t_past, .ref a_t_pastF, .int t_pastMany, .int t_boiled, .int t_thrown, .ref a_t_refused, .ref a_t_text, .int t_length, .int t_error, .ref a_t_signs, .ref a_t_numbers, .int v3, .int t_spoons, .int t_mostSpoons, .ref a_t_row, .ref a_t_isBrothOn, .ref a_t_dramsOn, .ref a_t_brothOn, .int t_cause, .int t_causeDetail, .ref a_t_lowOn, .ref a_t_highOn, .ref a_t_lowStored, .ref a_t_highStored, .ref a_t_isBrothStored, .int t_storeMany, .ref a_t_step, .ref a_t_stepF, .ref a_t_line, .int t_lineMany])), (a_t_signs, .inl (cT 2, 60, .inl t_signs_80)), (a_t_numbers, .inl (cT 0, 60, .inl t_numbers_80))] H := hP
    have hD : va_D A [(a_t, .inr (15, [.ref a_t_s, .ref a_t_f, .ref a_t_before, .ref a_t_beforeF, .ref a_t_aside, .ref a_t_asideF, .ref a_t_saved, .ref a_t_savedF, .int t_isSaved, .ref a_t_past, .ref a_t_pastF, .int t_pastMany, .int t_boiled, .int t_thrown, .ref a_t_refused, .ref a_t_text, .int t_length, .int t_error, .ref a_t_signs, .ref a_t_numbers, .int v3, .int t_spoons, .int t_mostSpoons, .ref a_t_row, .ref a_t_isBrothOn, .ref a_t_dramsOn, .ref a_t_brothOn, .int t_cause, .int t_causeDetail, .ref a_t_lowOn, .ref a_t_highOn, .ref a_t_lowStored, .ref a_t_highStored, .ref a_t_isBrothStored, .int t_storeMany, .ref a_t_step, .ref a_t_stepF, .ref a_t_line, .int t_lineMany])), (a_t_signs, .inl (cT 2, 60, .inl t_signs_80)), (a_t_numbers, .inl (cT 0, 60, .inl t_numbers_80))] := hD
    refine lv_aload_n hx hb dX12_adds_84 rfl (lv_at hl 0 rfl) ?_
    refine lv_dup hx hb dX12_adds_85 rfl ?_
    refine va_get (D := (dC, dI)) (ci := 15) (v := .int t_spoons) (C := RX12) (T := TX12) (N := 39) hx hb hta inX12w hown hK hP 0 rfl rfl 21 (by decide) (hta _ lk_X12_198) (fun _ h9 => h9) rfl dX12_adds_86 ?_
    refine lv_iload hx hb dX12_adds_89 (lv_at hl 2 rfl) ?_
    refine lv_if_eq (tgt := 99) hx hb dX12_adds_91 (by decide) (fun c0 => ?_) (fun c0 => ?_)
    · have h := (if_pos c0).symm.trans h
      refine lv_iconst (v := 0) hx hb dX12_adds_99 (by decide) ?_
      exact wB_100 t_numbers_80 t_signs_80 v3 x5_80 0 _ _ _ h hP hD hS (lv_sub hl [0, 2] rfl)
    · have h := (if_neg c0).symm.trans h
      refine lv_iload hx hb dX12_adds_94 (lv_at hl 1 rfl) ?_
      refine lv_goto (tgt := 100) hx hb dX12_adds_96 (by decide) ?_
      exact wB_100 t_numbers_80 t_signs_80 v3 x5_80 p4 _ _ _ h hP hD hS (lv_sub hl [0, 2] rfl)
  have wB_43 : ∀ (s0_43 : Int32) (H : Heap) (locs : List Loc) (ls : Array Slot), g_X12_adds_b43 t_tokens t_spoons t_mostSpoons t_signs t_numbers p1 p2 p4 s0_43 = some o → va_P (dC, dI) vwCl [(a_t, .inr (15, [.ref a_t_s, .ref a_t_f, .ref a_t_before, .ref a_t_beforeF, .ref a_t_aside, .ref a_t_asideF, .ref a_t_saved, .ref a_t_savedF, .int t_isSaved, .ref a_t_past, .ref a_t_pastF, .int t_pastMany, .int t_boiled, .int t_thrown, .ref a_t_refused, .ref a_t_text, .int t_length, .int t_error, .ref a_t_signs, .ref a_t_numbers, .int t_tokens, .int t_spoons, .int t_mostSpoons, .ref a_t_row, .ref a_t_isBrothOn, .ref a_t_dramsOn, .ref a_t_brothOn, .int t_cause, .int t_causeDetail, .ref a_t_lowOn, .ref a_t_highOn, .ref a_t_lowStored, .ref a_t_highStored, .ref a_t_isBrothStored, .int t_storeMany, .ref a_t_step, .ref a_t_stepF, .ref a_t_line, .int t_lineMany])), (a_t_signs, .inl (cT 2, 60, .inl t_signs)), (a_t_numbers, .inl (cT 0, 60, .inl t_numbers))] H → va_D A [(a_t, .inr (15, [.ref a_t_s, .ref a_t_f, .ref a_t_before, .ref a_t_beforeF, .ref a_t_aside, .ref a_t_asideF, .ref a_t_saved, .ref a_t_savedF, .int t_isSaved, .ref a_t_past, .ref a_t_pastF, .int t_pastMany, .int t_boiled, .int t_thrown, .ref a_t_refused, .ref a_t_text, .int t_length, .int t_error, .ref a_t_signs, .ref a_t_numbers, .int t_tokens, .int t_spoons, .int t_mostSpoons, .ref a_t_row, .ref a_t_isBrothOn, .ref a_t_dramsOn, .ref a_t_brothOn, .int t_cause, .int t_causeDetail, .ref a_t_lowOn, .ref a_t_highOn, .ref a_t_lowStored, .ref a_t_highStored, .ref a_t_isBrothStored, .int t_storeMany, .ref a_t_step, .ref a_t_stepF, .ref a_t_line, .int t_lineMany])), (a_t_signs, .inl (cT 2, 60, .inl t_signs)), (a_t_numbers, .inl (cT 0, 60, .inl t_numbers))] → va_S A s.heap H locs → lv_has ls 6 [(0, .ref a_t), (1, .int p1), (2, .int p2), (4, .int p4)] → W p l e ({ frames := 1, cells := 0, slots := 0, locals := 21 } : Room) s m [.ref a_t, .int p1, .int p2, .int p3, .int p4].toArray below meth c H locs 0 0 Q (F0 m 43 ls [.int s0_43]) := by
    intro s0_43 H locs ls h hP hD hS hl
    unfold g_X12_adds_b43 at h
    refine lv_istore (lv' := [(5, .int s0_43), (0, .ref a_t), (1, .int p1), (2, .int p2), (4, .int p4)]) hx hb dX12_adds_43 hl (by decide) rfl (fun ls hl => ?_)
    refine lv_aload_n hx hb dX12_adds_45 rfl (lv_at hl 1 rfl) ?_
    refine va_get (D := (dC, dI)) (ci := 15) (v := .ref a_t_signs) (C := RX12) (T := TX12) (N := 39) hx hb hta inX12w hown hK hP 0 rfl rfl 18 (by decide) (hta _ lk_X12_52) (fun _ h9 => h9) rfl dX12_adds_46 ?_
    refine lv_aload_n hx hb dX12_adds_49 rfl (lv_at hl 1 rfl) ?_
    refine va_get (D := (dC, dI)) (ci := 15) (v := .int t_tokens) (C := RX12) (T := TX12) (N := 39) hx hb hta inX12w hown hK hP 0 rfl rfl 20 (by decide) (hta _ lk_X12_201) (fun _ h9 => h9) rfl dX12_adds_50 ?_
    refine lv_iload_n hx hb dX12_adds_53 rfl (lv_at hl 2 rfl) ?_
    obtain ⟨hc, h⟩ := gc_some h
    refine va_cast hx hb hK hP hD hS 1 2 rfl rfl (inb_in hc) dX12_adds_54 (fun H locs hP hD hS => ?_)
    have hP : va_P (dC, dI) vwCl [(a_t, .inr (15, [.ref a_t_s, .ref a_t_f, .ref a_t_before, .ref a_t_beforeF, .ref a_t_aside, .ref a_t_asideF, .ref a_t_saved, .ref a_t_savedF, .int t_isSaved, .ref a_t_past, .ref a_t_pastF, .int t_pastMany, .int t_boiled, .int t_thrown, .ref a_t_refused, .ref a_t_text, .int t_length, .int t_error, .ref a_t_signs, .ref a_t_numbers, .int t_tokens, .int t_spoons, .int t_mostSpoons, .ref a_t_row, .ref a_t_isBrothOn, .ref a_t_dramsOn, .ref a_t_brothOn, .int t_cause, .int t_causeDetail, .ref a_t_lowOn, .ref a_t_highOn, .ref a_t_lowStored, .ref a_t_highStored, .ref a_t_isBrothStored, .int t_storeMany, .ref a_t_step, .ref a_t_stepF, .ref a_t_line, .int t_lineMany])), (a_t_signs, .inl (cT 2, 60, .inl (upd t_signs t_tokens.toNatClampNeg (vp_nar .char p1)))), (a_t_numbers, .inl (cT 0, 60, .inl t_numbers))] H := hP
    have hD : va_D A [(a_t, .inr (15, [.ref a_t_s, .ref a_t_f, .ref a_t_before, .ref a_t_beforeF, .ref a_t_aside, .ref a_t_asideF, .ref a_t_saved, .ref a_t_savedF, .int t_isSaved, .ref a_t_past, .ref a_t_pastF, .int t_pastMany, .int t_boiled, .int t_thrown, .ref a_t_refused, .ref a_t_text, .int t_length, .int t_error, .ref a_t_signs, .ref a_t_numbers, .int t_tokens, .int t_spoons, .int t_mostSpoons, .ref a_t_row, .ref a_t_isBrothOn, .ref a_t_dramsOn, .ref a_t_brothOn, .int t_cause, .int t_causeDetail, .ref a_t_lowOn, .ref a_t_highOn, .ref a_t_lowStored, .ref a_t_highStored, .ref a_t_isBrothStored, .int t_storeMany, .ref a_t_step, .ref a_t_stepF, .ref a_t_line, .int t_lineMany])), (a_t_signs, .inl (cT 2, 60, .inl (upd t_signs t_tokens.toNatClampNeg (vp_nar .char p1)))), (a_t_numbers, .inl (cT 0, 60, .inl t_numbers))] := hD
    refine lv_aload_n hx hb dX12_adds_55 rfl (lv_at hl 1 rfl) ?_
    refine va_get (D := (dC, dI)) (ci := 15) (v := .ref a_t_numbers) (C := RX12) (T := TX12) (N := 39) hx hb hta inX12w hown hK hP 0 rfl rfl 19 (by decide) (hta _ lk_X12_55) (fun _ h9 => h9) rfl dX12_adds_56 ?_
    refine lv_aload_n hx hb dX12_adds_59 rfl (lv_at hl 1 rfl) ?_
    refine va_get (D := (dC, dI)) (ci := 15) (v := .int t_tokens) (C := RX12) (T := TX12) (N := 39) hx hb hta inX12w hown hK hP 0 rfl rfl 20 (by decide) (hta _ lk_X12_201) (fun _ h9 => h9) rfl dX12_adds_60 ?_
    refine lv_iload_n hx hb dX12_adds_63 rfl (lv_at hl 3 rfl) ?_
    obtain ⟨hc, h⟩ := gc_some h
    refine va_iast hx hb hK hP hD hS 2 0 rfl rfl (inb_in hc) dX12_adds_64 (fun H locs hP hD hS => ?_)
    have hP : va_P (dC, dI) vwCl [(a_t, .inr (15, [.ref a_t_s, .ref a_t_f, .ref a_t_before, .ref a_t_beforeF, .ref a_t_aside, .ref a_t_asideF, .ref a_t_saved, .ref a_t_savedF, .int t_isSaved, .ref a_t_past, .ref a_t_pastF, .int t_pastMany, .int t_boiled, .int t_thrown, .ref a_t_refused, .ref a_t_text, .int t_length, .int t_error, .ref a_t_signs, .ref a_t_numbers, .int t_tokens, .int t_spoons, .int t_mostSpoons, .ref a_t_row, .ref a_t_isBrothOn, .ref a_t_dramsOn, .ref a_t_brothOn, .int t_cause, .int t_causeDetail, .ref a_t_lowOn, .ref a_t_highOn, .ref a_t_lowStored, .ref a_t_highStored, .ref a_t_isBrothStored, .int t_storeMany, .ref a_t_step, .ref a_t_stepF, .ref a_t_line, .int t_lineMany])), (a_t_signs, .inl (cT 2, 60, .inl (upd t_signs t_tokens.toNatClampNeg (vp_nar .char p1)))), (a_t_numbers, .inl (cT 0, 60, .inl (upd t_numbers t_tokens.toNatClampNeg p2)))] H := hP
    have hD : va_D A [(a_t, .inr (15, [.ref a_t_s, .ref a_t_f, .ref a_t_before, .ref a_t_beforeF, .ref a_t_aside, .ref a_t_asideF, .ref a_t_saved, .ref a_t_savedF, .int t_isSaved, .ref a_t_past, .ref a_t_pastF, .int t_pastMany, .int t_boiled, .int t_thrown, .ref a_t_refused, .ref a_t_text, .int t_length, .int t_error, .ref a_t_signs, .ref a_t_numbers, .int t_tokens, .int t_spoons, .int t_mostSpoons, .ref a_t_row, .ref a_t_isBrothOn, .ref a_t_dramsOn, .ref a_t_brothOn, .int t_cause, .int t_causeDetail, .ref a_t_lowOn, .ref a_t_highOn, .ref a_t_lowStored, .ref a_t_highStored, .ref a_t_isBrothStored, .int t_storeMany, .ref a_t_step, .ref a_t_stepF, .ref a_t_line, .int t_lineMany])), (a_t_signs, .inl (cT 2, 60, .inl (upd t_signs t_tokens.toNatClampNeg (vp_nar .char p1)))), (a_t_numbers, .inl (cT 0, 60, .inl (upd t_numbers t_tokens.toNatClampNeg p2)))] := hD
    refine lv_aload_n hx hb dX12_adds_65 rfl (lv_at hl 1 rfl) ?_
    refine lv_dup hx hb dX12_adds_66 rfl ?_
    refine va_get (D := (dC, dI)) (ci := 15) (v := .int t_tokens) (C := RX12) (T := TX12) (N := 39) hx hb hta inX12w hown hK hP 0 rfl rfl 20 (by decide) (hta _ lk_X12_201) (fun _ h9 => h9) rfl dX12_adds_67 ?_
    refine lv_iload hx hb dX12_adds_70 (lv_at hl 0 rfl) ?_
    refine lv_if_eq (tgt := 79) hx hb dX12_adds_72 (by decide) (fun c0 => ?_) (fun c0 => ?_)
    · have h := (if_pos c0).symm.trans h
      refine lv_iconst (v := 0) hx hb dX12_adds_79 (by decide) ?_
      exact wB_80 (upd t_numbers t_tokens.toNatClampNeg p2) (upd t_signs t_tokens.toNatClampNeg (vp_nar .char p1)) s0_43 0 _ _ _ h hP hD hS (lv_sub hl [1, 4, 0] rfl)
    · have h := (if_neg c0).symm.trans h
      refine lv_iconst (v := 1) hx hb dX12_adds_75 (by decide) ?_
      refine lv_goto (tgt := 80) hx hb dX12_adds_76 (by decide) ?_
      exact wB_80 (upd t_numbers t_tokens.toNatClampNeg p2) (upd t_signs t_tokens.toNatClampNeg (vp_nar .char p1)) s0_43 1 _ _ _ h hP hD hS (lv_sub hl [1, 4, 0] rfl)
  have wB_42 : ∀ (H : Heap) (locs : List Loc) (ls : Array Slot), g_X12_adds_b42 t_tokens t_spoons t_mostSpoons t_signs t_numbers p1 p2 p4 = some o → va_P (dC, dI) vwCl [(a_t, .inr (15, [.ref a_t_s, .ref a_t_f, .ref a_t_before, .ref a_t_beforeF, .ref a_t_aside, .ref a_t_asideF, .ref a_t_saved, .ref a_t_savedF, .int t_isSaved, .ref a_t_past, .ref a_t_pastF, .int t_pastMany, .int t_boiled, .int t_thrown, .ref a_t_refused, .ref a_t_text, .int t_length, .int t_error, .ref a_t_signs, .ref a_t_numbers, .int t_tokens, .int t_spoons, .int t_mostSpoons, .ref a_t_row, .ref a_t_isBrothOn, .ref a_t_dramsOn, .ref a_t_brothOn, .int t_cause, .int t_causeDetail, .ref a_t_lowOn, .ref a_t_highOn, .ref a_t_lowStored, .ref a_t_highStored, .ref a_t_isBrothStored, .int t_storeMany, .ref a_t_step, .ref a_t_stepF, .ref a_t_line, .int t_lineMany])), (a_t_signs, .inl (cT 2, 60, .inl t_signs)), (a_t_numbers, .inl (cT 0, 60, .inl t_numbers))] H → va_D A [(a_t, .inr (15, [.ref a_t_s, .ref a_t_f, .ref a_t_before, .ref a_t_beforeF, .ref a_t_aside, .ref a_t_asideF, .ref a_t_saved, .ref a_t_savedF, .int t_isSaved, .ref a_t_past, .ref a_t_pastF, .int t_pastMany, .int t_boiled, .int t_thrown, .ref a_t_refused, .ref a_t_text, .int t_length, .int t_error, .ref a_t_signs, .ref a_t_numbers, .int t_tokens, .int t_spoons, .int t_mostSpoons, .ref a_t_row, .ref a_t_isBrothOn, .ref a_t_dramsOn, .ref a_t_brothOn, .int t_cause, .int t_causeDetail, .ref a_t_lowOn, .ref a_t_highOn, .ref a_t_lowStored, .ref a_t_highStored, .ref a_t_isBrothStored, .int t_storeMany, .ref a_t_step, .ref a_t_stepF, .ref a_t_line, .int t_lineMany])), (a_t_signs, .inl (cT 2, 60, .inl t_signs)), (a_t_numbers, .inl (cT 0, 60, .inl t_numbers))] → va_S A s.heap H locs → lv_has ls 6 [(0, .ref a_t), (1, .int p1), (2, .int p2), (4, .int p4)] → W p l e ({ frames := 1, cells := 0, slots := 0, locals := 21 } : Room) s m [.ref a_t, .int p1, .int p2, .int p3, .int p4].toArray below meth c H locs 0 0 Q (F0 m 42 ls []) := by
    intro H locs ls h hP hD hS hl
    unfold g_X12_adds_b42 at h
    refine lv_iconst (v := 0) hx hb dX12_adds_42 (by decide) ?_
    exact wB_43 0 _ _ _ h hP hD hS (lv_sub hl [0, 1, 2, 3] rfl)
  unfold g_X12_adds at h
  refine lv_aload_n hx hb dX12_adds_0 rfl (lv_at hl 0 rfl) ?_
  refine va_get (D := (dC, dI)) (ci := 15) (v := .int t_spoons) (C := RX12) (T := TX12) (N := 39) hx hb hta inX12w hown hK hP 0 rfl rfl 21 (by decide) (hta _ lk_X12_198) (fun _ h9 => h9) rfl dX12_adds_1 ?_
  refine lv_iload_n hx hb dX12_adds_4 rfl (lv_at hl 3 rfl) ?_
  refine lv_icmp_lt (tgt := 42) hx hb dX12_adds_5 (by decide) (fun c0 => ?_) (fun c0 => ?_)
  · have h := (if_pos c0).symm.trans h
    exact wB_42 _ _ _ h hP hD hS (lv_sub hl [0, 1, 2, 4] rfl)
  · have h := (if_neg c0).symm.trans h
    refine lv_aload_n hx hb dX12_adds_8 rfl (lv_at hl 0 rfl) ?_
    refine va_get (D := (dC, dI)) (ci := 15) (v := .int t_spoons) (C := RX12) (T := TX12) (N := 39) hx hb hta inX12w hown hK hP 0 rfl rfl 21 (by decide) (hta _ lk_X12_198) (fun _ h9 => h9) rfl dX12_adds_9 ?_
    refine lv_iload hx hb dX12_adds_12 (lv_at hl 4 rfl) ?_
    refine lv_iadd hx hb dX12_adds_14 ?_
    refine lv_iconst (v := 5) hx hb dX12_adds_15 (by decide) ?_
    refine lv_icmp_gt (tgt := 42) hx hb dX12_adds_16 (by decide) (fun c0 => ?_) (fun c0 => ?_)
    · have h := (if_pos c0).symm.trans h
      exact wB_42 _ _ _ h hP hD hS (lv_sub hl [0, 1, 2, 4] rfl)
    · have h := (if_neg c0).symm.trans h
      refine lv_aload_n hx hb dX12_adds_19 rfl (lv_at hl 0 rfl) ?_
      refine va_get (D := (dC, dI)) (ci := 15) (v := .int t_tokens) (C := RX12) (T := TX12) (N := 39) hx hb hta inX12w hown hK hP 0 rfl rfl 20 (by decide) (hta _ lk_X12_201) (fun _ h9 => h9) rfl dX12_adds_20 ?_
      refine lv_iconst (v := 1) hx hb dX12_adds_23 (by decide) ?_
      refine lv_iadd hx hb dX12_adds_24 ?_
      refine lv_aload_n hx hb dX12_adds_25 rfl (lv_at hl 0 rfl) ?_
      refine va_get (D := (dC, dI)) (ci := 15) (v := .int t_spoons) (C := RX12) (T := TX12) (N := 39) hx hb hta inX12w hown hK hP 0 rfl rfl 21 (by decide) (hta _ lk_X12_198) (fun _ h9 => h9) rfl dX12_adds_26 ?_
      refine lv_iadd hx hb dX12_adds_29 ?_
      refine lv_iload hx hb dX12_adds_30 (lv_at hl 4 rfl) ?_
      refine lv_iadd hx hb dX12_adds_32 ?_
      refine lv_bipush (v := 24) hx hb dX12_adds_33 (by decide) ?_
      refine lv_icmp_gt (tgt := 42) hx hb dX12_adds_35 (by decide) (fun c0 => ?_) (fun c0 => ?_)
      · have h := (if_pos c0).symm.trans h
        exact wB_42 _ _ _ h hP hD hS (lv_sub hl [0, 1, 2, 4] rfl)
      · have h := (if_neg c0).symm.trans h
        refine lv_iconst (v := 1) hx hb dX12_adds_38 (by decide) ?_
        refine lv_goto (tgt := 43) hx hb dX12_adds_39 (by decide) ?_
        exact wB_43 1 _ _ _ h hP hD hS (lv_sub hl [0, 1, 2, 4] rfl)
def g_X12_reads_b295 (n_p1 : Nat) (p1 : Nat → Int32) (p2 : Int32) (p3 : Int32) (k24 : (Nat → Int32) → (Nat → Int32) → Int32 → Int32 → Int32 → Int32 → Int32 → Int32 → Option (Int32 × Int32 × Int32 × Int32 × (Nat → Int32) × (Nat → Int32))) (t_numbers_295 : Nat → Int32) (t_signs_295 : Nat → Int32) (t_tokens_295 : Int32) (t_spoons_295 : Int32) (t_mostSpoons_295 : Int32) (x10_295 : Int32) (x4_295 : Int32) (x5_295 : Int32) (x6_295 : Int32) : Option (Int32 × Int32 × Int32 × Int32 × (Nat → Int32) × (Nat → Int32)) :=
  if x10_295 = 0 then
    some (x6_295, t_tokens_295, t_spoons_295, t_mostSpoons_295, t_numbers_295, t_signs_295)
  else
    gl (x6_295 + 1) fun v1 =>
    k24 t_numbers_295 t_signs_295 t_tokens_295 t_spoons_295 t_mostSpoons_295 x4_295 x5_295 v1
def g_X12_reads_b293 (n_p1 : Nat) (p1 : Nat → Int32) (p2 : Int32) (p3 : Int32) (k24 : (Nat → Int32) → (Nat → Int32) → Int32 → Int32 → Int32 → Int32 → Int32 → Int32 → Option (Int32 × Int32 × Int32 × Int32 × (Nat → Int32) × (Nat → Int32))) (t_numbers_293 : Nat → Int32) (t_signs_293 : Nat → Int32) (t_tokens_293 : Int32) (t_spoons_293 : Int32) (t_mostSpoons_293 : Int32) (x10_293 : Int32) (x6_293 : Int32) (s0_293 : Int32) : Option (Int32 × Int32 × Int32 × Int32 × (Nat → Int32) × (Nat → Int32)) :=
  g_X12_reads_b295 n_p1 p1 p2 p3 k24 t_numbers_293 t_signs_293 t_tokens_293 t_spoons_293 t_mostSpoons_293 x10_293 0 s0_293 x6_293
def g_X12_reads_b276 (n_p1 : Nat) (p1 : Nat → Int32) (p2 : Int32) (p3 : Int32) (k24 : (Nat → Int32) → (Nat → Int32) → Int32 → Int32 → Int32 → Int32 → Int32 → Int32 → Option (Int32 × Int32 × Int32 × Int32 × (Nat → Int32) × (Nat → Int32))) (t_numbers_276 : Nat → Int32) (t_signs_276 : Nat → Int32) (t_tokens_276 : Int32) (t_spoons_276 : Int32) (t_mostSpoons_276 : Int32) (x6_276 : Int32) (x7_276 : Int32) (s0_276 : Int32) : Option (Int32 × Int32 × Int32 × Int32 × (Nat → Int32) × (Nat → Int32)) :=
  if x7_276 = 61 then
    g_X12_reads_b293 n_p1 p1 p2 p3 k24 t_numbers_276 t_signs_276 t_tokens_276 t_spoons_276 t_mostSpoons_276 s0_276 x6_276 1
  else
    g_X12_reads_b293 n_p1 p1 p2 p3 k24 t_numbers_276 t_signs_276 t_tokens_276 t_spoons_276 t_mostSpoons_276 s0_276 x6_276 0
def g_X12_reads_b275 (n_p1 : Nat) (p1 : Nat → Int32) (p2 : Int32) (p3 : Int32) (k24 : (Nat → Int32) → (Nat → Int32) → Int32 → Int32 → Int32 → Int32 → Int32 → Int32 → Option (Int32 × Int32 × Int32 × Int32 × (Nat → Int32) × (Nat → Int32))) (t_numbers_275 : Nat → Int32) (t_signs_275 : Nat → Int32) (t_tokens_275 : Int32) (t_spoons_275 : Int32) (t_mostSpoons_275 : Int32) (x6_275 : Int32) (x7_275 : Int32) : Option (Int32 × Int32 × Int32 × Int32 × (Nat → Int32) × (Nat → Int32)) :=
  g_X12_reads_b276 n_p1 p1 p2 p3 k24 t_numbers_275 t_signs_275 t_tokens_275 t_spoons_275 t_mostSpoons_275 x6_275 x7_275 0
def g_X12_reads_b259 (n_p1 : Nat) (p1 : Nat → Int32) (p2 : Int32) (p3 : Int32) (k24 : (Nat → Int32) → (Nat → Int32) → Int32 → Int32 → Int32 → Int32 → Int32 → Int32 → Option (Int32 × Int32 × Int32 × Int32 × (Nat → Int32) × (Nat → Int32))) (t_numbers_259 : Nat → Int32) (t_signs_259 : Nat → Int32) (t_tokens_259 : Int32) (t_spoons_259 : Int32) (t_mostSpoons_259 : Int32) (x6_259 : Int32) (x7_259 : Int32) : Option (Int32 × Int32 × Int32 × Int32 × (Nat → Int32) × (Nat → Int32)) :=
  gb (g_X12_adds t_tokens_259 t_spoons_259 t_mostSpoons_259 t_signs_259 t_numbers_259 x7_259 (0 : Int32) (1 : Int32) (0 : Int32)) fun r2 =>
  if r2.1 = 0 then
    g_X12_reads_b275 n_p1 p1 p2 p3 k24 r2.2.2.2.2.2 r2.2.2.2.2.1 r2.2.1 r2.2.2.1 r2.2.2.2.1 x6_259 x7_259
  else
    g_X12_reads_b276 n_p1 p1 p2 p3 k24 r2.2.2.2.2.2 r2.2.2.2.2.1 r2.2.1 r2.2.2.1 r2.2.2.2.1 x6_259 x7_259 1
def g_X12_reads_b214 (n_p1 : Nat) (p1 : Nat → Int32) (p2 : Int32) (p3 : Int32) (k24 : (Nat → Int32) → (Nat → Int32) → Int32 → Int32 → Int32 → Int32 → Int32 → Int32 → Option (Int32 × Int32 × Int32 × Int32 × (Nat → Int32) × (Nat → Int32))) (t_numbers_214 : Nat → Int32) (t_signs_214 : Nat → Int32) (t_tokens_214 : Int32) (t_spoons_214 : Int32) (t_mostSpoons_214 : Int32) (x6_214 : Int32) (x7_214 : Int32) : Option (Int32 × Int32 × Int32 × Int32 × (Nat → Int32) × (Nat → Int32)) :=
  gb (g_X12_adds t_tokens_214 t_spoons_214 t_mostSpoons_214 t_signs_214 t_numbers_214 x7_214 (0 : Int32) (2 : Int32) (-1 : Int32)) fun r3 =>
  g_X12_reads_b276 n_p1 p1 p2 p3 k24 r3.2.2.2.2.2 r3.2.2.2.2.1 r3.2.1 r3.2.2.1 r3.2.2.2.1 x6_214 x7_214 r3.1
def g_X12_reads_b179 (n_p1 : Nat) (p1 : Nat → Int32) (p2 : Int32) (p3 : Int32) (k24 : (Nat → Int32) → (Nat → Int32) → Int32 → Int32 → Int32 → Int32 → Int32 → Int32 → Option (Int32 × Int32 × Int32 × Int32 × (Nat → Int32) × (Nat → Int32))) (t_numbers_179 : Nat → Int32) (t_signs_179 : Nat → Int32) (t_tokens_179 : Int32) (t_spoons_179 : Int32) (t_mostSpoons_179 : Int32) (x5_179 : Int32) (x6_179 : Int32) (x9_179 : Int32) (s1_179 : Int32) (s2_179 : Int32) : Option (Int32 × Int32 × Int32 × Int32 × (Nat → Int32) × (Nat → Int32)) :=
  gb (g_X12_adds t_tokens_179 t_spoons_179 t_mostSpoons_179 t_signs_179 t_numbers_179 s1_179 s2_179 (0 : Int32) (1 : Int32)) fun r4 =>
  g_X12_reads_b295 n_p1 p1 p2 p3 k24 r4.2.2.2.2.2 r4.2.2.2.2.1 r4.2.1 r4.2.2.1 r4.2.2.2.1 r4.1 x9_179 x5_179 x6_179
def g_X12_reads_b158 (n_p1 : Nat) (p1 : Nat → Int32) (p2 : Int32) (p3 : Int32) (k24 : (Nat → Int32) → (Nat → Int32) → Int32 → Int32 → Int32 → Int32 → Int32 → Int32 → Option (Int32 × Int32 × Int32 × Int32 × (Nat → Int32) × (Nat → Int32))) (t_numbers_158 : Nat → Int32) (t_signs_158 : Nat → Int32) (t_tokens_158 : Int32) (t_spoons_158 : Int32) (t_mostSpoons_158 : Int32) (x5_158 : Int32) (x6_158 : Int32) (x7_158 : Int32) (x8_158 : Int32) (x9_158 : Int32) : Option (Int32 × Int32 × Int32 × Int32 × (Nat → Int32) × (Nat → Int32)) :=
  if x8_158 = 0 then
    g_X12_reads_b179 n_p1 p1 p2 p3 k24 t_numbers_158 t_signs_158 t_tokens_158 t_spoons_158 t_mostSpoons_158 x5_158 x6_158 x9_158 x7_158 (x7_158 - 48)
  else
    g_X12_reads_b179 n_p1 p1 p2 p3 k24 t_numbers_158 t_signs_158 t_tokens_158 t_spoons_158 t_mostSpoons_158 x5_158 x6_158 x9_158 x7_158 (x7_158 - 97)
def g_X12_reads_b148 (n_p1 : Nat) (p1 : Nat → Int32) (p2 : Int32) (p3 : Int32) (k24 : (Nat → Int32) → (Nat → Int32) → Int32 → Int32 → Int32 → Int32 → Int32 → Int32 → Option (Int32 × Int32 × Int32 × Int32 × (Nat → Int32) × (Nat → Int32))) (t_numbers_148 : Nat → Int32) (t_signs_148 : Nat → Int32) (t_tokens_148 : Int32) (t_spoons_148 : Int32) (t_mostSpoons_148 : Int32) (x5_148 : Int32) (x6_148 : Int32) (x7_148 : Int32) (x8_148 : Int32) (x9_148 : Int32) : Option (Int32 × Int32 × Int32 × Int32 × (Nat → Int32) × (Nat → Int32)) :=
  if x8_148 = 0 then
    if x9_148 = 0 then
      if x7_148 = 43 then
        g_X12_reads_b214 n_p1 p1 p2 p3 k24 t_numbers_148 t_signs_148 t_tokens_148 t_spoons_148 t_mostSpoons_148 x6_148 x7_148
      else
        if x7_148 = 45 then
          g_X12_reads_b214 n_p1 p1 p2 p3 k24 t_numbers_148 t_signs_148 t_tokens_148 t_spoons_148 t_mostSpoons_148 x6_148 x7_148
        else
          if x7_148 = 42 then
            g_X12_reads_b214 n_p1 p1 p2 p3 k24 t_numbers_148 t_signs_148 t_tokens_148 t_spoons_148 t_mostSpoons_148 x6_148 x7_148
          else
            if x7_148 = 61 then
              gb (g_X12_adds t_tokens_148 t_spoons_148 t_mostSpoons_148 t_signs_148 t_numbers_148 x7_148 (0 : Int32) (1 : Int32) (-1 : Int32)) fun r5 =>
              g_X12_reads_b276 n_p1 p1 p2 p3 k24 r5.2.2.2.2.2 r5.2.2.2.2.1 r5.2.1 r5.2.2.1 r5.2.2.2.1 x6_148 x7_148 r5.1
            else
              if x7_148 = 126 then
                g_X12_reads_b259 n_p1 p1 p2 p3 k24 t_numbers_148 t_signs_148 t_tokens_148 t_spoons_148 t_mostSpoons_148 x6_148 x7_148
              else
                if x7_148 = 33 then
                  g_X12_reads_b259 n_p1 p1 p2 p3 k24 t_numbers_148 t_signs_148 t_tokens_148 t_spoons_148 t_mostSpoons_148 x6_148 x7_148
                else
                  g_X12_reads_b275 n_p1 p1 p2 p3 k24 t_numbers_148 t_signs_148 t_tokens_148 t_spoons_148 t_mostSpoons_148 x6_148 x7_148
    else
      g_X12_reads_b158 n_p1 p1 p2 p3 k24 t_numbers_148 t_signs_148 t_tokens_148 t_spoons_148 t_mostSpoons_148 x5_148 x6_148 x7_148 x8_148 x9_148
  else
    g_X12_reads_b158 n_p1 p1 p2 p3 k24 t_numbers_148 t_signs_148 t_tokens_148 t_spoons_148 t_mostSpoons_148 x5_148 x6_148 x7_148 x8_148 x9_148
def g_X12_reads_b24 (n_p1 : Nat) (p1 : Nat → Int32) (p2 : Int32) (p3 : Int32) : Nat → (Nat → Int32) → (Nat → Int32) → Int32 → Int32 → Int32 → Int32 → Int32 → Int32 → Option (Int32 × Int32 × Int32 × Int32 × (Nat → Int32) × (Nat → Int32))
  | 0, _, _, _, _, _, _, _, _ => none
  | n + 1, t_numbers_24, t_signs_24, t_tokens_24, t_spoons_24, t_mostSpoons_24, x4_24, x5_24, x6_24 =>
    if p3 ≤ x6_24 then
      if x5_24 = 0 then
        if 0 < t_spoons_24 then
          some (p3, t_tokens_24, t_spoons_24, t_mostSpoons_24, t_numbers_24, t_signs_24)
        else
          if t_tokens_24 = 0 then
            some (p3, t_tokens_24, t_spoons_24, t_mostSpoons_24, t_numbers_24, t_signs_24)
          else
            some ((-1), t_tokens_24, t_spoons_24, t_mostSpoons_24, t_numbers_24, t_signs_24)
      else
        some (p3, t_tokens_24, t_spoons_24, t_mostSpoons_24, t_numbers_24, t_signs_24)
    else
      gc (inb (p2 + x6_24) n_p1) <|
      gl (((p1 (p2 + x6_24).toNatClampNeg).toUInt32 % 65536).toInt32) fun v6 =>
      gb (g_X12_in v6.toInt64 (97 : Int64) (102 : Int64)) fun r7 =>
      gb (g_X12_in v6.toInt64 (48 : Int64) (57 : Int64)) fun r8 =>
      if x5_24 = 0 then
        if r8 = 0 then
          g_X12_reads_b148 n_p1 p1 p2 p3 (g_X12_reads_b24 n_p1 p1 p2 p3 n) t_numbers_24 t_signs_24 t_tokens_24 t_spoons_24 t_mostSpoons_24 x5_24 x6_24 v6 r7 r8
        else
          if x4_24 = 0 then
            g_X12_reads_b148 n_p1 p1 p2 p3 (g_X12_reads_b24 n_p1 p1 p2 p3 n) t_numbers_24 t_signs_24 t_tokens_24 t_spoons_24 t_mostSpoons_24 x5_24 x6_24 v6 r7 r8
          else
            gc (inb (t_tokens_24 - 1) 60) <|
            gc (inb (t_tokens_24 - 1) 60) <|
            g_X12_reads_b295 n_p1 p1 p2 p3 (g_X12_reads_b24 n_p1 p1 p2 p3 n) (upd t_numbers_24 (t_tokens_24 - 1).toNatClampNeg (((10 * (t_numbers_24 (t_tokens_24 - 1).toNatClampNeg)) + v6) - 48)) t_signs_24 t_tokens_24 t_spoons_24 t_mostSpoons_24 1 0 x5_24 x6_24
      else
        gc (inb (t_tokens_24 - 1) 60) <|
        g_X12_reads_b295 n_p1 p1 p2 p3 (g_X12_reads_b24 n_p1 p1 p2 p3 n) (upd t_numbers_24 (t_tokens_24 - 1).toNatClampNeg (v6 - 97)) t_signs_24 t_tokens_24 t_spoons_24 t_mostSpoons_24 r7 x4_24 0 x6_24
def g_X12_reads (n_p1 : Nat) (t_tokens : Int32) (t_spoons : Int32) (t_mostSpoons : Int32) (p1 : Nat → Int32) (t_numbers : Nat → Int32) (t_signs : Nat → Int32) (p2 : Int32) (p3 : Int32) : Option (Int32 × Int32 × Int32 × Int32 × (Nat → Int32) × (Nat → Int32)) :=
  g_X12_reads_b24 n_p1 p1 p2 p3 100 t_numbers t_signs 0 0 0 0 0 0
set_option maxHeartbeats 4000000 in
set_option maxRecDepth 100000 in
theorem c_X12_reads (l : Launch) (dC : Nat → ClassId) (dI : Nat → Nat → Nat) (cT : Nat → ClassId) {Hh : Heap} {a_t : Nat} {a_p1 : Nat} {a_t_numbers : Nat} {a_t_signs : Nat} {a_t_s : Nat} {a_t_f : Nat} {a_t_before : Nat} {a_t_beforeF : Nat} {a_t_aside : Nat} {a_t_asideF : Nat} {a_t_saved : Nat} {a_t_savedF : Nat} {a_t_past : Nat} {a_t_pastF : Nat} {a_t_refused : Nat} {a_t_text : Nat} {a_t_row : Nat} {a_t_isBrothOn : Nat} {a_t_dramsOn : Nat} {a_t_brothOn : Nat} {a_t_lowOn : Nat} {a_t_highOn : Nat} {a_t_lowStored : Nat} {a_t_highStored : Nat} {a_t_isBrothStored : Nat} {a_t_step : Nat} {a_t_stepF : Nat} {a_t_line : Nat} {n_p1 : Nat} {t_tokens : Int32} {t_spoons : Int32} {t_mostSpoons : Int32} {p1 : Nat → Int32} {t_numbers : Nat → Int32} {t_signs : Nat → Int32} {p2 : Int32} {p3 : Int32} {t_isSaved : Int32} {t_pastMany : Int32} {t_boiled : Int32} {t_thrown : Int32} {t_length : Int32} {t_error : Int32} {t_cause : Int32} {t_causeDetail : Int32} {t_storeMany : Int32} {t_lineMany : Int32} {o : Int32 × Int32 × Int32 × Int32 × (Nat → Int32) × (Nat → Int32)} (h : g_X12_reads n_p1 t_tokens t_spoons t_mostSpoons p1 t_numbers t_signs p2 p3 = some o) (hP0 : va_P (dC, dI) vwCl [(a_t, .inr (15, [.ref a_t_s, .ref a_t_f, .ref a_t_before, .ref a_t_beforeF, .ref a_t_aside, .ref a_t_asideF, .ref a_t_saved, .ref a_t_savedF, .int t_isSaved, .ref a_t_past, .ref a_t_pastF, .int t_pastMany, .int t_boiled, .int t_thrown, .ref a_t_refused, .ref a_t_text, .int t_length, .int t_error, .ref a_t_signs, .ref a_t_numbers, .int t_tokens, .int t_spoons, .int t_mostSpoons, .ref a_t_row, .ref a_t_isBrothOn, .ref a_t_dramsOn, .ref a_t_brothOn, .int t_cause, .int t_causeDetail, .ref a_t_lowOn, .ref a_t_highOn, .ref a_t_lowStored, .ref a_t_highStored, .ref a_t_isBrothStored, .int t_storeMany, .ref a_t_step, .ref a_t_stepF, .ref a_t_line, .int t_lineMany])), (a_t_numbers, .inl (cT 0, 60, .inl t_numbers)), (a_t_signs, .inl (cT 2, 60, .inl t_signs))] Hh) (hR0 : va_P (dC, dI) vwCl [(a_p1, .inl (cT 0, n_p1, .inl p1))] Hh) (hD0 : va_D (fun _ => True) [(a_t, .inr (15, [.ref a_t_s, .ref a_t_f, .ref a_t_before, .ref a_t_beforeF, .ref a_t_aside, .ref a_t_asideF, .ref a_t_saved, .ref a_t_savedF, .int t_isSaved, .ref a_t_past, .ref a_t_pastF, .int t_pastMany, .int t_boiled, .int t_thrown, .ref a_t_refused, .ref a_t_text, .int t_length, .int t_error, .ref a_t_signs, .ref a_t_numbers, .int t_tokens, .int t_spoons, .int t_mostSpoons, .ref a_t_row, .ref a_t_isBrothOn, .ref a_t_dramsOn, .ref a_t_brothOn, .int t_cause, .int t_causeDetail, .ref a_t_lowOn, .ref a_t_highOn, .ref a_t_lowStored, .ref a_t_highStored, .ref a_t_isBrothStored, .int t_storeMany, .ref a_t_step, .ref a_t_stepF, .ref a_t_line, .int t_lineMany])), (a_t_numbers, .inl (cT 0, 60, .inl t_numbers)), (a_t_signs, .inl (cT 2, 60, .inl t_signs))]) (hN0 : ∀ (k : Nat) (q : Nat × va_E), ([(a_p1, .inl (cT 0, n_p1, .inl p1))] : va_W)[k]? = some q → ¬ va_A [(a_t, .inr (15, [.ref a_t_s, .ref a_t_f, .ref a_t_before, .ref a_t_beforeF, .ref a_t_aside, .ref a_t_asideF, .ref a_t_saved, .ref a_t_savedF, .int t_isSaved, .ref a_t_past, .ref a_t_pastF, .int t_pastMany, .int t_boiled, .int t_thrown, .ref a_t_refused, .ref a_t_text, .int t_length, .int t_error, .ref a_t_signs, .ref a_t_numbers, .int t_tokens, .int t_spoons, .int t_mostSpoons, .ref a_t_row, .ref a_t_isBrothOn, .ref a_t_dramsOn, .ref a_t_brothOn, .int t_cause, .int t_causeDetail, .ref a_t_lowOn, .ref a_t_highOn, .ref a_t_lowStored, .ref a_t_highStored, .ref a_t_isBrothStored, .int t_storeMany, .ref a_t_step, .ref a_t_stepF, .ref a_t_line, .int t_lineMany])), (a_t_numbers, .inl (cT 0, 60, .inl t_numbers)), (a_t_signs, .inl (cT 2, 60, .inl t_signs))] Hh.size q.1) : Met l yX12_reads (wA yX12_reads cX12_reads 11 (some .int)) ({ frames := 2, cells := 0, slots := 0, locals := 46 } : Room) (PK dC dI cT [.ref a_t, .ref a_p1, .int p2, .int p3] Hh) (va_Qi (fun x (_ : Unit) => x = o.1) (fun _ t => va_P (dC, dI) vwCl [(a_t, .inr (15, [.ref a_t_s, .ref a_t_f, .ref a_t_before, .ref a_t_beforeF, .ref a_t_aside, .ref a_t_asideF, .ref a_t_saved, .ref a_t_savedF, .int t_isSaved, .ref a_t_past, .ref a_t_pastF, .int t_pastMany, .int t_boiled, .int t_thrown, .ref a_t_refused, .ref a_t_text, .int t_length, .int t_error, .ref a_t_signs, .ref a_t_numbers, .int o.2.1, .int o.2.2.1, .int o.2.2.2.1, .ref a_t_row, .ref a_t_isBrothOn, .ref a_t_dramsOn, .ref a_t_brothOn, .int t_cause, .int t_causeDetail, .ref a_t_lowOn, .ref a_t_highOn, .ref a_t_lowStored, .ref a_t_highStored, .ref a_t_isBrothStored, .int t_storeMany, .ref a_t_step, .ref a_t_stepF, .ref a_t_line, .int t_lineMany])), (a_t_numbers, .inl (cT 0, 60, .inl o.2.2.2.2.1)), (a_t_signs, .inl (cT 2, 60, .inl o.2.2.2.2.2))] t.heap) (va_A [(a_t, .inr (15, [.ref a_t_s, .ref a_t_f, .ref a_t_before, .ref a_t_beforeF, .ref a_t_aside, .ref a_t_asideF, .ref a_t_saved, .ref a_t_savedF, .int t_isSaved, .ref a_t_past, .ref a_t_pastF, .int t_pastMany, .int t_boiled, .int t_thrown, .ref a_t_refused, .ref a_t_text, .int t_length, .int t_error, .ref a_t_signs, .ref a_t_numbers, .int t_tokens, .int t_spoons, .int t_mostSpoons, .ref a_t_row, .ref a_t_isBrothOn, .ref a_t_dramsOn, .ref a_t_brothOn, .int t_cause, .int t_causeDetail, .ref a_t_lowOn, .ref a_t_highOn, .ref a_t_lowStored, .ref a_t_highStored, .ref a_t_isBrothStored, .int t_storeMany, .ref a_t_step, .ref a_t_stepF, .ref a_t_line, .int t_lineMany])), (a_t_numbers, .inl (cT 0, 60, .inl t_numbers)), (a_t_signs, .inl (cT 2, 60, .inl t_signs))] Hh.size)) 0 0 (va_A [(a_t, .inr (15, [.ref a_t_s, .ref a_t_f, .ref a_t_before, .ref a_t_beforeF, .ref a_t_aside, .ref a_t_asideF, .ref a_t_saved, .ref a_t_savedF, .int t_isSaved, .ref a_t_past, .ref a_t_pastF, .int t_pastMany, .int t_boiled, .int t_thrown, .ref a_t_refused, .ref a_t_text, .int t_length, .int t_error, .ref a_t_signs, .ref a_t_numbers, .int t_tokens, .int t_spoons, .int t_mostSpoons, .ref a_t_row, .ref a_t_isBrothOn, .ref a_t_dramsOn, .ref a_t_brothOn, .int t_cause, .int t_causeDetail, .ref a_t_lowOn, .ref a_t_highOn, .ref a_t_lowStored, .ref a_t_highStored, .ref a_t_isBrothStored, .int t_storeMany, .ref a_t_step, .ref a_t_stepF, .ref a_t_line, .int t_lineMany])), (a_t_numbers, .inl (cT 0, 60, .inl t_numbers)), (a_t_signs, .inl (cT 2, 60, .inl t_signs))] Hh.size) := by
  refine Met.ofW (cc := cX12_reads) (maxL := 11) (ret := (some .int)) (by decide) rfl ?_
  intro p e s m args below meth c s₁ B hml hv
  obtain ⟨rfl, hH, hK⟩ := hv
  subst hH
  have hx := B.exec
  have hb := B.bytes
  have hr := B.returns
  have hta : ∀ w ∈ ALLW, w.before [.ref a_t, .ref a_p1, .int p2, .int p3].toArray s = true := fun w hw => atoms_spec (ws := wA yX12_reads cX12_reads 11 (some .int)) B.pre w (List.mem_cons_of_mem _ hw)
  have hown : s.vm.findClass RX12 = some m.cls := findClass_of_methodNamed B.named
  have hlocks := B.notSynchronized
  have hD := hD0.self (sz := s.heap.size)
  have hNA := hN0
  generalize hAe : va_A [(a_t, .inr (15, [.ref a_t_s, .ref a_t_f, .ref a_t_before, .ref a_t_beforeF, .ref a_t_aside, .ref a_t_asideF, .ref a_t_saved, .ref a_t_savedF, .int t_isSaved, .ref a_t_past, .ref a_t_pastF, .int t_pastMany, .int t_boiled, .int t_thrown, .ref a_t_refused, .ref a_t_text, .int t_length, .int t_error, .ref a_t_signs, .ref a_t_numbers, .int t_tokens, .int t_spoons, .int t_mostSpoons, .ref a_t_row, .ref a_t_isBrothOn, .ref a_t_dramsOn, .ref a_t_brothOn, .int t_cause, .int t_causeDetail, .ref a_t_lowOn, .ref a_t_highOn, .ref a_t_lowStored, .ref a_t_highStored, .ref a_t_isBrothStored, .int t_storeMany, .ref a_t_step, .ref a_t_stepF, .ref a_t_line, .int t_lineMany])), (a_t_numbers, .inl (cT 0, 60, .inl t_numbers)), (a_t_signs, .inl (cT 2, 60, .inl t_signs))] s.heap.size = A at hD hNA ⊢
  have hP := hP0
  have hA : ∀ q : Nat, s.heap.size ≤ q → A q := fun q h => by rw [← hAe]; exact Or.inr h
  have hS : va_S A s.heap s.heap [] := va_S.rf
  have hl := lv_entry [.ref a_t, .ref a_p1, .int p2, .int p3] (n := 11) (Nat.le_of_ble_eq_true rfl)
  rw [lg_entry_eq]
  generalize (lg_sl [.ref a_t, .ref a_p1, .int p2, .int p3] ++ List.replicate (11 - (lg_sl [.ref a_t, .ref a_p1, .int p2, .int p3]).length) Slot.unset).toArray = ls at hl ⊢
  have hl : lv_has ls 11 [(0, .ref a_t), (1, .ref a_p1), (2, .int p2), (3, .int p3)] := hl
  obtain ⟨Q, hQ⟩ : ∃ Q, Q = MQ below (va_Qi (fun x (_ : Unit) => x = o.1) (fun _ t => va_P (dC, dI) vwCl [(a_t, .inr (15, [.ref a_t_s, .ref a_t_f, .ref a_t_before, .ref a_t_beforeF, .ref a_t_aside, .ref a_t_asideF, .ref a_t_saved, .ref a_t_savedF, .int t_isSaved, .ref a_t_past, .ref a_t_pastF, .int t_pastMany, .int t_boiled, .int t_thrown, .ref a_t_refused, .ref a_t_text, .int t_length, .int t_error, .ref a_t_signs, .ref a_t_numbers, .int o.2.1, .int o.2.2.1, .int o.2.2.2.1, .ref a_t_row, .ref a_t_isBrothOn, .ref a_t_dramsOn, .ref a_t_brothOn, .int t_cause, .int t_causeDetail, .ref a_t_lowOn, .ref a_t_highOn, .ref a_t_lowStored, .ref a_t_highStored, .ref a_t_isBrothStored, .int t_storeMany, .ref a_t_step, .ref a_t_stepF, .ref a_t_line, .int t_lineMany])), (a_t_numbers, .inl (cT 0, 60, .inl o.2.2.2.2.1)), (a_t_signs, .inl (cT 2, 60, .inl o.2.2.2.2.2))] t.heap) A) [.ref a_t, .ref a_p1, .int p2, .int p3].toArray s 0 0 A := ⟨_, rfl⟩
  rw [← hQ]
  have wB_24 : ∀ (n_24 : Nat), ∀ (t_numbers_24 : Nat → Int32) (t_signs_24 : Nat → Int32) (t_tokens_24 : Int32) (t_spoons_24 : Int32) (t_mostSpoons_24 : Int32) (x4_24 : Int32) (x5_24 : Int32) (x6_24 : Int32) (H : Heap) (locs : List Loc) (ls : Array Slot), g_X12_reads_b24 n_p1 p1 p2 p3 n_24 t_numbers_24 t_signs_24 t_tokens_24 t_spoons_24 t_mostSpoons_24 x4_24 x5_24 x6_24 = some o → va_P (dC, dI) vwCl [(a_t, .inr (15, [.ref a_t_s, .ref a_t_f, .ref a_t_before, .ref a_t_beforeF, .ref a_t_aside, .ref a_t_asideF, .ref a_t_saved, .ref a_t_savedF, .int t_isSaved, .ref a_t_past, .ref a_t_pastF, .int t_pastMany, .int t_boiled, .int t_thrown, .ref a_t_refused, .ref a_t_text, .int t_length, .int t_error, .ref a_t_signs, .ref a_t_numbers, .int t_tokens_24, .int t_spoons_24, .int t_mostSpoons_24, .ref a_t_row, .ref a_t_isBrothOn, .ref a_t_dramsOn, .ref a_t_brothOn, .int t_cause, .int t_causeDetail, .ref a_t_lowOn, .ref a_t_highOn, .ref a_t_lowStored, .ref a_t_highStored, .ref a_t_isBrothStored, .int t_storeMany, .ref a_t_step, .ref a_t_stepF, .ref a_t_line, .int t_lineMany])), (a_t_numbers, .inl (cT 0, 60, .inl t_numbers_24)), (a_t_signs, .inl (cT 2, 60, .inl t_signs_24))] H → va_D A [(a_t, .inr (15, [.ref a_t_s, .ref a_t_f, .ref a_t_before, .ref a_t_beforeF, .ref a_t_aside, .ref a_t_asideF, .ref a_t_saved, .ref a_t_savedF, .int t_isSaved, .ref a_t_past, .ref a_t_pastF, .int t_pastMany, .int t_boiled, .int t_thrown, .ref a_t_refused, .ref a_t_text, .int t_length, .int t_error, .ref a_t_signs, .ref a_t_numbers, .int t_tokens_24, .int t_spoons_24, .int t_mostSpoons_24, .ref a_t_row, .ref a_t_isBrothOn, .ref a_t_dramsOn, .ref a_t_brothOn, .int t_cause, .int t_causeDetail, .ref a_t_lowOn, .ref a_t_highOn, .ref a_t_lowStored, .ref a_t_highStored, .ref a_t_isBrothStored, .int t_storeMany, .ref a_t_step, .ref a_t_stepF, .ref a_t_line, .int t_lineMany])), (a_t_numbers, .inl (cT 0, 60, .inl t_numbers_24)), (a_t_signs, .inl (cT 2, 60, .inl t_signs_24))] → va_S A s.heap H locs → lv_has ls 11 [(0, .ref a_t), (1, .ref a_p1), (2, .int p2), (3, .int p3), (4, .int x4_24), (5, .int x5_24), (6, .int x6_24)] → W p l e ({ frames := 2, cells := 0, slots := 0, locals := 46 } : Room) s m [.ref a_t, .ref a_p1, .int p2, .int p3].toArray below meth c H locs 0 0 Q (F0 m 24 ls []) := by
    intro n_24
    induction n_24 with
    | zero =>
      intro t_numbers_24 t_signs_24 t_tokens_24 t_spoons_24 t_mostSpoons_24 x4_24 x5_24 x6_24 H locs ls h hP hD hS hl
      simp [g_X12_reads_b24] at h
    | succ n_24 ih_24 =>
      have wB_295 : ∀ (t_numbers_295 : Nat → Int32) (t_signs_295 : Nat → Int32) (t_tokens_295 : Int32) (t_spoons_295 : Int32) (t_mostSpoons_295 : Int32) (x10_295 : Int32) (x4_295 : Int32) (x5_295 : Int32) (x6_295 : Int32) (H : Heap) (locs : List Loc) (ls : Array Slot), g_X12_reads_b295 n_p1 p1 p2 p3 (g_X12_reads_b24 n_p1 p1 p2 p3 n_24) t_numbers_295 t_signs_295 t_tokens_295 t_spoons_295 t_mostSpoons_295 x10_295 x4_295 x5_295 x6_295 = some o → va_P (dC, dI) vwCl [(a_t, .inr (15, [.ref a_t_s, .ref a_t_f, .ref a_t_before, .ref a_t_beforeF, .ref a_t_aside, .ref a_t_asideF, .ref a_t_saved, .ref a_t_savedF, .int t_isSaved, .ref a_t_past, .ref a_t_pastF, .int t_pastMany, .int t_boiled, .int t_thrown, .ref a_t_refused, .ref a_t_text, .int t_length, .int t_error, .ref a_t_signs, .ref a_t_numbers, .int t_tokens_295, .int t_spoons_295, .int t_mostSpoons_295, .ref a_t_row, .ref a_t_isBrothOn, .ref a_t_dramsOn, .ref a_t_brothOn, .int t_cause, .int t_causeDetail, .ref a_t_lowOn, .ref a_t_highOn, .ref a_t_lowStored, .ref a_t_highStored, .ref a_t_isBrothStored, .int t_storeMany, .ref a_t_step, .ref a_t_stepF, .ref a_t_line, .int t_lineMany])), (a_t_numbers, .inl (cT 0, 60, .inl t_numbers_295)), (a_t_signs, .inl (cT 2, 60, .inl t_signs_295))] H → va_D A [(a_t, .inr (15, [.ref a_t_s, .ref a_t_f, .ref a_t_before, .ref a_t_beforeF, .ref a_t_aside, .ref a_t_asideF, .ref a_t_saved, .ref a_t_savedF, .int t_isSaved, .ref a_t_past, .ref a_t_pastF, .int t_pastMany, .int t_boiled, .int t_thrown, .ref a_t_refused, .ref a_t_text, .int t_length, .int t_error, .ref a_t_signs, .ref a_t_numbers, .int t_tokens_295, .int t_spoons_295, .int t_mostSpoons_295, .ref a_t_row, .ref a_t_isBrothOn, .ref a_t_dramsOn, .ref a_t_brothOn, .int t_cause, .int t_causeDetail, .ref a_t_lowOn, .ref a_t_highOn, .ref a_t_lowStored, .ref a_t_highStored, .ref a_t_isBrothStored, .int t_storeMany, .ref a_t_step, .ref a_t_stepF, .ref a_t_line, .int t_lineMany])), (a_t_numbers, .inl (cT 0, 60, .inl t_numbers_295)), (a_t_signs, .inl (cT 2, 60, .inl t_signs_295))] → va_S A s.heap H locs → lv_has ls 11 [(0, .ref a_t), (1, .ref a_p1), (2, .int p2), (3, .int p3), (4, .int x4_295), (5, .int x5_295), (6, .int x6_295), (10, .int x10_295)] → W p l e ({ frames := 2, cells := 0, slots := 0, locals := 46 } : Room) s m [.ref a_t, .ref a_p1, .int p2, .int p3].toArray below meth c H locs 0 0 Q (F0 m 295 ls []) := by
        intro t_numbers_295 t_signs_295 t_tokens_295 t_spoons_295 t_mostSpoons_295 x10_295 x4_295 x5_295 x6_295 H locs ls h hP hD hS hl
        unfold g_X12_reads_b295 at h
        refine lv_iload hx hb dX12_reads_295 (lv_at hl 7 rfl) ?_
        refine lv_if_ne (tgt := 303) hx hb dX12_reads_297 (by decide) (fun c0 => ?_) (fun c0 => ?_)
        · have h := (if_neg c0).symm.trans h
          obtain ⟨v1, e_v1⟩ : ∃ y : Int32, y = x6_295 + 1 := ⟨_, rfl⟩
          have h := gl_use e_v1 h
          refine lv_iinc (v := v1) (lv' := [(6, .int v1), (0, .ref a_t), (1, .ref a_p1), (2, .int p2), (3, .int p3), (4, .int x4_295), (5, .int x5_295), (10, .int x10_295)]) hx hb dX12_reads_303 hl (k := 6) rfl (by rw [e_v1]; rfl) (by decide) rfl (fun ls hl => ?_)
          refine lv_goto (tgt := 24) hx hb dX12_reads_306 (by decide) ?_
          exact ih_24 t_numbers_295 t_signs_295 t_tokens_295 t_spoons_295 t_mostSpoons_295 x4_295 x5_295 v1 _ _ _ h hP hD hS (lv_sub hl [1, 2, 3, 4, 5, 6, 0] rfl)
        · have h := (if_pos c0).symm.trans h
          refine lv_iload hx hb dX12_reads_300 (lv_at hl 6 rfl) ?_
          have ho := Option.some.inj h
          rw [hQ]
          exact W.iret (v := x6_295) hx hb hr (fun t ht hW => ⟨⟨x6_295, (), rfl, by rw [← ho], by show va_P (dC, dI) vwCl _ t.heap; rw [ht, ← ho]; exact hP⟩, hS.F ht⟩) hS.2.2 dX12_reads_302
      have wB_293 : ∀ (t_numbers_293 : Nat → Int32) (t_signs_293 : Nat → Int32) (t_tokens_293 : Int32) (t_spoons_293 : Int32) (t_mostSpoons_293 : Int32) (x10_293 : Int32) (x6_293 : Int32) (s0_293 : Int32) (H : Heap) (locs : List Loc) (ls : Array Slot), g_X12_reads_b293 n_p1 p1 p2 p3 (g_X12_reads_b24 n_p1 p1 p2 p3 n_24) t_numbers_293 t_signs_293 t_tokens_293 t_spoons_293 t_mostSpoons_293 x10_293 x6_293 s0_293 = some o → va_P (dC, dI) vwCl [(a_t, .inr (15, [.ref a_t_s, .ref a_t_f, .ref a_t_before, .ref a_t_beforeF, .ref a_t_aside, .ref a_t_asideF, .ref a_t_saved, .ref a_t_savedF, .int t_isSaved, .ref a_t_past, .ref a_t_pastF, .int t_pastMany, .int t_boiled, .int t_thrown, .ref a_t_refused, .ref a_t_text, .int t_length, .int t_error, .ref a_t_signs, .ref a_t_numbers, .int t_tokens_293, .int t_spoons_293, .int t_mostSpoons_293, .ref a_t_row, .ref a_t_isBrothOn, .ref a_t_dramsOn, .ref a_t_brothOn, .int t_cause, .int t_causeDetail, .ref a_t_lowOn, .ref a_t_highOn, .ref a_t_lowStored, .ref a_t_highStored, .ref a_t_isBrothStored, .int t_storeMany, .ref a_t_step, .ref a_t_stepF, .ref a_t_line, .int t_lineMany])), (a_t_numbers, .inl (cT 0, 60, .inl t_numbers_293)), (a_t_signs, .inl (cT 2, 60, .inl t_signs_293))] H → va_D A [(a_t, .inr (15, [.ref a_t_s, .ref a_t_f, .ref a_t_before, .ref a_t_beforeF, .ref a_t_aside, .ref a_t_asideF, .ref a_t_saved, .ref a_t_savedF, .int t_isSaved, .ref a_t_past, .ref a_t_pastF, .int t_pastMany, .int t_boiled, .int t_thrown, .ref a_t_refused, .ref a_t_text, .int t_length, .int t_error, .ref a_t_signs, .ref a_t_numbers, .int t_tokens_293, .int t_spoons_293, .int t_mostSpoons_293, .ref a_t_row, .ref a_t_isBrothOn, .ref a_t_dramsOn, .ref a_t_brothOn, .int t_cause, .int t_causeDetail, .ref a_t_lowOn, .ref a_t_highOn, .ref a_t_lowStored, .ref a_t_highStored, .ref a_t_isBrothStored, .int t_storeMany, .ref a_t_step, .ref a_t_stepF, .ref a_t_line, .int t_lineMany])), (a_t_numbers, .inl (cT 0, 60, .inl t_numbers_293)), (a_t_signs, .inl (cT 2, 60, .inl t_signs_293))] → va_S A s.heap H locs → lv_has ls 11 [(0, .ref a_t), (1, .ref a_p1), (2, .int p2), (3, .int p3), (4, .int 0), (6, .int x6_293), (10, .int x10_293)] → W p l e ({ frames := 2, cells := 0, slots := 0, locals := 46 } : Room) s m [.ref a_t, .ref a_p1, .int p2, .int p3].toArray below meth c H locs 0 0 Q (F0 m 293 ls [.int s0_293]) := by
        intro t_numbers_293 t_signs_293 t_tokens_293 t_spoons_293 t_mostSpoons_293 x10_293 x6_293 s0_293 H locs ls h hP hD hS hl
        unfold g_X12_reads_b293 at h
        refine lv_istore (lv' := [(5, .int s0_293), (0, .ref a_t), (1, .ref a_p1), (2, .int p2), (3, .int p3), (4, .int 0), (6, .int x6_293), (10, .int x10_293)]) hx hb dX12_reads_293 hl (by decide) rfl (fun ls hl => ?_)
        exact wB_295 t_numbers_293 t_signs_293 t_tokens_293 t_spoons_293 t_mostSpoons_293 x10_293 0 s0_293 x6_293 _ _ _ h hP hD hS (lv_sub hl [1, 2, 3, 4, 5, 0, 6, 7] rfl)
      have wB_276 : ∀ (t_numbers_276 : Nat → Int32) (t_signs_276 : Nat → Int32) (t_tokens_276 : Int32) (t_spoons_276 : Int32) (t_mostSpoons_276 : Int32) (x6_276 : Int32) (x7_276 : Int32) (s0_276 : Int32) (H : Heap) (locs : List Loc) (ls : Array Slot), g_X12_reads_b276 n_p1 p1 p2 p3 (g_X12_reads_b24 n_p1 p1 p2 p3 n_24) t_numbers_276 t_signs_276 t_tokens_276 t_spoons_276 t_mostSpoons_276 x6_276 x7_276 s0_276 = some o → va_P (dC, dI) vwCl [(a_t, .inr (15, [.ref a_t_s, .ref a_t_f, .ref a_t_before, .ref a_t_beforeF, .ref a_t_aside, .ref a_t_asideF, .ref a_t_saved, .ref a_t_savedF, .int t_isSaved, .ref a_t_past, .ref a_t_pastF, .int t_pastMany, .int t_boiled, .int t_thrown, .ref a_t_refused, .ref a_t_text, .int t_length, .int t_error, .ref a_t_signs, .ref a_t_numbers, .int t_tokens_276, .int t_spoons_276, .int t_mostSpoons_276, .ref a_t_row, .ref a_t_isBrothOn, .ref a_t_dramsOn, .ref a_t_brothOn, .int t_cause, .int t_causeDetail, .ref a_t_lowOn, .ref a_t_highOn, .ref a_t_lowStored, .ref a_t_highStored, .ref a_t_isBrothStored, .int t_storeMany, .ref a_t_step, .ref a_t_stepF, .ref a_t_line, .int t_lineMany])), (a_t_numbers, .inl (cT 0, 60, .inl t_numbers_276)), (a_t_signs, .inl (cT 2, 60, .inl t_signs_276))] H → va_D A [(a_t, .inr (15, [.ref a_t_s, .ref a_t_f, .ref a_t_before, .ref a_t_beforeF, .ref a_t_aside, .ref a_t_asideF, .ref a_t_saved, .ref a_t_savedF, .int t_isSaved, .ref a_t_past, .ref a_t_pastF, .int t_pastMany, .int t_boiled, .int t_thrown, .ref a_t_refused, .ref a_t_text, .int t_length, .int t_error, .ref a_t_signs, .ref a_t_numbers, .int t_tokens_276, .int t_spoons_276, .int t_mostSpoons_276, .ref a_t_row, .ref a_t_isBrothOn, .ref a_t_dramsOn, .ref a_t_brothOn, .int t_cause, .int t_causeDetail, .ref a_t_lowOn, .ref a_t_highOn, .ref a_t_lowStored, .ref a_t_highStored, .ref a_t_isBrothStored, .int t_storeMany, .ref a_t_step, .ref a_t_stepF, .ref a_t_line, .int t_lineMany])), (a_t_numbers, .inl (cT 0, 60, .inl t_numbers_276)), (a_t_signs, .inl (cT 2, 60, .inl t_signs_276))] → va_S A s.heap H locs → lv_has ls 11 [(0, .ref a_t), (1, .ref a_p1), (2, .int p2), (3, .int p3), (6, .int x6_276), (7, .int x7_276)] → W p l e ({ frames := 2, cells := 0, slots := 0, locals := 46 } : Room) s m [.ref a_t, .ref a_p1, .int p2, .int p3].toArray below meth c H locs 0 0 Q (F0 m 276 ls [.int s0_276]) := by
        intro t_numbers_276 t_signs_276 t_tokens_276 t_spoons_276 t_mostSpoons_276 x6_276 x7_276 s0_276 H locs ls h hP hD hS hl
        unfold g_X12_reads_b276 at h
        refine lv_istore (lv' := [(10, .int s0_276), (0, .ref a_t), (1, .ref a_p1), (2, .int p2), (3, .int p3), (6, .int x6_276), (7, .int x7_276)]) hx hb dX12_reads_276 hl (by decide) rfl (fun ls hl => ?_)
        refine lv_iconst (v := 0) hx hb dX12_reads_278 (by decide) ?_
        refine lv_istore (lv' := [(4, .int 0), (10, .int s0_276), (0, .ref a_t), (1, .ref a_p1), (2, .int p2), (3, .int p3), (6, .int x6_276), (7, .int x7_276)]) hx hb dX12_reads_279 hl (by decide) rfl (fun ls hl => ?_)
        refine lv_iload hx hb dX12_reads_281 (lv_at hl 7 rfl) ?_
        refine lv_bipush (v := 61) hx hb dX12_reads_283 (by decide) ?_
        refine lv_icmp_ne (tgt := 292) hx hb dX12_reads_285 (by decide) (fun c0 => ?_) (fun c0 => ?_)
        · have h := (if_neg c0).symm.trans h
          refine lv_iconst (v := 0) hx hb dX12_reads_292 (by decide) ?_
          exact wB_293 t_numbers_276 t_signs_276 t_tokens_276 t_spoons_276 t_mostSpoons_276 s0_276 x6_276 0 _ _ _ h hP hD hS (lv_sub hl [2, 3, 4, 5, 0, 6, 1] rfl)
        · have h := (if_pos c0).symm.trans h
          refine lv_iconst (v := 1) hx hb dX12_reads_288 (by decide) ?_
          refine lv_goto (tgt := 293) hx hb dX12_reads_289 (by decide) ?_
          exact wB_293 t_numbers_276 t_signs_276 t_tokens_276 t_spoons_276 t_mostSpoons_276 s0_276 x6_276 1 _ _ _ h hP hD hS (lv_sub hl [2, 3, 4, 5, 0, 6, 1] rfl)
      have wB_275 : ∀ (t_numbers_275 : Nat → Int32) (t_signs_275 : Nat → Int32) (t_tokens_275 : Int32) (t_spoons_275 : Int32) (t_mostSpoons_275 : Int32) (x6_275 : Int32) (x7_275 : Int32) (H : Heap) (locs : List Loc) (ls : Array Slot), g_X12_reads_b275 n_p1 p1 p2 p3 (g_X12_reads_b24 n_p1 p1 p2 p3 n_24) t_numbers_275 t_signs_275 t_tokens_275 t_spoons_275 t_mostSpoons_275 x6_275 x7_275 = some o → va_P (dC, dI) vwCl [(a_t, .inr (15, [.ref a_t_s, .ref a_t_f, .ref a_t_before, .ref a_t_beforeF, .ref a_t_aside, .ref a_t_asideF, .ref a_t_saved, .ref a_t_savedF, .int t_isSaved, .ref a_t_past, .ref a_t_pastF, .int t_pastMany, .int t_boiled, .int t_thrown, .ref a_t_refused, .ref a_t_text, .int t_length, .int t_error, .ref a_t_signs, .ref a_t_numbers, .int t_tokens_275, .int t_spoons_275, .int t_mostSpoons_275, .ref a_t_row, .ref a_t_isBrothOn, .ref a_t_dramsOn, .ref a_t_brothOn, .int t_cause, .int t_causeDetail, .ref a_t_lowOn, .ref a_t_highOn, .ref a_t_lowStored, .ref a_t_highStored, .ref a_t_isBrothStored, .int t_storeMany, .ref a_t_step, .ref a_t_stepF, .ref a_t_line, .int t_lineMany])), (a_t_numbers, .inl (cT 0, 60, .inl t_numbers_275)), (a_t_signs, .inl (cT 2, 60, .inl t_signs_275))] H → va_D A [(a_t, .inr (15, [.ref a_t_s, .ref a_t_f, .ref a_t_before, .ref a_t_beforeF, .ref a_t_aside, .ref a_t_asideF, .ref a_t_saved, .ref a_t_savedF, .int t_isSaved, .ref a_t_past, .ref a_t_pastF, .int t_pastMany, .int t_boiled, .int t_thrown, .ref a_t_refused, .ref a_t_text, .int t_length, .int t_error, .ref a_t_signs, .ref a_t_numbers, .int t_tokens_275, .int t_spoons_275, .int t_mostSpoons_275, .ref a_t_row, .ref a_t_isBrothOn, .ref a_t_dramsOn, .ref a_t_brothOn, .int t_cause, .int t_causeDetail, .ref a_t_lowOn, .ref a_t_highOn, .ref a_t_lowStored, .ref a_t_highStored, .ref a_t_isBrothStored, .int t_storeMany, .ref a_t_step, .ref a_t_stepF, .ref a_t_line, .int t_lineMany])), (a_t_numbers, .inl (cT 0, 60, .inl t_numbers_275)), (a_t_signs, .inl (cT 2, 60, .inl t_signs_275))] → va_S A s.heap H locs → lv_has ls 11 [(0, .ref a_t), (1, .ref a_p1), (2, .int p2), (3, .int p3), (6, .int x6_275), (7, .int x7_275)] → W p l e ({ frames := 2, cells := 0, slots := 0, locals := 46 } : Room) s m [.ref a_t, .ref a_p1, .int p2, .int p3].toArray below meth c H locs 0 0 Q (F0 m 275 ls []) := by
        intro t_numbers_275 t_signs_275 t_tokens_275 t_spoons_275 t_mostSpoons_275 x6_275 x7_275 H locs ls h hP hD hS hl
        unfold g_X12_reads_b275 at h
        refine lv_iconst (v := 0) hx hb dX12_reads_275 (by decide) ?_
        exact wB_276 t_numbers_275 t_signs_275 t_tokens_275 t_spoons_275 t_mostSpoons_275 x6_275 x7_275 0 _ _ _ h hP hD hS (lv_sub hl [0, 1, 2, 3, 4, 5] rfl)
      have wB_259 : ∀ (t_numbers_259 : Nat → Int32) (t_signs_259 : Nat → Int32) (t_tokens_259 : Int32) (t_spoons_259 : Int32) (t_mostSpoons_259 : Int32) (x6_259 : Int32) (x7_259 : Int32) (H : Heap) (locs : List Loc) (ls : Array Slot), g_X12_reads_b259 n_p1 p1 p2 p3 (g_X12_reads_b24 n_p1 p1 p2 p3 n_24) t_numbers_259 t_signs_259 t_tokens_259 t_spoons_259 t_mostSpoons_259 x6_259 x7_259 = some o → va_P (dC, dI) vwCl [(a_t, .inr (15, [.ref a_t_s, .ref a_t_f, .ref a_t_before, .ref a_t_beforeF, .ref a_t_aside, .ref a_t_asideF, .ref a_t_saved, .ref a_t_savedF, .int t_isSaved, .ref a_t_past, .ref a_t_pastF, .int t_pastMany, .int t_boiled, .int t_thrown, .ref a_t_refused, .ref a_t_text, .int t_length, .int t_error, .ref a_t_signs, .ref a_t_numbers, .int t_tokens_259, .int t_spoons_259, .int t_mostSpoons_259, .ref a_t_row, .ref a_t_isBrothOn, .ref a_t_dramsOn, .ref a_t_brothOn, .int t_cause, .int t_causeDetail, .ref a_t_lowOn, .ref a_t_highOn, .ref a_t_lowStored, .ref a_t_highStored, .ref a_t_isBrothStored, .int t_storeMany, .ref a_t_step, .ref a_t_stepF, .ref a_t_line, .int t_lineMany])), (a_t_numbers, .inl (cT 0, 60, .inl t_numbers_259)), (a_t_signs, .inl (cT 2, 60, .inl t_signs_259))] H → va_D A [(a_t, .inr (15, [.ref a_t_s, .ref a_t_f, .ref a_t_before, .ref a_t_beforeF, .ref a_t_aside, .ref a_t_asideF, .ref a_t_saved, .ref a_t_savedF, .int t_isSaved, .ref a_t_past, .ref a_t_pastF, .int t_pastMany, .int t_boiled, .int t_thrown, .ref a_t_refused, .ref a_t_text, .int t_length, .int t_error, .ref a_t_signs, .ref a_t_numbers, .int t_tokens_259, .int t_spoons_259, .int t_mostSpoons_259, .ref a_t_row, .ref a_t_isBrothOn, .ref a_t_dramsOn, .ref a_t_brothOn, .int t_cause, .int t_causeDetail, .ref a_t_lowOn, .ref a_t_highOn, .ref a_t_lowStored, .ref a_t_highStored, .ref a_t_isBrothStored, .int t_storeMany, .ref a_t_step, .ref a_t_stepF, .ref a_t_line, .int t_lineMany])), (a_t_numbers, .inl (cT 0, 60, .inl t_numbers_259)), (a_t_signs, .inl (cT 2, 60, .inl t_signs_259))] → va_S A s.heap H locs → lv_has ls 11 [(0, .ref a_t), (1, .ref a_p1), (2, .int p2), (3, .int p3), (6, .int x6_259), (7, .int x7_259)] → W p l e ({ frames := 2, cells := 0, slots := 0, locals := 46 } : Room) s m [.ref a_t, .ref a_p1, .int p2, .int p3].toArray below meth c H locs 0 0 Q (F0 m 259 ls []) := by
        intro t_numbers_259 t_signs_259 t_tokens_259 t_spoons_259 t_mostSpoons_259 x6_259 x7_259 H locs ls h hP hD hS hl
        unfold g_X12_reads_b259 at h
        refine lv_aload_n hx hb dX12_reads_259 rfl (lv_at hl 0 rfl) ?_
        refine lv_iload hx hb dX12_reads_260 (lv_at hl 5 rfl) ?_
        refine lv_iconst (v := 0) hx hb dX12_reads_262 (by decide) ?_
        refine lv_iconst (v := 1) hx hb dX12_reads_263 (by decide) ?_
        refine lv_iconst (v := 0) hx hb dX12_reads_264 (by decide) ?_
        obtain ⟨r2, hq, h⟩ := gb_some h
        refine cxI (X2 := [(a_t, .inr (15, [.ref a_t_s, .ref a_t_f, .ref a_t_before, .ref a_t_beforeF, .ref a_t_aside, .ref a_t_asideF, .ref a_t_saved, .ref a_t_savedF, .int t_isSaved, .ref a_t_past, .ref a_t_pastF, .int t_pastMany, .int t_boiled, .int t_thrown, .ref a_t_refused, .ref a_t_text, .int t_length, .int t_error, .ref a_t_signs, .ref a_t_numbers, .int r2.2.1, .int r2.2.2.1, .int r2.2.2.2.1, .ref a_t_row, .ref a_t_isBrothOn, .ref a_t_dramsOn, .ref a_t_brothOn, .int t_cause, .int t_causeDetail, .ref a_t_lowOn, .ref a_t_highOn, .ref a_t_lowStored, .ref a_t_highStored, .ref a_t_isBrothStored, .int t_storeMany, .ref a_t_step, .ref a_t_stepF, .ref a_t_line, .int t_lineMany])), (a_t_numbers, .inl (cT 0, 60, .inl r2.2.2.2.2.2)), (a_t_signs, .inl (cT 2, 60, .inl r2.2.2.2.2.1))]) (va_runV (As := [.int x7_259, .int 0, .int 1, .int 0]) (rest := []) ⟨hx, hb, hml, hown, hta⟩ (c_X12_adds l dC dI cT hq (hP.sub (ws' := [(a_t, .inr (15, [.ref a_t_s, .ref a_t_f, .ref a_t_before, .ref a_t_beforeF, .ref a_t_aside, .ref a_t_asideF, .ref a_t_saved, .ref a_t_savedF, .int t_isSaved, .ref a_t_past, .ref a_t_pastF, .int t_pastMany, .int t_boiled, .int t_thrown, .ref a_t_refused, .ref a_t_text, .int t_length, .int t_error, .ref a_t_signs, .ref a_t_numbers, .int t_tokens_259, .int t_spoons_259, .int t_mostSpoons_259, .ref a_t_row, .ref a_t_isBrothOn, .ref a_t_dramsOn, .ref a_t_brothOn, .int t_cause, .int t_causeDetail, .ref a_t_lowOn, .ref a_t_highOn, .ref a_t_lowStored, .ref a_t_highStored, .ref a_t_isBrothStored, .int t_storeMany, .ref a_t_step, .ref a_t_stepF, .ref a_t_line, .int t_lineMany])), (a_t_signs, .inl (cT 2, 60, .inl t_signs_259)), (a_t_numbers, .inl (cT 0, 60, .inl t_numbers_259))]) [0, 2, 1] rfl) ((hD.sub [0, 2, 1] (by decide) rfl).weaken (fun _ _ _ _ => trivial))) (cV hta lm_X12_215 md_X12_adds ⟨(Nat.le_of_ble_eq_true rfl), (Nat.le_of_ble_eq_true rfl)⟩) ⟨fbK, va_recv hK hP (ci := 15) (q0 := 0) rfl rfl, fun U hU hW => ⟨rfl, hU, va_K.moved hW.alike hK⟩⟩ rfl rfl hl.1 rfl (lv_room (Nat.le_of_ble_eq_true rfl)) dX12_reads_265 ⟨(Nat.le_of_ble_eq_true rfl), (Nat.le_of_ble_eq_true rfl)⟩) hS hA hP hD [0, 2, 1] rfl [.inl 0, .inl 2, .inl 1] rfl rfl rfl (fun H locs hP hD hS => ?_)
        refine lv_if_eq (tgt := 275) hx hb dX12_reads_268 (by decide) (fun c0 => ?_) (fun c0 => ?_)
        · have h := (if_pos c0).symm.trans h
          exact wB_275 r2.2.2.2.2.2 r2.2.2.2.2.1 r2.2.1 r2.2.2.1 r2.2.2.2.1 x6_259 x7_259 _ _ _ h hP hD hS (lv_sub hl [0, 1, 2, 3, 4, 5] rfl)
        · have h := (if_neg c0).symm.trans h
          refine lv_iconst (v := 1) hx hb dX12_reads_271 (by decide) ?_
          refine lv_goto (tgt := 276) hx hb dX12_reads_272 (by decide) ?_
          exact wB_276 r2.2.2.2.2.2 r2.2.2.2.2.1 r2.2.1 r2.2.2.1 r2.2.2.2.1 x6_259 x7_259 1 _ _ _ h hP hD hS (lv_sub hl [0, 1, 2, 3, 4, 5] rfl)
      have wB_214 : ∀ (t_numbers_214 : Nat → Int32) (t_signs_214 : Nat → Int32) (t_tokens_214 : Int32) (t_spoons_214 : Int32) (t_mostSpoons_214 : Int32) (x6_214 : Int32) (x7_214 : Int32) (H : Heap) (locs : List Loc) (ls : Array Slot), g_X12_reads_b214 n_p1 p1 p2 p3 (g_X12_reads_b24 n_p1 p1 p2 p3 n_24) t_numbers_214 t_signs_214 t_tokens_214 t_spoons_214 t_mostSpoons_214 x6_214 x7_214 = some o → va_P (dC, dI) vwCl [(a_t, .inr (15, [.ref a_t_s, .ref a_t_f, .ref a_t_before, .ref a_t_beforeF, .ref a_t_aside, .ref a_t_asideF, .ref a_t_saved, .ref a_t_savedF, .int t_isSaved, .ref a_t_past, .ref a_t_pastF, .int t_pastMany, .int t_boiled, .int t_thrown, .ref a_t_refused, .ref a_t_text, .int t_length, .int t_error, .ref a_t_signs, .ref a_t_numbers, .int t_tokens_214, .int t_spoons_214, .int t_mostSpoons_214, .ref a_t_row, .ref a_t_isBrothOn, .ref a_t_dramsOn, .ref a_t_brothOn, .int t_cause, .int t_causeDetail, .ref a_t_lowOn, .ref a_t_highOn, .ref a_t_lowStored, .ref a_t_highStored, .ref a_t_isBrothStored, .int t_storeMany, .ref a_t_step, .ref a_t_stepF, .ref a_t_line, .int t_lineMany])), (a_t_numbers, .inl (cT 0, 60, .inl t_numbers_214)), (a_t_signs, .inl (cT 2, 60, .inl t_signs_214))] H → va_D A [(a_t, .inr (15, [.ref a_t_s, .ref a_t_f, .ref a_t_before, .ref a_t_beforeF, .ref a_t_aside, .ref a_t_asideF, .ref a_t_saved, .ref a_t_savedF, .int t_isSaved, .ref a_t_past, .ref a_t_pastF, .int t_pastMany, .int t_boiled, .int t_thrown, .ref a_t_refused, .ref a_t_text, .int t_length, .int t_error, .ref a_t_signs, .ref a_t_numbers, .int t_tokens_214, .int t_spoons_214, .int t_mostSpoons_214, .ref a_t_row, .ref a_t_isBrothOn, .ref a_t_dramsOn, .ref a_t_brothOn, .int t_cause, .int t_causeDetail, .ref a_t_lowOn, .ref a_t_highOn, .ref a_t_lowStored, .ref a_t_highStored, .ref a_t_isBrothStored, .int t_storeMany, .ref a_t_step, .ref a_t_stepF, .ref a_t_line, .int t_lineMany])), (a_t_numbers, .inl (cT 0, 60, .inl t_numbers_214)), (a_t_signs, .inl (cT 2, 60, .inl t_signs_214))] → va_S A s.heap H locs → lv_has ls 11 [(0, .ref a_t), (1, .ref a_p1), (2, .int p2), (3, .int p3), (6, .int x6_214), (7, .int x7_214)] → W p l e ({ frames := 2, cells := 0, slots := 0, locals := 46 } : Room) s m [.ref a_t, .ref a_p1, .int p2, .int p3].toArray below meth c H locs 0 0 Q (F0 m 214 ls []) := by
        intro t_numbers_214 t_signs_214 t_tokens_214 t_spoons_214 t_mostSpoons_214 x6_214 x7_214 H locs ls h hP hD hS hl
        unfold g_X12_reads_b214 at h
        refine lv_aload_n hx hb dX12_reads_214 rfl (lv_at hl 0 rfl) ?_
        refine lv_iload hx hb dX12_reads_215 (lv_at hl 5 rfl) ?_
        refine lv_iconst (v := 0) hx hb dX12_reads_217 (by decide) ?_
        refine lv_iconst (v := 2) hx hb dX12_reads_218 (by decide) ?_
        refine lv_iconst (v := -1) hx hb dX12_reads_219 (by decide) ?_
        obtain ⟨r3, hq, h⟩ := gb_some h
        refine cxI (X2 := [(a_t, .inr (15, [.ref a_t_s, .ref a_t_f, .ref a_t_before, .ref a_t_beforeF, .ref a_t_aside, .ref a_t_asideF, .ref a_t_saved, .ref a_t_savedF, .int t_isSaved, .ref a_t_past, .ref a_t_pastF, .int t_pastMany, .int t_boiled, .int t_thrown, .ref a_t_refused, .ref a_t_text, .int t_length, .int t_error, .ref a_t_signs, .ref a_t_numbers, .int r3.2.1, .int r3.2.2.1, .int r3.2.2.2.1, .ref a_t_row, .ref a_t_isBrothOn, .ref a_t_dramsOn, .ref a_t_brothOn, .int t_cause, .int t_causeDetail, .ref a_t_lowOn, .ref a_t_highOn, .ref a_t_lowStored, .ref a_t_highStored, .ref a_t_isBrothStored, .int t_storeMany, .ref a_t_step, .ref a_t_stepF, .ref a_t_line, .int t_lineMany])), (a_t_numbers, .inl (cT 0, 60, .inl r3.2.2.2.2.2)), (a_t_signs, .inl (cT 2, 60, .inl r3.2.2.2.2.1))]) (va_runV (As := [.int x7_214, .int 0, .int 2, .int (-1)]) (rest := []) ⟨hx, hb, hml, hown, hta⟩ (c_X12_adds l dC dI cT hq (hP.sub (ws' := [(a_t, .inr (15, [.ref a_t_s, .ref a_t_f, .ref a_t_before, .ref a_t_beforeF, .ref a_t_aside, .ref a_t_asideF, .ref a_t_saved, .ref a_t_savedF, .int t_isSaved, .ref a_t_past, .ref a_t_pastF, .int t_pastMany, .int t_boiled, .int t_thrown, .ref a_t_refused, .ref a_t_text, .int t_length, .int t_error, .ref a_t_signs, .ref a_t_numbers, .int t_tokens_214, .int t_spoons_214, .int t_mostSpoons_214, .ref a_t_row, .ref a_t_isBrothOn, .ref a_t_dramsOn, .ref a_t_brothOn, .int t_cause, .int t_causeDetail, .ref a_t_lowOn, .ref a_t_highOn, .ref a_t_lowStored, .ref a_t_highStored, .ref a_t_isBrothStored, .int t_storeMany, .ref a_t_step, .ref a_t_stepF, .ref a_t_line, .int t_lineMany])), (a_t_signs, .inl (cT 2, 60, .inl t_signs_214)), (a_t_numbers, .inl (cT 0, 60, .inl t_numbers_214))]) [0, 2, 1] rfl) ((hD.sub [0, 2, 1] (by decide) rfl).weaken (fun _ _ _ _ => trivial))) (cV hta lm_X12_215 md_X12_adds ⟨(Nat.le_of_ble_eq_true rfl), (Nat.le_of_ble_eq_true rfl)⟩) ⟨fbK, va_recv hK hP (ci := 15) (q0 := 0) rfl rfl, fun U hU hW => ⟨rfl, hU, va_K.moved hW.alike hK⟩⟩ rfl rfl hl.1 rfl (lv_room (Nat.le_of_ble_eq_true rfl)) dX12_reads_220 ⟨(Nat.le_of_ble_eq_true rfl), (Nat.le_of_ble_eq_true rfl)⟩) hS hA hP hD [0, 2, 1] rfl [.inl 0, .inl 2, .inl 1] rfl rfl rfl (fun H locs hP hD hS => ?_)
        refine lv_goto (tgt := 276) hx hb dX12_reads_223 (by decide) ?_
        exact wB_276 r3.2.2.2.2.2 r3.2.2.2.2.1 r3.2.1 r3.2.2.1 r3.2.2.2.1 x6_214 x7_214 r3.1 _ _ _ h hP hD hS (lv_sub hl [0, 1, 2, 3, 4, 5] rfl)
      have wB_179 : ∀ (t_numbers_179 : Nat → Int32) (t_signs_179 : Nat → Int32) (t_tokens_179 : Int32) (t_spoons_179 : Int32) (t_mostSpoons_179 : Int32) (x5_179 : Int32) (x6_179 : Int32) (x9_179 : Int32) (s1_179 : Int32) (s2_179 : Int32) (H : Heap) (locs : List Loc) (ls : Array Slot), g_X12_reads_b179 n_p1 p1 p2 p3 (g_X12_reads_b24 n_p1 p1 p2 p3 n_24) t_numbers_179 t_signs_179 t_tokens_179 t_spoons_179 t_mostSpoons_179 x5_179 x6_179 x9_179 s1_179 s2_179 = some o → va_P (dC, dI) vwCl [(a_t, .inr (15, [.ref a_t_s, .ref a_t_f, .ref a_t_before, .ref a_t_beforeF, .ref a_t_aside, .ref a_t_asideF, .ref a_t_saved, .ref a_t_savedF, .int t_isSaved, .ref a_t_past, .ref a_t_pastF, .int t_pastMany, .int t_boiled, .int t_thrown, .ref a_t_refused, .ref a_t_text, .int t_length, .int t_error, .ref a_t_signs, .ref a_t_numbers, .int t_tokens_179, .int t_spoons_179, .int t_mostSpoons_179, .ref a_t_row, .ref a_t_isBrothOn, .ref a_t_dramsOn, .ref a_t_brothOn, .int t_cause, .int t_causeDetail, .ref a_t_lowOn, .ref a_t_highOn, .ref a_t_lowStored, .ref a_t_highStored, .ref a_t_isBrothStored, .int t_storeMany, .ref a_t_step, .ref a_t_stepF, .ref a_t_line, .int t_lineMany])), (a_t_numbers, .inl (cT 0, 60, .inl t_numbers_179)), (a_t_signs, .inl (cT 2, 60, .inl t_signs_179))] H → va_D A [(a_t, .inr (15, [.ref a_t_s, .ref a_t_f, .ref a_t_before, .ref a_t_beforeF, .ref a_t_aside, .ref a_t_asideF, .ref a_t_saved, .ref a_t_savedF, .int t_isSaved, .ref a_t_past, .ref a_t_pastF, .int t_pastMany, .int t_boiled, .int t_thrown, .ref a_t_refused, .ref a_t_text, .int t_length, .int t_error, .ref a_t_signs, .ref a_t_numbers, .int t_tokens_179, .int t_spoons_179, .int t_mostSpoons_179, .ref a_t_row, .ref a_t_isBrothOn, .ref a_t_dramsOn, .ref a_t_brothOn, .int t_cause, .int t_causeDetail, .ref a_t_lowOn, .ref a_t_highOn, .ref a_t_lowStored, .ref a_t_highStored, .ref a_t_isBrothStored, .int t_storeMany, .ref a_t_step, .ref a_t_stepF, .ref a_t_line, .int t_lineMany])), (a_t_numbers, .inl (cT 0, 60, .inl t_numbers_179)), (a_t_signs, .inl (cT 2, 60, .inl t_signs_179))] → va_S A s.heap H locs → lv_has ls 11 [(0, .ref a_t), (1, .ref a_p1), (2, .int p2), (3, .int p3), (5, .int x5_179), (6, .int x6_179), (9, .int x9_179)] → W p l e ({ frames := 2, cells := 0, slots := 0, locals := 46 } : Room) s m [.ref a_t, .ref a_p1, .int p2, .int p3].toArray below meth c H locs 0 0 Q (F0 m 179 ls [.int s2_179, .int s1_179, .ref a_t]) := by
        intro t_numbers_179 t_signs_179 t_tokens_179 t_spoons_179 t_mostSpoons_179 x5_179 x6_179 x9_179 s1_179 s2_179 H locs ls h hP hD hS hl
        unfold g_X12_reads_b179 at h
        refine lv_iconst (v := 0) hx hb dX12_reads_179 (by decide) ?_
        refine lv_iconst (v := 1) hx hb dX12_reads_180 (by decide) ?_
        obtain ⟨r4, hq, h⟩ := gb_some h
        refine cxI (X2 := [(a_t, .inr (15, [.ref a_t_s, .ref a_t_f, .ref a_t_before, .ref a_t_beforeF, .ref a_t_aside, .ref a_t_asideF, .ref a_t_saved, .ref a_t_savedF, .int t_isSaved, .ref a_t_past, .ref a_t_pastF, .int t_pastMany, .int t_boiled, .int t_thrown, .ref a_t_refused, .ref a_t_text, .int t_length, .int t_error, .ref a_t_signs, .ref a_t_numbers, .int r4.2.1, .int r4.2.2.1, .int r4.2.2.2.1, .ref a_t_row, .ref a_t_isBrothOn, .ref a_t_dramsOn, .ref a_t_brothOn, .int t_cause, .int t_causeDetail, .ref a_t_lowOn, .ref a_t_highOn, .ref a_t_lowStored, .ref a_t_highStored, .ref a_t_isBrothStored, .int t_storeMany, .ref a_t_step, .ref a_t_stepF, .ref a_t_line, .int t_lineMany])), (a_t_numbers, .inl (cT 0, 60, .inl r4.2.2.2.2.2)), (a_t_signs, .inl (cT 2, 60, .inl r4.2.2.2.2.1))]) (va_runV (As := [.int s1_179, .int s2_179, .int 0, .int 1]) (rest := []) ⟨hx, hb, hml, hown, hta⟩ (c_X12_adds l dC dI cT hq (hP.sub (ws' := [(a_t, .inr (15, [.ref a_t_s, .ref a_t_f, .ref a_t_before, .ref a_t_beforeF, .ref a_t_aside, .ref a_t_asideF, .ref a_t_saved, .ref a_t_savedF, .int t_isSaved, .ref a_t_past, .ref a_t_pastF, .int t_pastMany, .int t_boiled, .int t_thrown, .ref a_t_refused, .ref a_t_text, .int t_length, .int t_error, .ref a_t_signs, .ref a_t_numbers, .int t_tokens_179, .int t_spoons_179, .int t_mostSpoons_179, .ref a_t_row, .ref a_t_isBrothOn, .ref a_t_dramsOn, .ref a_t_brothOn, .int t_cause, .int t_causeDetail, .ref a_t_lowOn, .ref a_t_highOn, .ref a_t_lowStored, .ref a_t_highStored, .ref a_t_isBrothStored, .int t_storeMany, .ref a_t_step, .ref a_t_stepF, .ref a_t_line, .int t_lineMany])), (a_t_signs, .inl (cT 2, 60, .inl t_signs_179)), (a_t_numbers, .inl (cT 0, 60, .inl t_numbers_179))]) [0, 2, 1] rfl) ((hD.sub [0, 2, 1] (by decide) rfl).weaken (fun _ _ _ _ => trivial))) (cV hta lm_X12_215 md_X12_adds ⟨(Nat.le_of_ble_eq_true rfl), (Nat.le_of_ble_eq_true rfl)⟩) ⟨fbK, va_recv hK hP (ci := 15) (q0 := 0) rfl rfl, fun U hU hW => ⟨rfl, hU, va_K.moved hW.alike hK⟩⟩ rfl rfl hl.1 rfl (lv_room (Nat.le_of_ble_eq_true rfl)) dX12_reads_181 ⟨(Nat.le_of_ble_eq_true rfl), (Nat.le_of_ble_eq_true rfl)⟩) hS hA hP hD [0, 2, 1] rfl [.inl 0, .inl 2, .inl 1] rfl rfl rfl (fun H locs hP hD hS => ?_)
        refine lv_istore (lv' := [(10, .int r4.1), (0, .ref a_t), (1, .ref a_p1), (2, .int p2), (3, .int p3), (5, .int x5_179), (6, .int x6_179), (9, .int x9_179)]) hx hb dX12_reads_184 hl (by decide) rfl (fun ls hl => ?_)
        refine lv_iload hx hb dX12_reads_186 (lv_at hl 7 rfl) ?_
        refine lv_istore (lv' := [(4, .int x9_179), (10, .int r4.1), (0, .ref a_t), (1, .ref a_p1), (2, .int p2), (3, .int p3), (5, .int x5_179), (6, .int x6_179), (9, .int x9_179)]) hx hb dX12_reads_188 hl (by decide) rfl (fun ls hl => ?_)
        refine lv_goto (tgt := 295) hx hb dX12_reads_190 (by decide) ?_
        exact wB_295 r4.2.2.2.2.2 r4.2.2.2.2.1 r4.2.1 r4.2.2.1 r4.2.2.2.1 r4.1 x9_179 x5_179 x6_179 _ _ _ h hP hD hS (lv_sub hl [2, 3, 4, 5, 0, 6, 7, 1] rfl)
      have wB_158 : ∀ (t_numbers_158 : Nat → Int32) (t_signs_158 : Nat → Int32) (t_tokens_158 : Int32) (t_spoons_158 : Int32) (t_mostSpoons_158 : Int32) (x5_158 : Int32) (x6_158 : Int32) (x7_158 : Int32) (x8_158 : Int32) (x9_158 : Int32) (H : Heap) (locs : List Loc) (ls : Array Slot), g_X12_reads_b158 n_p1 p1 p2 p3 (g_X12_reads_b24 n_p1 p1 p2 p3 n_24) t_numbers_158 t_signs_158 t_tokens_158 t_spoons_158 t_mostSpoons_158 x5_158 x6_158 x7_158 x8_158 x9_158 = some o → va_P (dC, dI) vwCl [(a_t, .inr (15, [.ref a_t_s, .ref a_t_f, .ref a_t_before, .ref a_t_beforeF, .ref a_t_aside, .ref a_t_asideF, .ref a_t_saved, .ref a_t_savedF, .int t_isSaved, .ref a_t_past, .ref a_t_pastF, .int t_pastMany, .int t_boiled, .int t_thrown, .ref a_t_refused, .ref a_t_text, .int t_length, .int t_error, .ref a_t_signs, .ref a_t_numbers, .int t_tokens_158, .int t_spoons_158, .int t_mostSpoons_158, .ref a_t_row, .ref a_t_isBrothOn, .ref a_t_dramsOn, .ref a_t_brothOn, .int t_cause, .int t_causeDetail, .ref a_t_lowOn, .ref a_t_highOn, .ref a_t_lowStored, .ref a_t_highStored, .ref a_t_isBrothStored, .int t_storeMany, .ref a_t_step, .ref a_t_stepF, .ref a_t_line, .int t_lineMany])), (a_t_numbers, .inl (cT 0, 60, .inl t_numbers_158)), (a_t_signs, .inl (cT 2, 60, .inl t_signs_158))] H → va_D A [(a_t, .inr (15, [.ref a_t_s, .ref a_t_f, .ref a_t_before, .ref a_t_beforeF, .ref a_t_aside, .ref a_t_asideF, .ref a_t_saved, .ref a_t_savedF, .int t_isSaved, .ref a_t_past, .ref a_t_pastF, .int t_pastMany, .int t_boiled, .int t_thrown, .ref a_t_refused, .ref a_t_text, .int t_length, .int t_error, .ref a_t_signs, .ref a_t_numbers, .int t_tokens_158, .int t_spoons_158, .int t_mostSpoons_158, .ref a_t_row, .ref a_t_isBrothOn, .ref a_t_dramsOn, .ref a_t_brothOn, .int t_cause, .int t_causeDetail, .ref a_t_lowOn, .ref a_t_highOn, .ref a_t_lowStored, .ref a_t_highStored, .ref a_t_isBrothStored, .int t_storeMany, .ref a_t_step, .ref a_t_stepF, .ref a_t_line, .int t_lineMany])), (a_t_numbers, .inl (cT 0, 60, .inl t_numbers_158)), (a_t_signs, .inl (cT 2, 60, .inl t_signs_158))] → va_S A s.heap H locs → lv_has ls 11 [(0, .ref a_t), (1, .ref a_p1), (2, .int p2), (3, .int p3), (5, .int x5_158), (6, .int x6_158), (7, .int x7_158), (8, .int x8_158), (9, .int x9_158)] → W p l e ({ frames := 2, cells := 0, slots := 0, locals := 46 } : Room) s m [.ref a_t, .ref a_p1, .int p2, .int p3].toArray below meth c H locs 0 0 Q (F0 m 158 ls []) := by
        intro t_numbers_158 t_signs_158 t_tokens_158 t_spoons_158 t_mostSpoons_158 x5_158 x6_158 x7_158 x8_158 x9_158 H locs ls h hP hD hS hl
        unfold g_X12_reads_b158 at h
        refine lv_aload_n hx hb dX12_reads_158 rfl (lv_at hl 0 rfl) ?_
        refine lv_iload hx hb dX12_reads_159 (lv_at hl 6 rfl) ?_
        refine lv_iload hx hb dX12_reads_161 (lv_at hl 7 rfl) ?_
        refine lv_if_eq (tgt := 174) hx hb dX12_reads_163 (by decide) (fun c0 => ?_) (fun c0 => ?_)
        · have h := (if_pos c0).symm.trans h
          refine lv_iload hx hb dX12_reads_174 (lv_at hl 6 rfl) ?_
          refine lv_bipush (v := 48) hx hb dX12_reads_176 (by decide) ?_
          refine lv_isub hx hb dX12_reads_178 ?_
          exact wB_179 t_numbers_158 t_signs_158 t_tokens_158 t_spoons_158 t_mostSpoons_158 x5_158 x6_158 x9_158 x7_158 (x7_158 - 48) _ _ _ h hP hD hS (lv_sub hl [0, 1, 2, 3, 4, 5, 8] rfl)
        · have h := (if_neg c0).symm.trans h
          refine lv_iload hx hb dX12_reads_166 (lv_at hl 6 rfl) ?_
          refine lv_bipush (v := 97) hx hb dX12_reads_168 (by decide) ?_
          refine lv_isub hx hb dX12_reads_170 ?_
          refine lv_goto (tgt := 179) hx hb dX12_reads_171 (by decide) ?_
          exact wB_179 t_numbers_158 t_signs_158 t_tokens_158 t_spoons_158 t_mostSpoons_158 x5_158 x6_158 x9_158 x7_158 (x7_158 - 97) _ _ _ h hP hD hS (lv_sub hl [0, 1, 2, 3, 4, 5, 8] rfl)
      have wB_148 : ∀ (t_numbers_148 : Nat → Int32) (t_signs_148 : Nat → Int32) (t_tokens_148 : Int32) (t_spoons_148 : Int32) (t_mostSpoons_148 : Int32) (x5_148 : Int32) (x6_148 : Int32) (x7_148 : Int32) (x8_148 : Int32) (x9_148 : Int32) (H : Heap) (locs : List Loc) (ls : Array Slot), g_X12_reads_b148 n_p1 p1 p2 p3 (g_X12_reads_b24 n_p1 p1 p2 p3 n_24) t_numbers_148 t_signs_148 t_tokens_148 t_spoons_148 t_mostSpoons_148 x5_148 x6_148 x7_148 x8_148 x9_148 = some o → va_P (dC, dI) vwCl [(a_t, .inr (15, [.ref a_t_s, .ref a_t_f, .ref a_t_before, .ref a_t_beforeF, .ref a_t_aside, .ref a_t_asideF, .ref a_t_saved, .ref a_t_savedF, .int t_isSaved, .ref a_t_past, .ref a_t_pastF, .int t_pastMany, .int t_boiled, .int t_thrown, .ref a_t_refused, .ref a_t_text, .int t_length, .int t_error, .ref a_t_signs, .ref a_t_numbers, .int t_tokens_148, .int t_spoons_148, .int t_mostSpoons_148, .ref a_t_row, .ref a_t_isBrothOn, .ref a_t_dramsOn, .ref a_t_brothOn, .int t_cause, .int t_causeDetail, .ref a_t_lowOn, .ref a_t_highOn, .ref a_t_lowStored, .ref a_t_highStored, .ref a_t_isBrothStored, .int t_storeMany, .ref a_t_step, .ref a_t_stepF, .ref a_t_line, .int t_lineMany])), (a_t_numbers, .inl (cT 0, 60, .inl t_numbers_148)), (a_t_signs, .inl (cT 2, 60, .inl t_signs_148))] H → va_D A [(a_t, .inr (15, [.ref a_t_s, .ref a_t_f, .ref a_t_before, .ref a_t_beforeF, .ref a_t_aside, .ref a_t_asideF, .ref a_t_saved, .ref a_t_savedF, .int t_isSaved, .ref a_t_past, .ref a_t_pastF, .int t_pastMany, .int t_boiled, .int t_thrown, .ref a_t_refused, .ref a_t_text, .int t_length, .int t_error, .ref a_t_signs, .ref a_t_numbers, .int t_tokens_148, .int t_spoons_148, .int t_mostSpoons_148, .ref a_t_row, .ref a_t_isBrothOn, .ref a_t_dramsOn, .ref a_t_brothOn, .int t_cause, .int t_causeDetail, .ref a_t_lowOn, .ref a_t_highOn, .ref a_t_lowStored, .ref a_t_highStored, .ref a_t_isBrothStored, .int t_storeMany, .ref a_t_step, .ref a_t_stepF, .ref a_t_line, .int t_lineMany])), (a_t_numbers, .inl (cT 0, 60, .inl t_numbers_148)), (a_t_signs, .inl (cT 2, 60, .inl t_signs_148))] → va_S A s.heap H locs → lv_has ls 11 [(0, .ref a_t), (1, .ref a_p1), (2, .int p2), (3, .int p3), (5, .int x5_148), (6, .int x6_148), (7, .int x7_148), (8, .int x8_148), (9, .int x9_148)] → W p l e ({ frames := 2, cells := 0, slots := 0, locals := 46 } : Room) s m [.ref a_t, .ref a_p1, .int p2, .int p3].toArray below meth c H locs 0 0 Q (F0 m 148 ls []) := by
        intro t_numbers_148 t_signs_148 t_tokens_148 t_spoons_148 t_mostSpoons_148 x5_148 x6_148 x7_148 x8_148 x9_148 H locs ls h hP hD hS hl
        unfold g_X12_reads_b148 at h
        refine lv_iload hx hb dX12_reads_148 (lv_at hl 7 rfl) ?_
        refine lv_if_ne (tgt := 158) hx hb dX12_reads_150 (by decide) (fun c0 => ?_) (fun c0 => ?_)
        · have h := (if_neg c0).symm.trans h
          exact wB_158 t_numbers_148 t_signs_148 t_tokens_148 t_spoons_148 t_mostSpoons_148 x5_148 x6_148 x7_148 x8_148 x9_148 _ _ _ h hP hD hS (lv_sub hl [0, 1, 2, 3, 4, 5, 6, 7, 8] rfl)
        · have h := (if_pos c0).symm.trans h
          refine lv_iload hx hb dX12_reads_153 (lv_at hl 8 rfl) ?_
          refine lv_if_eq (tgt := 193) hx hb dX12_reads_155 (by decide) (fun c0 => ?_) (fun c0 => ?_)
          · have h := (if_pos c0).symm.trans h
            refine lv_iload hx hb dX12_reads_193 (lv_at hl 6 rfl) ?_
            refine lv_bipush (v := 43) hx hb dX12_reads_195 (by decide) ?_
            refine lv_icmp_eq (tgt := 214) hx hb dX12_reads_197 (by decide) (fun c0 => ?_) (fun c0 => ?_)
            · have h := (if_pos c0).symm.trans h
              exact wB_214 t_numbers_148 t_signs_148 t_tokens_148 t_spoons_148 t_mostSpoons_148 x6_148 x7_148 _ _ _ h hP hD hS (lv_sub hl [0, 1, 2, 3, 5, 6] rfl)
            · have h := (if_neg c0).symm.trans h
              refine lv_iload hx hb dX12_reads_200 (lv_at hl 6 rfl) ?_
              refine lv_bipush (v := 45) hx hb dX12_reads_202 (by decide) ?_
              refine lv_icmp_eq (tgt := 214) hx hb dX12_reads_204 (by decide) (fun c0 => ?_) (fun c0 => ?_)
              · have h := (if_pos c0).symm.trans h
                exact wB_214 t_numbers_148 t_signs_148 t_tokens_148 t_spoons_148 t_mostSpoons_148 x6_148 x7_148 _ _ _ h hP hD hS (lv_sub hl [0, 1, 2, 3, 5, 6] rfl)
              · have h := (if_neg c0).symm.trans h
                refine lv_iload hx hb dX12_reads_207 (lv_at hl 6 rfl) ?_
                refine lv_bipush (v := 42) hx hb dX12_reads_209 (by decide) ?_
                refine lv_icmp_ne (tgt := 226) hx hb dX12_reads_211 (by decide) (fun c0 => ?_) (fun c0 => ?_)
                · have h := (if_neg c0).symm.trans h
                  refine lv_iload hx hb dX12_reads_226 (lv_at hl 6 rfl) ?_
                  refine lv_bipush (v := 61) hx hb dX12_reads_228 (by decide) ?_
                  refine lv_icmp_ne (tgt := 245) hx hb dX12_reads_230 (by decide) (fun c0 => ?_) (fun c0 => ?_)
                  · have h := (if_neg c0).symm.trans h
                    refine lv_iload hx hb dX12_reads_245 (lv_at hl 6 rfl) ?_
                    refine lv_bipush (v := 126) hx hb dX12_reads_247 (by decide) ?_
                    refine lv_icmp_eq (tgt := 259) hx hb dX12_reads_249 (by decide) (fun c0 => ?_) (fun c0 => ?_)
                    · have h := (if_pos c0).symm.trans h
                      exact wB_259 t_numbers_148 t_signs_148 t_tokens_148 t_spoons_148 t_mostSpoons_148 x6_148 x7_148 _ _ _ h hP hD hS (lv_sub hl [0, 1, 2, 3, 5, 6] rfl)
                    · have h := (if_neg c0).symm.trans h
                      refine lv_iload hx hb dX12_reads_252 (lv_at hl 6 rfl) ?_
                      refine lv_bipush (v := 33) hx hb dX12_reads_254 (by decide) ?_
                      refine lv_icmp_ne (tgt := 275) hx hb dX12_reads_256 (by decide) (fun c0 => ?_) (fun c0 => ?_)
                      · have h := (if_neg c0).symm.trans h
                        exact wB_275 t_numbers_148 t_signs_148 t_tokens_148 t_spoons_148 t_mostSpoons_148 x6_148 x7_148 _ _ _ h hP hD hS (lv_sub hl [0, 1, 2, 3, 5, 6] rfl)
                      · have h := (if_pos c0).symm.trans h
                        exact wB_259 t_numbers_148 t_signs_148 t_tokens_148 t_spoons_148 t_mostSpoons_148 x6_148 x7_148 _ _ _ h hP hD hS (lv_sub hl [0, 1, 2, 3, 5, 6] rfl)
                  · have h := (if_pos c0).symm.trans h
                    refine lv_aload_n hx hb dX12_reads_233 rfl (lv_at hl 0 rfl) ?_
                    refine lv_iload hx hb dX12_reads_234 (lv_at hl 6 rfl) ?_
                    refine lv_iconst (v := 0) hx hb dX12_reads_236 (by decide) ?_
                    refine lv_iconst (v := 1) hx hb dX12_reads_237 (by decide) ?_
                    refine lv_iconst (v := -1) hx hb dX12_reads_238 (by decide) ?_
                    obtain ⟨r5, hq, h⟩ := gb_some h
                    refine cxI (X2 := [(a_t, .inr (15, [.ref a_t_s, .ref a_t_f, .ref a_t_before, .ref a_t_beforeF, .ref a_t_aside, .ref a_t_asideF, .ref a_t_saved, .ref a_t_savedF, .int t_isSaved, .ref a_t_past, .ref a_t_pastF, .int t_pastMany, .int t_boiled, .int t_thrown, .ref a_t_refused, .ref a_t_text, .int t_length, .int t_error, .ref a_t_signs, .ref a_t_numbers, .int r5.2.1, .int r5.2.2.1, .int r5.2.2.2.1, .ref a_t_row, .ref a_t_isBrothOn, .ref a_t_dramsOn, .ref a_t_brothOn, .int t_cause, .int t_causeDetail, .ref a_t_lowOn, .ref a_t_highOn, .ref a_t_lowStored, .ref a_t_highStored, .ref a_t_isBrothStored, .int t_storeMany, .ref a_t_step, .ref a_t_stepF, .ref a_t_line, .int t_lineMany])), (a_t_numbers, .inl (cT 0, 60, .inl r5.2.2.2.2.2)), (a_t_signs, .inl (cT 2, 60, .inl r5.2.2.2.2.1))]) (va_runV (As := [.int x7_148, .int 0, .int 1, .int (-1)]) (rest := []) ⟨hx, hb, hml, hown, hta⟩ (c_X12_adds l dC dI cT hq (hP.sub (ws' := [(a_t, .inr (15, [.ref a_t_s, .ref a_t_f, .ref a_t_before, .ref a_t_beforeF, .ref a_t_aside, .ref a_t_asideF, .ref a_t_saved, .ref a_t_savedF, .int t_isSaved, .ref a_t_past, .ref a_t_pastF, .int t_pastMany, .int t_boiled, .int t_thrown, .ref a_t_refused, .ref a_t_text, .int t_length, .int t_error, .ref a_t_signs, .ref a_t_numbers, .int t_tokens_148, .int t_spoons_148, .int t_mostSpoons_148, .ref a_t_row, .ref a_t_isBrothOn, .ref a_t_dramsOn, .ref a_t_brothOn, .int t_cause, .int t_causeDetail, .ref a_t_lowOn, .ref a_t_highOn, .ref a_t_lowStored, .ref a_t_highStored, .ref a_t_isBrothStored, .int t_storeMany, .ref a_t_step, .ref a_t_stepF, .ref a_t_line, .int t_lineMany])), (a_t_signs, .inl (cT 2, 60, .inl t_signs_148)), (a_t_numbers, .inl (cT 0, 60, .inl t_numbers_148))]) [0, 2, 1] rfl) ((hD.sub [0, 2, 1] (by decide) rfl).weaken (fun _ _ _ _ => trivial))) (cV hta lm_X12_215 md_X12_adds ⟨(Nat.le_of_ble_eq_true rfl), (Nat.le_of_ble_eq_true rfl)⟩) ⟨fbK, va_recv hK hP (ci := 15) (q0 := 0) rfl rfl, fun U hU hW => ⟨rfl, hU, va_K.moved hW.alike hK⟩⟩ rfl rfl hl.1 rfl (lv_room (Nat.le_of_ble_eq_true rfl)) dX12_reads_239 ⟨(Nat.le_of_ble_eq_true rfl), (Nat.le_of_ble_eq_true rfl)⟩) hS hA hP hD [0, 2, 1] rfl [.inl 0, .inl 2, .inl 1] rfl rfl rfl (fun H locs hP hD hS => ?_)
                    refine lv_goto (tgt := 276) hx hb dX12_reads_242 (by decide) ?_
                    exact wB_276 r5.2.2.2.2.2 r5.2.2.2.2.1 r5.2.1 r5.2.2.1 r5.2.2.2.1 x6_148 x7_148 r5.1 _ _ _ h hP hD hS (lv_sub hl [0, 1, 2, 3, 5, 6] rfl)
                · have h := (if_pos c0).symm.trans h
                  exact wB_214 t_numbers_148 t_signs_148 t_tokens_148 t_spoons_148 t_mostSpoons_148 x6_148 x7_148 _ _ _ h hP hD hS (lv_sub hl [0, 1, 2, 3, 5, 6] rfl)
          · have h := (if_neg c0).symm.trans h
            exact wB_158 t_numbers_148 t_signs_148 t_tokens_148 t_spoons_148 t_mostSpoons_148 x5_148 x6_148 x7_148 x8_148 x9_148 _ _ _ h hP hD hS (lv_sub hl [0, 1, 2, 3, 4, 5, 6, 7, 8] rfl)
      intro t_numbers_24 t_signs_24 t_tokens_24 t_spoons_24 t_mostSpoons_24 x4_24 x5_24 x6_24 H locs ls h hP hD hS hl
      rw [g_X12_reads_b24] at h
      refine lv_iload hx hb dX12_reads_24 (lv_at hl 6 rfl) ?_
      refine lv_iload_n hx hb dX12_reads_26 rfl (lv_at hl 3 rfl) ?_
      refine lv_icmp_ge (tgt := 309) hx hb dX12_reads_27 (by decide) (fun c0 => ?_) (fun c0 => ?_)
      · have h := (if_pos c0).symm.trans h
        refine lv_iload hx hb dX12_reads_309 (lv_at hl 5 rfl) ?_
        refine lv_if_ne (tgt := 328) hx hb dX12_reads_311 (by decide) (fun c0 => ?_) (fun c0 => ?_)
        · have h := (if_neg c0).symm.trans h
          refine lv_iload_n hx hb dX12_reads_328 rfl (lv_at hl 3 rfl) ?_
          refine lv_goto (tgt := 333) hx hb dX12_reads_329 (by decide) ?_
          have ho := Option.some.inj h
          rw [hQ]
          exact W.iret (v := p3) hx hb hr (fun t ht hW => ⟨⟨p3, (), rfl, by rw [← ho], by show va_P (dC, dI) vwCl _ t.heap; rw [ht, ← ho]; exact hP⟩, hS.F ht⟩) hS.2.2 dX12_reads_333
        · have h := (if_pos c0).symm.trans h
          refine lv_aload_n hx hb dX12_reads_314 rfl (lv_at hl 0 rfl) ?_
          refine va_get (D := (dC, dI)) (ci := 15) (v := .int t_spoons_24) (C := RX12) (T := TX12) (N := 39) hx hb hta inX12w hown hK hP 0 rfl rfl 21 (by decide) (hta _ lk_X12_198) (fun _ h9 => h9) rfl dX12_reads_315 ?_
          refine lv_if_gt (tgt := 328) hx hb dX12_reads_318 (by decide) (fun c0 => ?_) (fun c0 => ?_)
          · have h := (if_pos c0).symm.trans h
            refine lv_iload_n hx hb dX12_reads_328 rfl (lv_at hl 3 rfl) ?_
            refine lv_goto (tgt := 333) hx hb dX12_reads_329 (by decide) ?_
            have ho := Option.some.inj h
            rw [hQ]
            exact W.iret (v := p3) hx hb hr (fun t ht hW => ⟨⟨p3, (), rfl, by rw [← ho], by show va_P (dC, dI) vwCl _ t.heap; rw [ht, ← ho]; exact hP⟩, hS.F ht⟩) hS.2.2 dX12_reads_333
          · have h := (if_neg c0).symm.trans h
            refine lv_aload_n hx hb dX12_reads_321 rfl (lv_at hl 0 rfl) ?_
            refine va_get (D := (dC, dI)) (ci := 15) (v := .int t_tokens_24) (C := RX12) (T := TX12) (N := 39) hx hb hta inX12w hown hK hP 0 rfl rfl 20 (by decide) (hta _ lk_X12_201) (fun _ h9 => h9) rfl dX12_reads_322 ?_
            refine lv_if_ne (tgt := 332) hx hb dX12_reads_325 (by decide) (fun c0 => ?_) (fun c0 => ?_)
            · have h := (if_neg c0).symm.trans h
              refine lv_iconst (v := -1) hx hb dX12_reads_332 (by decide) ?_
              have ho := Option.some.inj h
              rw [hQ]
              exact W.iret (v := (-1)) hx hb hr (fun t ht hW => ⟨⟨(-1), (), rfl, by rw [← ho], by show va_P (dC, dI) vwCl _ t.heap; rw [ht, ← ho]; exact hP⟩, hS.F ht⟩) hS.2.2 dX12_reads_333
            · have h := (if_pos c0).symm.trans h
              refine lv_iload_n hx hb dX12_reads_328 rfl (lv_at hl 3 rfl) ?_
              refine lv_goto (tgt := 333) hx hb dX12_reads_329 (by decide) ?_
              have ho := Option.some.inj h
              rw [hQ]
              exact W.iret (v := p3) hx hb hr (fun t ht hW => ⟨⟨p3, (), rfl, by rw [← ho], by show va_P (dC, dI) vwCl _ t.heap; rw [ht, ← ho]; exact hP⟩, hS.F ht⟩) hS.2.2 dX12_reads_333
      · have h := (if_neg c0).symm.trans h
        refine lv_aload_n hx hb dX12_reads_30 rfl (lv_at hl 1 rfl) ?_
        refine lv_iload_n hx hb dX12_reads_31 rfl (lv_at hl 2 rfl) ?_
        refine lv_iload hx hb dX12_reads_32 (lv_at hl 6 rfl) ?_
        refine lv_iadd hx hb dX12_reads_34 ?_
        obtain ⟨hc, h⟩ := gc_some h
        refine va_iald hx hb hK (rk hR0 hNA hS) 0 0 rfl rfl (inb_in hc) dX12_reads_35 ?_
        refine lv_i2c hx hb dX12_reads_36 rfl ?_
        refine lv_topi (fun v6 e_v6 => ?_)
        have h := gl_use e_v6 h
        refine lv_istore (lv' := [(7, .int v6), (0, .ref a_t), (1, .ref a_p1), (2, .int p2), (3, .int p3), (4, .int x4_24), (5, .int x5_24), (6, .int x6_24)]) hx hb dX12_reads_37 hl (by decide) rfl (fun ls hl => ?_)
        refine lv_iload hx hb dX12_reads_39 (lv_at hl 0 rfl) ?_
        refine lv_i2l hx hb dX12_reads_41 rfl ?_
        refine lv_ldc2 (v := 97) hx hb hown (hta _ kc_X12_207) dX12_reads_42 ?_
        refine lv_ldc2 (v := 102) hx hb hown (hta _ kc_X12_209) dX12_reads_45 ?_
        obtain ⟨r7, hq, h⟩ := gb_some h
        refine crI (va_runS (As := [.long v6.toInt64, .long (97 : Int64), .long (102 : Int64)]) (rest := []) ⟨hx, hb, hml, hown, hta⟩ (c_X12_in l dC dI cT hq) (cS hta lm_X12_112 md_X12_in ⟨(Nat.le_of_ble_eq_true rfl), (Nat.le_of_ble_eq_true rfl)⟩) ⟨fbK, fun U hU hW => ⟨rfl, hU, va_K.moved hW.alike hK⟩⟩ rfl rfl hl.1 rfl (lv_room (Nat.le_of_ble_eq_true rfl)) dX12_reads_48 ⟨(Nat.le_of_ble_eq_true rfl), (Nat.le_of_ble_eq_true rfl)⟩) hS hA (fun locs hS => ?_)
        refine lv_istore (lv' := [(8, .int r7), (7, .int v6), (0, .ref a_t), (1, .ref a_p1), (2, .int p2), (3, .int p3), (4, .int x4_24), (5, .int x5_24), (6, .int x6_24)]) hx hb dX12_reads_51 hl (by decide) rfl (fun ls hl => ?_)
        refine lv_iload hx hb dX12_reads_53 (lv_at hl 1 rfl) ?_
        refine lv_i2l hx hb dX12_reads_55 rfl ?_
        refine lv_ldc2 (v := 48) hx hb hown (hta _ kc_X12_211) dX12_reads_56 ?_
        refine lv_ldc2 (v := 57) hx hb hown (hta _ kc_X12_213) dX12_reads_59 ?_
        obtain ⟨r8, hq, h⟩ := gb_some h
        refine crI (va_runS (As := [.long v6.toInt64, .long (48 : Int64), .long (57 : Int64)]) (rest := []) ⟨hx, hb, hml, hown, hta⟩ (c_X12_in l dC dI cT hq) (cS hta lm_X12_112 md_X12_in ⟨(Nat.le_of_ble_eq_true rfl), (Nat.le_of_ble_eq_true rfl)⟩) ⟨fbK, fun U hU hW => ⟨rfl, hU, va_K.moved hW.alike hK⟩⟩ rfl rfl hl.1 rfl (lv_room (Nat.le_of_ble_eq_true rfl)) dX12_reads_62 ⟨(Nat.le_of_ble_eq_true rfl), (Nat.le_of_ble_eq_true rfl)⟩) hS hA (fun locs hS => ?_)
        refine lv_istore (lv' := [(9, .int r8), (8, .int r7), (7, .int v6), (0, .ref a_t), (1, .ref a_p1), (2, .int p2), (3, .int p3), (4, .int x4_24), (5, .int x5_24), (6, .int x6_24)]) hx hb dX12_reads_65 hl (by decide) rfl (fun ls hl => ?_)
        refine lv_iload hx hb dX12_reads_67 (lv_at hl 8 rfl) ?_
        refine lv_if_eq (tgt := 98) hx hb dX12_reads_69 (by decide) (fun c0 => ?_) (fun c0 => ?_)
        · have h := (if_pos c0).symm.trans h
          refine lv_iload hx hb dX12_reads_98 (lv_at hl 0 rfl) ?_
          refine lv_if_eq (tgt := 148) hx hb dX12_reads_100 (by decide) (fun c0 => ?_) (fun c0 => ?_)
          · have h := (if_pos c0).symm.trans h
            exact wB_148 t_numbers_24 t_signs_24 t_tokens_24 t_spoons_24 t_mostSpoons_24 x5_24 x6_24 v6 r7 r8 _ _ _ h hP hD hS (lv_sub hl [3, 4, 5, 6, 8, 9, 2, 1, 0] rfl)
          · have h := (if_neg c0).symm.trans h
            refine lv_iload hx hb dX12_reads_103 (lv_at hl 7 rfl) ?_
            refine lv_if_eq (tgt := 148) hx hb dX12_reads_105 (by decide) (fun c0 => ?_) (fun c0 => ?_)
            · have h := (if_pos c0).symm.trans h
              exact wB_148 t_numbers_24 t_signs_24 t_tokens_24 t_spoons_24 t_mostSpoons_24 x5_24 x6_24 v6 r7 r8 _ _ _ h hP hD hS (lv_sub hl [3, 4, 5, 6, 8, 9, 2, 1, 0] rfl)
            · have h := (if_neg c0).symm.trans h
              refine lv_iconst (v := 1) hx hb dX12_reads_108 (by decide) ?_
              refine lv_istore (lv' := [(10, .int 1), (9, .int r8), (8, .int r7), (7, .int v6), (0, .ref a_t), (1, .ref a_p1), (2, .int p2), (3, .int p3), (4, .int x4_24), (5, .int x5_24), (6, .int x6_24)]) hx hb dX12_reads_109 hl (by decide) rfl (fun ls hl => ?_)
              refine lv_aload_n hx hb dX12_reads_111 rfl (lv_at hl 4 rfl) ?_
              refine va_get (D := (dC, dI)) (ci := 15) (v := .ref a_t_numbers) (C := RX12) (T := TX12) (N := 39) hx hb hta inX12w hown hK hP 0 rfl rfl 19 (by decide) (hta _ lk_X12_55) (fun _ h9 => h9) rfl dX12_reads_112 ?_
              refine lv_aload_n hx hb dX12_reads_115 rfl (lv_at hl 4 rfl) ?_
              refine va_get (D := (dC, dI)) (ci := 15) (v := .int t_tokens_24) (C := RX12) (T := TX12) (N := 39) hx hb hta inX12w hown hK hP 0 rfl rfl 20 (by decide) (hta _ lk_X12_201) (fun _ h9 => h9) rfl dX12_reads_116 ?_
              refine lv_iconst (v := 1) hx hb dX12_reads_119 (by decide) ?_
              refine lv_isub hx hb dX12_reads_120 ?_
              refine lv_bipush (v := 10) hx hb dX12_reads_121 (by decide) ?_
              refine lv_aload_n hx hb dX12_reads_123 rfl (lv_at hl 4 rfl) ?_
              refine va_get (D := (dC, dI)) (ci := 15) (v := .ref a_t_numbers) (C := RX12) (T := TX12) (N := 39) hx hb hta inX12w hown hK hP 0 rfl rfl 19 (by decide) (hta _ lk_X12_55) (fun _ h9 => h9) rfl dX12_reads_124 ?_
              refine lv_aload_n hx hb dX12_reads_127 rfl (lv_at hl 4 rfl) ?_
              refine va_get (D := (dC, dI)) (ci := 15) (v := .int t_tokens_24) (C := RX12) (T := TX12) (N := 39) hx hb hta inX12w hown hK hP 0 rfl rfl 20 (by decide) (hta _ lk_X12_201) (fun _ h9 => h9) rfl dX12_reads_128 ?_
              refine lv_iconst (v := 1) hx hb dX12_reads_131 (by decide) ?_
              refine lv_isub hx hb dX12_reads_132 ?_
              obtain ⟨hc, h⟩ := gc_some h
              refine va_iald hx hb hK hP 1 0 rfl rfl (inb_in hc) dX12_reads_133 ?_
              refine lv_imul hx hb dX12_reads_134 ?_
              refine lv_iload hx hb dX12_reads_135 (lv_at hl 3 rfl) ?_
              refine lv_iadd hx hb dX12_reads_137 ?_
              refine lv_bipush (v := 48) hx hb dX12_reads_138 (by decide) ?_
              refine lv_isub hx hb dX12_reads_140 ?_
              obtain ⟨hc, h⟩ := gc_some h
              refine va_iast hx hb hK hP hD hS 1 0 rfl rfl (inb_in hc) dX12_reads_141 (fun H locs hP hD hS => ?_)
              have hP : va_P (dC, dI) vwCl [(a_t, .inr (15, [.ref a_t_s, .ref a_t_f, .ref a_t_before, .ref a_t_beforeF, .ref a_t_aside, .ref a_t_asideF, .ref a_t_saved, .ref a_t_savedF, .int t_isSaved, .ref a_t_past, .ref a_t_pastF, .int t_pastMany, .int t_boiled, .int t_thrown, .ref a_t_refused, .ref a_t_text, .int t_length, .int t_error, .ref a_t_signs, .ref a_t_numbers, .int t_tokens_24, .int t_spoons_24, .int t_mostSpoons_24, .ref a_t_row, .ref a_t_isBrothOn, .ref a_t_dramsOn, .ref a_t_brothOn, .int t_cause, .int t_causeDetail, .ref a_t_lowOn, .ref a_t_highOn, .ref a_t_lowStored, .ref a_t_highStored, .ref a_t_isBrothStored, .int t_storeMany, .ref a_t_step, .ref a_t_stepF, .ref a_t_line, .int t_lineMany])), (a_t_numbers, .inl (cT 0, 60, .inl (upd t_numbers_24 (t_tokens_24 - 1).toNatClampNeg (((10 * (t_numbers_24 (t_tokens_24 - 1).toNatClampNeg)) + v6) - 48)))), (a_t_signs, .inl (cT 2, 60, .inl t_signs_24))] H := hP
              have hD : va_D A [(a_t, .inr (15, [.ref a_t_s, .ref a_t_f, .ref a_t_before, .ref a_t_beforeF, .ref a_t_aside, .ref a_t_asideF, .ref a_t_saved, .ref a_t_savedF, .int t_isSaved, .ref a_t_past, .ref a_t_pastF, .int t_pastMany, .int t_boiled, .int t_thrown, .ref a_t_refused, .ref a_t_text, .int t_length, .int t_error, .ref a_t_signs, .ref a_t_numbers, .int t_tokens_24, .int t_spoons_24, .int t_mostSpoons_24, .ref a_t_row, .ref a_t_isBrothOn, .ref a_t_dramsOn, .ref a_t_brothOn, .int t_cause, .int t_causeDetail, .ref a_t_lowOn, .ref a_t_highOn, .ref a_t_lowStored, .ref a_t_highStored, .ref a_t_isBrothStored, .int t_storeMany, .ref a_t_step, .ref a_t_stepF, .ref a_t_line, .int t_lineMany])), (a_t_numbers, .inl (cT 0, 60, .inl (upd t_numbers_24 (t_tokens_24 - 1).toNatClampNeg (((10 * (t_numbers_24 (t_tokens_24 - 1).toNatClampNeg)) + v6) - 48)))), (a_t_signs, .inl (cT 2, 60, .inl t_signs_24))] := hD
              refine lv_iconst (v := 0) hx hb dX12_reads_142 (by decide) ?_
              refine lv_istore (lv' := [(4, .int 0), (10, .int 1), (9, .int r8), (8, .int r7), (7, .int v6), (0, .ref a_t), (1, .ref a_p1), (2, .int p2), (3, .int p3), (5, .int x5_24), (6, .int x6_24)]) hx hb dX12_reads_143 hl (by decide) rfl (fun ls hl => ?_)
              refine lv_goto (tgt := 295) hx hb dX12_reads_145 (by decide) ?_
              exact wB_295 (upd t_numbers_24 (t_tokens_24 - 1).toNatClampNeg (((10 * (t_numbers_24 (t_tokens_24 - 1).toNatClampNeg)) + v6) - 48)) t_signs_24 t_tokens_24 t_spoons_24 t_mostSpoons_24 1 0 x5_24 x6_24 _ _ _ h hP hD hS (lv_sub hl [5, 6, 7, 8, 0, 9, 10, 1] rfl)
        · have h := (if_neg c0).symm.trans h
          refine lv_iload hx hb dX12_reads_72 (lv_at hl 1 rfl) ?_
          refine lv_istore (lv' := [(10, .int r7), (9, .int r8), (8, .int r7), (7, .int v6), (0, .ref a_t), (1, .ref a_p1), (2, .int p2), (3, .int p3), (4, .int x4_24), (5, .int x5_24), (6, .int x6_24)]) hx hb dX12_reads_74 hl (by decide) rfl (fun ls hl => ?_)
          refine lv_aload_n hx hb dX12_reads_76 rfl (lv_at hl 4 rfl) ?_
          refine va_get (D := (dC, dI)) (ci := 15) (v := .ref a_t_numbers) (C := RX12) (T := TX12) (N := 39) hx hb hta inX12w hown hK hP 0 rfl rfl 19 (by decide) (hta _ lk_X12_55) (fun _ h9 => h9) rfl dX12_reads_77 ?_
          refine lv_aload_n hx hb dX12_reads_80 rfl (lv_at hl 4 rfl) ?_
          refine va_get (D := (dC, dI)) (ci := 15) (v := .int t_tokens_24) (C := RX12) (T := TX12) (N := 39) hx hb hta inX12w hown hK hP 0 rfl rfl 20 (by decide) (hta _ lk_X12_201) (fun _ h9 => h9) rfl dX12_reads_81 ?_
          refine lv_iconst (v := 1) hx hb dX12_reads_84 (by decide) ?_
          refine lv_isub hx hb dX12_reads_85 ?_
          refine lv_iload hx hb dX12_reads_86 (lv_at hl 3 rfl) ?_
          refine lv_bipush (v := 97) hx hb dX12_reads_88 (by decide) ?_
          refine lv_isub hx hb dX12_reads_90 ?_
          obtain ⟨hc, h⟩ := gc_some h
          refine va_iast hx hb hK hP hD hS 1 0 rfl rfl (inb_in hc) dX12_reads_91 (fun H locs hP hD hS => ?_)
          have hP : va_P (dC, dI) vwCl [(a_t, .inr (15, [.ref a_t_s, .ref a_t_f, .ref a_t_before, .ref a_t_beforeF, .ref a_t_aside, .ref a_t_asideF, .ref a_t_saved, .ref a_t_savedF, .int t_isSaved, .ref a_t_past, .ref a_t_pastF, .int t_pastMany, .int t_boiled, .int t_thrown, .ref a_t_refused, .ref a_t_text, .int t_length, .int t_error, .ref a_t_signs, .ref a_t_numbers, .int t_tokens_24, .int t_spoons_24, .int t_mostSpoons_24, .ref a_t_row, .ref a_t_isBrothOn, .ref a_t_dramsOn, .ref a_t_brothOn, .int t_cause, .int t_causeDetail, .ref a_t_lowOn, .ref a_t_highOn, .ref a_t_lowStored, .ref a_t_highStored, .ref a_t_isBrothStored, .int t_storeMany, .ref a_t_step, .ref a_t_stepF, .ref a_t_line, .int t_lineMany])), (a_t_numbers, .inl (cT 0, 60, .inl (upd t_numbers_24 (t_tokens_24 - 1).toNatClampNeg (v6 - 97)))), (a_t_signs, .inl (cT 2, 60, .inl t_signs_24))] H := hP
          have hD : va_D A [(a_t, .inr (15, [.ref a_t_s, .ref a_t_f, .ref a_t_before, .ref a_t_beforeF, .ref a_t_aside, .ref a_t_asideF, .ref a_t_saved, .ref a_t_savedF, .int t_isSaved, .ref a_t_past, .ref a_t_pastF, .int t_pastMany, .int t_boiled, .int t_thrown, .ref a_t_refused, .ref a_t_text, .int t_length, .int t_error, .ref a_t_signs, .ref a_t_numbers, .int t_tokens_24, .int t_spoons_24, .int t_mostSpoons_24, .ref a_t_row, .ref a_t_isBrothOn, .ref a_t_dramsOn, .ref a_t_brothOn, .int t_cause, .int t_causeDetail, .ref a_t_lowOn, .ref a_t_highOn, .ref a_t_lowStored, .ref a_t_highStored, .ref a_t_isBrothStored, .int t_storeMany, .ref a_t_step, .ref a_t_stepF, .ref a_t_line, .int t_lineMany])), (a_t_numbers, .inl (cT 0, 60, .inl (upd t_numbers_24 (t_tokens_24 - 1).toNatClampNeg (v6 - 97)))), (a_t_signs, .inl (cT 2, 60, .inl t_signs_24))] := hD
          refine lv_iconst (v := 0) hx hb dX12_reads_92 (by decide) ?_
          refine lv_istore (lv' := [(5, .int 0), (10, .int r7), (9, .int r8), (8, .int r7), (7, .int v6), (0, .ref a_t), (1, .ref a_p1), (2, .int p2), (3, .int p3), (4, .int x4_24), (6, .int x6_24)]) hx hb dX12_reads_93 hl (by decide) rfl (fun ls hl => ?_)
          refine lv_goto (tgt := 295) hx hb dX12_reads_95 (by decide) ?_
          exact wB_295 (upd t_numbers_24 (t_tokens_24 - 1).toNatClampNeg (v6 - 97)) t_signs_24 t_tokens_24 t_spoons_24 t_mostSpoons_24 r7 x4_24 0 x6_24 _ _ _ h hP hD hS (lv_sub hl [5, 6, 7, 8, 9, 0, 10, 1] rfl)
  unfold g_X12_reads at h
  refine lv_aload_n hx hb dX12_reads_0 rfl (lv_at hl 0 rfl) ?_
  refine lv_iconst (v := 0) hx hb dX12_reads_1 (by decide) ?_
  refine va_put (D := (dC, dI)) (ci := 15) (v := .int 0) (ty := .int) (C := RX12) (T := TX12) (N := 39) hx hb hta inX12w tyX12 tyX12_ok nmX12 hown hK hP hD hS 0 rfl rfl 20 (by decide) (hta _ lk_X12_201) (fun _ h9 => h9) rfl (by decide +kernel) rfl rfl (Nat.le_of_ble_eq_true rfl) dX12_reads_2 (fun H locs hP hD hS => ?_)
  have hP : va_P (dC, dI) vwCl [(a_t, .inr (15, [.ref a_t_s, .ref a_t_f, .ref a_t_before, .ref a_t_beforeF, .ref a_t_aside, .ref a_t_asideF, .ref a_t_saved, .ref a_t_savedF, .int t_isSaved, .ref a_t_past, .ref a_t_pastF, .int t_pastMany, .int t_boiled, .int t_thrown, .ref a_t_refused, .ref a_t_text, .int t_length, .int t_error, .ref a_t_signs, .ref a_t_numbers, .int 0, .int t_spoons, .int t_mostSpoons, .ref a_t_row, .ref a_t_isBrothOn, .ref a_t_dramsOn, .ref a_t_brothOn, .int t_cause, .int t_causeDetail, .ref a_t_lowOn, .ref a_t_highOn, .ref a_t_lowStored, .ref a_t_highStored, .ref a_t_isBrothStored, .int t_storeMany, .ref a_t_step, .ref a_t_stepF, .ref a_t_line, .int t_lineMany])), (a_t_numbers, .inl (cT 0, 60, .inl t_numbers)), (a_t_signs, .inl (cT 2, 60, .inl t_signs))] H := hP
  have hD : va_D A [(a_t, .inr (15, [.ref a_t_s, .ref a_t_f, .ref a_t_before, .ref a_t_beforeF, .ref a_t_aside, .ref a_t_asideF, .ref a_t_saved, .ref a_t_savedF, .int t_isSaved, .ref a_t_past, .ref a_t_pastF, .int t_pastMany, .int t_boiled, .int t_thrown, .ref a_t_refused, .ref a_t_text, .int t_length, .int t_error, .ref a_t_signs, .ref a_t_numbers, .int 0, .int t_spoons, .int t_mostSpoons, .ref a_t_row, .ref a_t_isBrothOn, .ref a_t_dramsOn, .ref a_t_brothOn, .int t_cause, .int t_causeDetail, .ref a_t_lowOn, .ref a_t_highOn, .ref a_t_lowStored, .ref a_t_highStored, .ref a_t_isBrothStored, .int t_storeMany, .ref a_t_step, .ref a_t_stepF, .ref a_t_line, .int t_lineMany])), (a_t_numbers, .inl (cT 0, 60, .inl t_numbers)), (a_t_signs, .inl (cT 2, 60, .inl t_signs))] := hD
  refine lv_aload_n hx hb dX12_reads_5 rfl (lv_at hl 0 rfl) ?_
  refine lv_iconst (v := 0) hx hb dX12_reads_6 (by decide) ?_
  refine va_put (D := (dC, dI)) (ci := 15) (v := .int 0) (ty := .int) (C := RX12) (T := TX12) (N := 39) hx hb hta inX12w tyX12 tyX12_ok nmX12 hown hK hP hD hS 0 rfl rfl 21 (by decide) (hta _ lk_X12_198) (fun _ h9 => h9) rfl (by decide +kernel) rfl rfl (Nat.le_of_ble_eq_true rfl) dX12_reads_7 (fun H locs hP hD hS => ?_)
  have hP : va_P (dC, dI) vwCl [(a_t, .inr (15, [.ref a_t_s, .ref a_t_f, .ref a_t_before, .ref a_t_beforeF, .ref a_t_aside, .ref a_t_asideF, .ref a_t_saved, .ref a_t_savedF, .int t_isSaved, .ref a_t_past, .ref a_t_pastF, .int t_pastMany, .int t_boiled, .int t_thrown, .ref a_t_refused, .ref a_t_text, .int t_length, .int t_error, .ref a_t_signs, .ref a_t_numbers, .int 0, .int 0, .int t_mostSpoons, .ref a_t_row, .ref a_t_isBrothOn, .ref a_t_dramsOn, .ref a_t_brothOn, .int t_cause, .int t_causeDetail, .ref a_t_lowOn, .ref a_t_highOn, .ref a_t_lowStored, .ref a_t_highStored, .ref a_t_isBrothStored, .int t_storeMany, .ref a_t_step, .ref a_t_stepF, .ref a_t_line, .int t_lineMany])), (a_t_numbers, .inl (cT 0, 60, .inl t_numbers)), (a_t_signs, .inl (cT 2, 60, .inl t_signs))] H := hP
  have hD : va_D A [(a_t, .inr (15, [.ref a_t_s, .ref a_t_f, .ref a_t_before, .ref a_t_beforeF, .ref a_t_aside, .ref a_t_asideF, .ref a_t_saved, .ref a_t_savedF, .int t_isSaved, .ref a_t_past, .ref a_t_pastF, .int t_pastMany, .int t_boiled, .int t_thrown, .ref a_t_refused, .ref a_t_text, .int t_length, .int t_error, .ref a_t_signs, .ref a_t_numbers, .int 0, .int 0, .int t_mostSpoons, .ref a_t_row, .ref a_t_isBrothOn, .ref a_t_dramsOn, .ref a_t_brothOn, .int t_cause, .int t_causeDetail, .ref a_t_lowOn, .ref a_t_highOn, .ref a_t_lowStored, .ref a_t_highStored, .ref a_t_isBrothStored, .int t_storeMany, .ref a_t_step, .ref a_t_stepF, .ref a_t_line, .int t_lineMany])), (a_t_numbers, .inl (cT 0, 60, .inl t_numbers)), (a_t_signs, .inl (cT 2, 60, .inl t_signs))] := hD
  refine lv_aload_n hx hb dX12_reads_10 rfl (lv_at hl 0 rfl) ?_
  refine lv_iconst (v := 0) hx hb dX12_reads_11 (by decide) ?_
  refine va_put (D := (dC, dI)) (ci := 15) (v := .int 0) (ty := .int) (C := RX12) (T := TX12) (N := 39) hx hb hta inX12w tyX12 tyX12_ok nmX12 hown hK hP hD hS 0 rfl rfl 22 (by decide) (hta _ lk_X12_204) (fun _ h9 => h9) rfl (by decide +kernel) rfl rfl (Nat.le_of_ble_eq_true rfl) dX12_reads_12 (fun H locs hP hD hS => ?_)
  have hP : va_P (dC, dI) vwCl [(a_t, .inr (15, [.ref a_t_s, .ref a_t_f, .ref a_t_before, .ref a_t_beforeF, .ref a_t_aside, .ref a_t_asideF, .ref a_t_saved, .ref a_t_savedF, .int t_isSaved, .ref a_t_past, .ref a_t_pastF, .int t_pastMany, .int t_boiled, .int t_thrown, .ref a_t_refused, .ref a_t_text, .int t_length, .int t_error, .ref a_t_signs, .ref a_t_numbers, .int 0, .int 0, .int 0, .ref a_t_row, .ref a_t_isBrothOn, .ref a_t_dramsOn, .ref a_t_brothOn, .int t_cause, .int t_causeDetail, .ref a_t_lowOn, .ref a_t_highOn, .ref a_t_lowStored, .ref a_t_highStored, .ref a_t_isBrothStored, .int t_storeMany, .ref a_t_step, .ref a_t_stepF, .ref a_t_line, .int t_lineMany])), (a_t_numbers, .inl (cT 0, 60, .inl t_numbers)), (a_t_signs, .inl (cT 2, 60, .inl t_signs))] H := hP
  have hD : va_D A [(a_t, .inr (15, [.ref a_t_s, .ref a_t_f, .ref a_t_before, .ref a_t_beforeF, .ref a_t_aside, .ref a_t_asideF, .ref a_t_saved, .ref a_t_savedF, .int t_isSaved, .ref a_t_past, .ref a_t_pastF, .int t_pastMany, .int t_boiled, .int t_thrown, .ref a_t_refused, .ref a_t_text, .int t_length, .int t_error, .ref a_t_signs, .ref a_t_numbers, .int 0, .int 0, .int 0, .ref a_t_row, .ref a_t_isBrothOn, .ref a_t_dramsOn, .ref a_t_brothOn, .int t_cause, .int t_causeDetail, .ref a_t_lowOn, .ref a_t_highOn, .ref a_t_lowStored, .ref a_t_highStored, .ref a_t_isBrothStored, .int t_storeMany, .ref a_t_step, .ref a_t_stepF, .ref a_t_line, .int t_lineMany])), (a_t_numbers, .inl (cT 0, 60, .inl t_numbers)), (a_t_signs, .inl (cT 2, 60, .inl t_signs))] := hD
  refine lv_iconst (v := 0) hx hb dX12_reads_15 (by decide) ?_
  refine lv_istore (lv' := [(4, .int 0), (0, .ref a_t), (1, .ref a_p1), (2, .int p2), (3, .int p3)]) hx hb dX12_reads_16 hl (by decide) rfl (fun ls hl => ?_)
  refine lv_iconst (v := 0) hx hb dX12_reads_18 (by decide) ?_
  refine lv_istore (lv' := [(5, .int 0), (4, .int 0), (0, .ref a_t), (1, .ref a_p1), (2, .int p2), (3, .int p3)]) hx hb dX12_reads_19 hl (by decide) rfl (fun ls hl => ?_)
  refine lv_iconst (v := 0) hx hb dX12_reads_21 (by decide) ?_
  refine lv_istore (lv' := [(6, .int 0), (5, .int 0), (4, .int 0), (0, .ref a_t), (1, .ref a_p1), (2, .int p2), (3, .int p3)]) hx hb dX12_reads_22 hl (by decide) rfl (fun ls hl => ?_)
  exact wB_24 100 t_numbers t_signs 0 0 0 0 0 0 _ _ _ h hP hD hS (lv_sub hl [3, 4, 5, 6, 2, 1, 0] rfl)
def g_X12_tells (t_tokens : Int32) (t_spoons : Int32) (t_mostSpoons : Int32) (t_s : Nat → Int32) (t_numbers : Nat → Int32) (t_signs : Nat → Int32) (p1 : Int32) : Option (Int32 × Int32 × Int32 × (Nat → Int32) × (Nat → Int32)) :=
  gl (34 + (62 * p1)) fun v1 =>
  gc (inb (v1 + 1) 282) <|
  gb (g_X12_reads 282 t_tokens t_spoons t_mostSpoons t_s t_numbers t_signs (v1 + 2) (t_s (v1 + 1).toNatClampNeg)) fun r2 =>
  some (r2.2.1, r2.2.2.1, r2.2.2.2.1, r2.2.2.2.2.1, r2.2.2.2.2.2)
set_option maxHeartbeats 4000000 in
set_option maxRecDepth 100000 in
theorem c_X12_tells (l : Launch) (dC : Nat → ClassId) (dI : Nat → Nat → Nat) (cT : Nat → ClassId) {Hh : Heap} {a_t : Nat} {a_t_s : Nat} {a_t_numbers : Nat} {a_t_signs : Nat} {a_t_f : Nat} {a_t_before : Nat} {a_t_beforeF : Nat} {a_t_aside : Nat} {a_t_asideF : Nat} {a_t_saved : Nat} {a_t_savedF : Nat} {a_t_past : Nat} {a_t_pastF : Nat} {a_t_refused : Nat} {a_t_text : Nat} {a_t_row : Nat} {a_t_isBrothOn : Nat} {a_t_dramsOn : Nat} {a_t_brothOn : Nat} {a_t_lowOn : Nat} {a_t_highOn : Nat} {a_t_lowStored : Nat} {a_t_highStored : Nat} {a_t_isBrothStored : Nat} {a_t_step : Nat} {a_t_stepF : Nat} {a_t_line : Nat} {t_tokens : Int32} {t_spoons : Int32} {t_mostSpoons : Int32} {t_s : Nat → Int32} {t_numbers : Nat → Int32} {t_signs : Nat → Int32} {p1 : Int32} {t_isSaved : Int32} {t_pastMany : Int32} {t_boiled : Int32} {t_thrown : Int32} {t_length : Int32} {t_error : Int32} {t_cause : Int32} {t_causeDetail : Int32} {t_storeMany : Int32} {t_lineMany : Int32} {o : Int32 × Int32 × Int32 × (Nat → Int32) × (Nat → Int32)} (h : g_X12_tells t_tokens t_spoons t_mostSpoons t_s t_numbers t_signs p1 = some o) (hP0 : va_P (dC, dI) vwCl [(a_t, .inr (15, [.ref a_t_s, .ref a_t_f, .ref a_t_before, .ref a_t_beforeF, .ref a_t_aside, .ref a_t_asideF, .ref a_t_saved, .ref a_t_savedF, .int t_isSaved, .ref a_t_past, .ref a_t_pastF, .int t_pastMany, .int t_boiled, .int t_thrown, .ref a_t_refused, .ref a_t_text, .int t_length, .int t_error, .ref a_t_signs, .ref a_t_numbers, .int t_tokens, .int t_spoons, .int t_mostSpoons, .ref a_t_row, .ref a_t_isBrothOn, .ref a_t_dramsOn, .ref a_t_brothOn, .int t_cause, .int t_causeDetail, .ref a_t_lowOn, .ref a_t_highOn, .ref a_t_lowStored, .ref a_t_highStored, .ref a_t_isBrothStored, .int t_storeMany, .ref a_t_step, .ref a_t_stepF, .ref a_t_line, .int t_lineMany])), (a_t_numbers, .inl (cT 0, 60, .inl t_numbers)), (a_t_signs, .inl (cT 2, 60, .inl t_signs))] Hh) (hR0 : va_P (dC, dI) vwCl [(a_t_s, .inl (cT 0, 282, .inl t_s))] Hh) (hD0 : va_D (fun _ => True) [(a_t, .inr (15, [.ref a_t_s, .ref a_t_f, .ref a_t_before, .ref a_t_beforeF, .ref a_t_aside, .ref a_t_asideF, .ref a_t_saved, .ref a_t_savedF, .int t_isSaved, .ref a_t_past, .ref a_t_pastF, .int t_pastMany, .int t_boiled, .int t_thrown, .ref a_t_refused, .ref a_t_text, .int t_length, .int t_error, .ref a_t_signs, .ref a_t_numbers, .int t_tokens, .int t_spoons, .int t_mostSpoons, .ref a_t_row, .ref a_t_isBrothOn, .ref a_t_dramsOn, .ref a_t_brothOn, .int t_cause, .int t_causeDetail, .ref a_t_lowOn, .ref a_t_highOn, .ref a_t_lowStored, .ref a_t_highStored, .ref a_t_isBrothStored, .int t_storeMany, .ref a_t_step, .ref a_t_stepF, .ref a_t_line, .int t_lineMany])), (a_t_numbers, .inl (cT 0, 60, .inl t_numbers)), (a_t_signs, .inl (cT 2, 60, .inl t_signs))]) (hN0 : ∀ (k : Nat) (q : Nat × va_E), ([(a_t_s, .inl (cT 0, 282, .inl t_s))] : va_W)[k]? = some q → ¬ va_A [(a_t, .inr (15, [.ref a_t_s, .ref a_t_f, .ref a_t_before, .ref a_t_beforeF, .ref a_t_aside, .ref a_t_asideF, .ref a_t_saved, .ref a_t_savedF, .int t_isSaved, .ref a_t_past, .ref a_t_pastF, .int t_pastMany, .int t_boiled, .int t_thrown, .ref a_t_refused, .ref a_t_text, .int t_length, .int t_error, .ref a_t_signs, .ref a_t_numbers, .int t_tokens, .int t_spoons, .int t_mostSpoons, .ref a_t_row, .ref a_t_isBrothOn, .ref a_t_dramsOn, .ref a_t_brothOn, .int t_cause, .int t_causeDetail, .ref a_t_lowOn, .ref a_t_highOn, .ref a_t_lowStored, .ref a_t_highStored, .ref a_t_isBrothStored, .int t_storeMany, .ref a_t_step, .ref a_t_stepF, .ref a_t_line, .int t_lineMany])), (a_t_numbers, .inl (cT 0, 60, .inl t_numbers)), (a_t_signs, .inl (cT 2, 60, .inl t_signs))] Hh.size q.1) : Met l yX12_tells (wA yX12_tells cX12_tells 4 none) ({ frames := 3, cells := 0, slots := 0, locals := 76 } : Room) (PK dC dI cT [.ref a_t, .int p1] Hh) (va_Qv (fun (_ : Unit) => True) (fun _ t => va_P (dC, dI) vwCl [(a_t, .inr (15, [.ref a_t_s, .ref a_t_f, .ref a_t_before, .ref a_t_beforeF, .ref a_t_aside, .ref a_t_asideF, .ref a_t_saved, .ref a_t_savedF, .int t_isSaved, .ref a_t_past, .ref a_t_pastF, .int t_pastMany, .int t_boiled, .int t_thrown, .ref a_t_refused, .ref a_t_text, .int t_length, .int t_error, .ref a_t_signs, .ref a_t_numbers, .int o.1, .int o.2.1, .int o.2.2.1, .ref a_t_row, .ref a_t_isBrothOn, .ref a_t_dramsOn, .ref a_t_brothOn, .int t_cause, .int t_causeDetail, .ref a_t_lowOn, .ref a_t_highOn, .ref a_t_lowStored, .ref a_t_highStored, .ref a_t_isBrothStored, .int t_storeMany, .ref a_t_step, .ref a_t_stepF, .ref a_t_line, .int t_lineMany])), (a_t_numbers, .inl (cT 0, 60, .inl o.2.2.2.1)), (a_t_signs, .inl (cT 2, 60, .inl o.2.2.2.2))] t.heap) (va_A [(a_t, .inr (15, [.ref a_t_s, .ref a_t_f, .ref a_t_before, .ref a_t_beforeF, .ref a_t_aside, .ref a_t_asideF, .ref a_t_saved, .ref a_t_savedF, .int t_isSaved, .ref a_t_past, .ref a_t_pastF, .int t_pastMany, .int t_boiled, .int t_thrown, .ref a_t_refused, .ref a_t_text, .int t_length, .int t_error, .ref a_t_signs, .ref a_t_numbers, .int t_tokens, .int t_spoons, .int t_mostSpoons, .ref a_t_row, .ref a_t_isBrothOn, .ref a_t_dramsOn, .ref a_t_brothOn, .int t_cause, .int t_causeDetail, .ref a_t_lowOn, .ref a_t_highOn, .ref a_t_lowStored, .ref a_t_highStored, .ref a_t_isBrothStored, .int t_storeMany, .ref a_t_step, .ref a_t_stepF, .ref a_t_line, .int t_lineMany])), (a_t_numbers, .inl (cT 0, 60, .inl t_numbers)), (a_t_signs, .inl (cT 2, 60, .inl t_signs))] Hh.size)) 0 0 (va_A [(a_t, .inr (15, [.ref a_t_s, .ref a_t_f, .ref a_t_before, .ref a_t_beforeF, .ref a_t_aside, .ref a_t_asideF, .ref a_t_saved, .ref a_t_savedF, .int t_isSaved, .ref a_t_past, .ref a_t_pastF, .int t_pastMany, .int t_boiled, .int t_thrown, .ref a_t_refused, .ref a_t_text, .int t_length, .int t_error, .ref a_t_signs, .ref a_t_numbers, .int t_tokens, .int t_spoons, .int t_mostSpoons, .ref a_t_row, .ref a_t_isBrothOn, .ref a_t_dramsOn, .ref a_t_brothOn, .int t_cause, .int t_causeDetail, .ref a_t_lowOn, .ref a_t_highOn, .ref a_t_lowStored, .ref a_t_highStored, .ref a_t_isBrothStored, .int t_storeMany, .ref a_t_step, .ref a_t_stepF, .ref a_t_line, .int t_lineMany])), (a_t_numbers, .inl (cT 0, 60, .inl t_numbers)), (a_t_signs, .inl (cT 2, 60, .inl t_signs))] Hh.size) := by
  refine Met.ofW (cc := cX12_tells) (maxL := 4) (ret := none) (by decide) rfl ?_
  intro p e s m args below meth c s₁ B hml hv
  obtain ⟨rfl, hH, hK⟩ := hv
  subst hH
  have hx := B.exec
  have hb := B.bytes
  have hr := B.returns
  have hta : ∀ w ∈ ALLW, w.before [.ref a_t, .int p1].toArray s = true := fun w hw => atoms_spec (ws := wA yX12_tells cX12_tells 4 none) B.pre w (List.mem_cons_of_mem _ hw)
  have hown : s.vm.findClass RX12 = some m.cls := findClass_of_methodNamed B.named
  have hlocks := B.notSynchronized
  have hD := hD0.self (sz := s.heap.size)
  have hNA := hN0
  generalize hAe : va_A [(a_t, .inr (15, [.ref a_t_s, .ref a_t_f, .ref a_t_before, .ref a_t_beforeF, .ref a_t_aside, .ref a_t_asideF, .ref a_t_saved, .ref a_t_savedF, .int t_isSaved, .ref a_t_past, .ref a_t_pastF, .int t_pastMany, .int t_boiled, .int t_thrown, .ref a_t_refused, .ref a_t_text, .int t_length, .int t_error, .ref a_t_signs, .ref a_t_numbers, .int t_tokens, .int t_spoons, .int t_mostSpoons, .ref a_t_row, .ref a_t_isBrothOn, .ref a_t_dramsOn, .ref a_t_brothOn, .int t_cause, .int t_causeDetail, .ref a_t_lowOn, .ref a_t_highOn, .ref a_t_lowStored, .ref a_t_highStored, .ref a_t_isBrothStored, .int t_storeMany, .ref a_t_step, .ref a_t_stepF, .ref a_t_line, .int t_lineMany])), (a_t_numbers, .inl (cT 0, 60, .inl t_numbers)), (a_t_signs, .inl (cT 2, 60, .inl t_signs))] s.heap.size = A at hD hNA ⊢
  have hP := hP0
  have hA : ∀ q : Nat, s.heap.size ≤ q → A q := fun q h => by rw [← hAe]; exact Or.inr h
  have hS : va_S A s.heap s.heap [] := va_S.rf
  have hl := lv_entry [.ref a_t, .int p1] (n := 4) (Nat.le_of_ble_eq_true rfl)
  rw [lg_entry_eq]
  generalize (lg_sl [.ref a_t, .int p1] ++ List.replicate (4 - (lg_sl [.ref a_t, .int p1]).length) Slot.unset).toArray = ls at hl ⊢
  have hl : lv_has ls 4 [(0, .ref a_t), (1, .int p1)] := hl
  unfold g_X12_tells at h
  refine lv_bipush (v := 34) hx hb dX12_tells_0 (by decide) ?_
  refine lv_bipush (v := 62) hx hb dX12_tells_2 (by decide) ?_
  refine lv_iload_n hx hb dX12_tells_4 rfl (lv_at hl 1 rfl) ?_
  refine lv_imul hx hb dX12_tells_5 ?_
  refine lv_iadd hx hb dX12_tells_6 ?_
  refine lv_topi (fun v1 e_v1 => ?_)
  have h := gl_use e_v1 h
  refine lv_istore_n (lv' := [(2, .int v1), (0, .ref a_t), (1, .int p1)]) hx hb dX12_tells_7 rfl hl (by decide) rfl (fun ls hl => ?_)
  refine lv_aload_n hx hb dX12_tells_8 rfl (lv_at hl 1 rfl) ?_
  refine lv_aload_n hx hb dX12_tells_9 rfl (lv_at hl 1 rfl) ?_
  refine va_get (D := (dC, dI)) (ci := 15) (v := .ref a_t_s) (C := RX12) (T := TX12) (N := 39) hx hb hta inX12w hown hK hP 0 rfl rfl 0 (by decide) (hta _ lk_X12_9) (fun _ h9 => h9) rfl dX12_tells_10 ?_
  refine lv_iload_n hx hb dX12_tells_13 rfl (lv_at hl 0 rfl) ?_
  refine lv_iconst (v := 2) hx hb dX12_tells_14 (by decide) ?_
  refine lv_iadd hx hb dX12_tells_15 ?_
  refine lv_aload_n hx hb dX12_tells_16 rfl (lv_at hl 1 rfl) ?_
  refine va_get (D := (dC, dI)) (ci := 15) (v := .ref a_t_s) (C := RX12) (T := TX12) (N := 39) hx hb hta inX12w hown hK hP 0 rfl rfl 0 (by decide) (hta _ lk_X12_9) (fun _ h9 => h9) rfl dX12_tells_17 ?_
  refine lv_iload_n hx hb dX12_tells_20 rfl (lv_at hl 0 rfl) ?_
  refine lv_iconst (v := 1) hx hb dX12_tells_21 (by decide) ?_
  refine lv_iadd hx hb dX12_tells_22 ?_
  obtain ⟨hc, h⟩ := gc_some h
  refine va_iald hx hb hK (rk hR0 hNA hS) 0 0 rfl rfl (inb_in hc) dX12_tells_23 ?_
  obtain ⟨r2, hq, h⟩ := gb_some h
  refine cxI (X2 := [(a_t, .inr (15, [.ref a_t_s, .ref a_t_f, .ref a_t_before, .ref a_t_beforeF, .ref a_t_aside, .ref a_t_asideF, .ref a_t_saved, .ref a_t_savedF, .int t_isSaved, .ref a_t_past, .ref a_t_pastF, .int t_pastMany, .int t_boiled, .int t_thrown, .ref a_t_refused, .ref a_t_text, .int t_length, .int t_error, .ref a_t_signs, .ref a_t_numbers, .int r2.2.1, .int r2.2.2.1, .int r2.2.2.2.1, .ref a_t_row, .ref a_t_isBrothOn, .ref a_t_dramsOn, .ref a_t_brothOn, .int t_cause, .int t_causeDetail, .ref a_t_lowOn, .ref a_t_highOn, .ref a_t_lowStored, .ref a_t_highStored, .ref a_t_isBrothStored, .int t_storeMany, .ref a_t_step, .ref a_t_stepF, .ref a_t_line, .int t_lineMany])), (a_t_numbers, .inl (cT 0, 60, .inl r2.2.2.2.2.1)), (a_t_signs, .inl (cT 2, 60, .inl r2.2.2.2.2.2))]) (va_runV (As := [.ref a_t_s, .int (v1 + 2), .int (t_s (v1 + 1).toNatClampNeg)]) (rest := []) ⟨hx, hb, hml, hown, hta⟩ (c_X12_reads l dC dI cT hq (hP.sub (ws' := [(a_t, .inr (15, [.ref a_t_s, .ref a_t_f, .ref a_t_before, .ref a_t_beforeF, .ref a_t_aside, .ref a_t_asideF, .ref a_t_saved, .ref a_t_savedF, .int t_isSaved, .ref a_t_past, .ref a_t_pastF, .int t_pastMany, .int t_boiled, .int t_thrown, .ref a_t_refused, .ref a_t_text, .int t_length, .int t_error, .ref a_t_signs, .ref a_t_numbers, .int t_tokens, .int t_spoons, .int t_mostSpoons, .ref a_t_row, .ref a_t_isBrothOn, .ref a_t_dramsOn, .ref a_t_brothOn, .int t_cause, .int t_causeDetail, .ref a_t_lowOn, .ref a_t_highOn, .ref a_t_lowStored, .ref a_t_highStored, .ref a_t_isBrothStored, .int t_storeMany, .ref a_t_step, .ref a_t_stepF, .ref a_t_line, .int t_lineMany])), (a_t_numbers, .inl (cT 0, 60, .inl t_numbers)), (a_t_signs, .inl (cT 2, 60, .inl t_signs))]) [0, 1, 2] rfl) ((va_P.app hP (rk hR0 hNA hS)).sub (ws' := [(a_t_s, .inl (cT 0, 282, .inl t_s))]) [3] rfl) ((hD.sub [0, 1, 2] (by decide) rfl).weaken (fun _ _ _ _ => trivial)) (nac hP hD [0, 1, 2] rfl (va_free hD hS hA [0, 1, 2] rfl) hNA [.inl 0] rfl rfl)) (cV hta lm_X12_219 md_X12_reads ⟨(Nat.le_of_ble_eq_true rfl), (Nat.le_of_ble_eq_true rfl)⟩) ⟨fbK, va_recv hK hP (ci := 15) (q0 := 0) rfl rfl, fun U hU hW => ⟨rfl, hU, va_K.moved hW.alike hK⟩⟩ rfl rfl hl.1 rfl (lv_room (Nat.le_of_ble_eq_true rfl)) dX12_tells_24 ⟨(Nat.le_of_ble_eq_true rfl), (Nat.le_of_ble_eq_true rfl)⟩) hS hA hP hD [0, 1, 2] rfl [.inl 0, .inl 1, .inl 2] rfl rfl rfl (fun H locs hP hD hS => ?_)
  refine lv_istore_n (lv' := [(3, .int r2.1), (2, .int v1), (0, .ref a_t), (1, .int p1)]) hx hb dX12_tells_27 rfl hl (by decide) rfl (fun ls hl => ?_)
  have ho := Option.some.inj h
  exact W.vret hx hb hr (fun t ht hW => ⟨⟨(), rfl, trivial, by show va_P (dC, dI) vwCl _ t.heap; rw [ht, ← ho]; exact hP⟩, hS.F ht⟩) hS.2.2 dX12_tells_28
def g_X12_isLetter (t_signs : Nat → Int32) (p1 : Int32) : Option (Int32) :=
  gc (inb p1 60) <|
  gb (g_X12_in ((t_signs p1.toNatClampNeg).toInt64) (97 : Int64) (102 : Int64)) fun r1 =>
  gc (bo r1) <|
  some (r1)
set_option maxHeartbeats 4000000 in
set_option maxRecDepth 100000 in
theorem c_X12_isLetter (l : Launch) (dC : Nat → ClassId) (dI : Nat → Nat → Nat) (cT : Nat → ClassId) {Hh : Heap} {a_t : Nat} {a_t_signs : Nat} {a_t_s : Nat} {a_t_f : Nat} {a_t_before : Nat} {a_t_beforeF : Nat} {a_t_aside : Nat} {a_t_asideF : Nat} {a_t_saved : Nat} {a_t_savedF : Nat} {a_t_past : Nat} {a_t_pastF : Nat} {a_t_refused : Nat} {a_t_text : Nat} {a_t_numbers : Nat} {a_t_row : Nat} {a_t_isBrothOn : Nat} {a_t_dramsOn : Nat} {a_t_brothOn : Nat} {a_t_lowOn : Nat} {a_t_highOn : Nat} {a_t_lowStored : Nat} {a_t_highStored : Nat} {a_t_isBrothStored : Nat} {a_t_step : Nat} {a_t_stepF : Nat} {a_t_line : Nat} {t_signs : Nat → Int32} {p1 : Int32} {t_isSaved : Int32} {t_pastMany : Int32} {t_boiled : Int32} {t_thrown : Int32} {t_length : Int32} {t_error : Int32} {t_tokens : Int32} {t_spoons : Int32} {t_mostSpoons : Int32} {t_cause : Int32} {t_causeDetail : Int32} {t_storeMany : Int32} {t_lineMany : Int32} {o : Int32} (h : g_X12_isLetter t_signs p1 = some o) (hR0 : va_P (dC, dI) vwCl [(a_t, .inr (15, [.ref a_t_s, .ref a_t_f, .ref a_t_before, .ref a_t_beforeF, .ref a_t_aside, .ref a_t_asideF, .ref a_t_saved, .ref a_t_savedF, .int t_isSaved, .ref a_t_past, .ref a_t_pastF, .int t_pastMany, .int t_boiled, .int t_thrown, .ref a_t_refused, .ref a_t_text, .int t_length, .int t_error, .ref a_t_signs, .ref a_t_numbers, .int t_tokens, .int t_spoons, .int t_mostSpoons, .ref a_t_row, .ref a_t_isBrothOn, .ref a_t_dramsOn, .ref a_t_brothOn, .int t_cause, .int t_causeDetail, .ref a_t_lowOn, .ref a_t_highOn, .ref a_t_lowStored, .ref a_t_highStored, .ref a_t_isBrothStored, .int t_storeMany, .ref a_t_step, .ref a_t_stepF, .ref a_t_line, .int t_lineMany])), (a_t_signs, .inl (cT 2, 60, .inl t_signs))] Hh) : Met l yX12_isLetter (wA yX12_isLetter cX12_isLetter 2 (some .boolean)) ({ frames := 1, cells := 0, slots := 0, locals := 25 } : Room) (PK dC dI cT [.ref a_t, .int p1] Hh) (va_Qi (fun x (_ : Unit) => x = o) (fun _ t => t.heap = Hh) (va_A [] Hh.size)) 0 0 (va_A [] Hh.size) := by
  refine Met.ofW (cc := cX12_isLetter) (maxL := 2) (ret := (some .boolean)) (by decide) rfl ?_
  intro p e s m args below meth c s₁ B hml hv
  obtain ⟨rfl, hH, hK⟩ := hv
  subst hH
  have hx := B.exec
  have hb := B.bytes
  have hr := B.returns
  have hta : ∀ w ∈ ALLW, w.before [.ref a_t, .int p1].toArray s = true := fun w hw => atoms_spec (ws := wA yX12_isLetter cX12_isLetter 2 (some .boolean)) B.pre w (List.mem_cons_of_mem _ hw)
  have hown : s.vm.findClass RX12 = some m.cls := findClass_of_methodNamed B.named
  have hlocks := B.notSynchronized
  generalize hAe : va_A [] s.heap.size = A
  have hA : ∀ q : Nat, s.heap.size ≤ q → A q := fun q h => by rw [← hAe]; exact Or.inr h
  have hS : va_S A s.heap s.heap [] := va_S.rf
  have hl := lv_entry [.ref a_t, .int p1] (n := 2) (Nat.le_of_ble_eq_true rfl)
  rw [lg_entry_eq]
  generalize (lg_sl [.ref a_t, .int p1] ++ List.replicate (2 - (lg_sl [.ref a_t, .int p1]).length) Slot.unset).toArray = ls at hl ⊢
  have hl : lv_has ls 2 [(0, .ref a_t), (1, .int p1)] := hl
  unfold g_X12_isLetter at h
  refine lv_aload_n hx hb dX12_isLetter_0 rfl (lv_at hl 0 rfl) ?_
  refine va_get (D := (dC, dI)) (ci := 15) (v := .ref a_t_signs) (C := RX12) (T := TX12) (N := 39) hx hb hta inX12w hown hK hR0 0 rfl rfl 18 (by decide) (hta _ lk_X12_52) (fun _ h9 => h9) rfl dX12_isLetter_1 ?_
  refine lv_iload_n hx hb dX12_isLetter_4 rfl (lv_at hl 1 rfl) ?_
  obtain ⟨hc, h⟩ := gc_some h
  refine va_cald hx hb hK hR0 1 2 rfl rfl (inb_in hc) dX12_isLetter_5 ?_
  refine lv_i2l hx hb dX12_isLetter_6 rfl ?_
  refine lv_ldc2 (v := 97) hx hb hown (hta _ kc_X12_207) dX12_isLetter_7 ?_
  refine lv_ldc2 (v := 102) hx hb hown (hta _ kc_X12_209) dX12_isLetter_10 ?_
  obtain ⟨r1, hq, h⟩ := gb_some h
  refine crI (va_runS (As := [.long ((t_signs p1.toNatClampNeg).toInt64), .long (97 : Int64), .long (102 : Int64)]) (rest := []) ⟨hx, hb, hml, hown, hta⟩ (c_X12_in l dC dI cT hq) (cS hta lm_X12_112 md_X12_in ⟨(Nat.le_of_ble_eq_true rfl), (Nat.le_of_ble_eq_true rfl)⟩) ⟨fbK, fun U hU hW => ⟨rfl, hU, va_K.moved hW.alike hK⟩⟩ rfl rfl hl.1 rfl (lv_room (Nat.le_of_ble_eq_true rfl)) dX12_isLetter_13 ⟨(Nat.le_of_ble_eq_true rfl), (Nat.le_of_ble_eq_true rfl)⟩) hS hA (fun locs hS => ?_)
  obtain ⟨hc, h⟩ := gc_some h
  have ho := Option.some.inj h
  exact W.zret (ty := .boolean) (v := r1) hx hb hr (bo_n hc) (fun t ht hW => ⟨⟨r1, (), rfl, by rw [← ho], ht⟩, hS.F ht⟩) hS.2.2 dX12_isLetter_16
def g_X12_laysBounds (t_lowOn : Nat → Int64) (t_highOn : Nat → Int64) (p1 : Int32) (p2 : Int64) (p3 : Int64) : Option ((Nat → Int64) × (Nat → Int64)) :=
  gc (inb p1 6) <|
  gc (inb p1 6) <|
  some ((vp_updL t_lowOn p1.toNatClampNeg p2), (vp_updL t_highOn p1.toNatClampNeg p3))
set_option maxHeartbeats 4000000 in
set_option maxRecDepth 100000 in
theorem c_X12_laysBounds (l : Launch) (dC : Nat → ClassId) (dI : Nat → Nat → Nat) (cT : Nat → ClassId) {Hh : Heap} {a_t : Nat} {a_t_lowOn : Nat} {a_t_highOn : Nat} {a_t_s : Nat} {a_t_f : Nat} {a_t_before : Nat} {a_t_beforeF : Nat} {a_t_aside : Nat} {a_t_asideF : Nat} {a_t_saved : Nat} {a_t_savedF : Nat} {a_t_past : Nat} {a_t_pastF : Nat} {a_t_refused : Nat} {a_t_text : Nat} {a_t_signs : Nat} {a_t_numbers : Nat} {a_t_row : Nat} {a_t_isBrothOn : Nat} {a_t_dramsOn : Nat} {a_t_brothOn : Nat} {a_t_lowStored : Nat} {a_t_highStored : Nat} {a_t_isBrothStored : Nat} {a_t_step : Nat} {a_t_stepF : Nat} {a_t_line : Nat} {t_lowOn : Nat → Int64} {t_highOn : Nat → Int64} {p1 : Int32} {p2 : Int64} {p3 : Int64} {t_isSaved : Int32} {t_pastMany : Int32} {t_boiled : Int32} {t_thrown : Int32} {t_length : Int32} {t_error : Int32} {t_tokens : Int32} {t_spoons : Int32} {t_mostSpoons : Int32} {t_cause : Int32} {t_causeDetail : Int32} {t_storeMany : Int32} {t_lineMany : Int32} {o : (Nat → Int64) × (Nat → Int64)} (h : g_X12_laysBounds t_lowOn t_highOn p1 p2 p3 = some o) (hP0 : va_P (dC, dI) vwCl [(a_t_lowOn, .inl (cT 3, 6, .inr (.inl t_lowOn))), (a_t_highOn, .inl (cT 3, 6, .inr (.inl t_highOn)))] Hh) (hR0 : va_P (dC, dI) vwCl [(a_t, .inr (15, [.ref a_t_s, .ref a_t_f, .ref a_t_before, .ref a_t_beforeF, .ref a_t_aside, .ref a_t_asideF, .ref a_t_saved, .ref a_t_savedF, .int t_isSaved, .ref a_t_past, .ref a_t_pastF, .int t_pastMany, .int t_boiled, .int t_thrown, .ref a_t_refused, .ref a_t_text, .int t_length, .int t_error, .ref a_t_signs, .ref a_t_numbers, .int t_tokens, .int t_spoons, .int t_mostSpoons, .ref a_t_row, .ref a_t_isBrothOn, .ref a_t_dramsOn, .ref a_t_brothOn, .int t_cause, .int t_causeDetail, .ref a_t_lowOn, .ref a_t_highOn, .ref a_t_lowStored, .ref a_t_highStored, .ref a_t_isBrothStored, .int t_storeMany, .ref a_t_step, .ref a_t_stepF, .ref a_t_line, .int t_lineMany]))] Hh) (hD0 : va_D (fun _ => True) [(a_t_lowOn, .inl (cT 3, 6, .inr (.inl t_lowOn))), (a_t_highOn, .inl (cT 3, 6, .inr (.inl t_highOn)))]) (hN0 : ∀ (k : Nat) (q : Nat × va_E), ([(a_t, .inr (15, [.ref a_t_s, .ref a_t_f, .ref a_t_before, .ref a_t_beforeF, .ref a_t_aside, .ref a_t_asideF, .ref a_t_saved, .ref a_t_savedF, .int t_isSaved, .ref a_t_past, .ref a_t_pastF, .int t_pastMany, .int t_boiled, .int t_thrown, .ref a_t_refused, .ref a_t_text, .int t_length, .int t_error, .ref a_t_signs, .ref a_t_numbers, .int t_tokens, .int t_spoons, .int t_mostSpoons, .ref a_t_row, .ref a_t_isBrothOn, .ref a_t_dramsOn, .ref a_t_brothOn, .int t_cause, .int t_causeDetail, .ref a_t_lowOn, .ref a_t_highOn, .ref a_t_lowStored, .ref a_t_highStored, .ref a_t_isBrothStored, .int t_storeMany, .ref a_t_step, .ref a_t_stepF, .ref a_t_line, .int t_lineMany]))] : va_W)[k]? = some q → ¬ va_A [(a_t_lowOn, .inl (cT 3, 6, .inr (.inl t_lowOn))), (a_t_highOn, .inl (cT 3, 6, .inr (.inl t_highOn)))] Hh.size q.1) : Met l yX12_laysBounds (wA yX12_laysBounds cX12_laysBounds 6 none) ({ frames := 0, cells := 0, slots := 0, locals := 0 } : Room) (PK dC dI cT [.ref a_t, .int p1, .long p2, .long p3] Hh) (va_Qv (fun (_ : Unit) => True) (fun _ t => va_P (dC, dI) vwCl [(a_t_lowOn, .inl (cT 3, 6, .inr (.inl o.1))), (a_t_highOn, .inl (cT 3, 6, .inr (.inl o.2)))] t.heap) (va_A [(a_t_lowOn, .inl (cT 3, 6, .inr (.inl t_lowOn))), (a_t_highOn, .inl (cT 3, 6, .inr (.inl t_highOn)))] Hh.size)) 0 0 (va_A [(a_t_lowOn, .inl (cT 3, 6, .inr (.inl t_lowOn))), (a_t_highOn, .inl (cT 3, 6, .inr (.inl t_highOn)))] Hh.size) := by
  refine Met.ofW (cc := cX12_laysBounds) (maxL := 6) (ret := none) (by decide) rfl ?_
  intro p e s m args below meth c s₁ B hml hv
  obtain ⟨rfl, hH, hK⟩ := hv
  subst hH
  have hx := B.exec
  have hb := B.bytes
  have hr := B.returns
  have hta : ∀ w ∈ ALLW, w.before [.ref a_t, .int p1, .long p2, .long p3].toArray s = true := fun w hw => atoms_spec (ws := wA yX12_laysBounds cX12_laysBounds 6 none) B.pre w (List.mem_cons_of_mem _ hw)
  have hown : s.vm.findClass RX12 = some m.cls := findClass_of_methodNamed B.named
  have hlocks := B.notSynchronized
  have hD := hD0.self (sz := s.heap.size)
  have hNA := hN0
  generalize hAe : va_A [(a_t_lowOn, .inl (cT 3, 6, .inr (.inl t_lowOn))), (a_t_highOn, .inl (cT 3, 6, .inr (.inl t_highOn)))] s.heap.size = A at hD hNA ⊢
  have hP := hP0
  have hA : ∀ q : Nat, s.heap.size ≤ q → A q := fun q h => by rw [← hAe]; exact Or.inr h
  have hS : va_S A s.heap s.heap [] := va_S.rf
  have hl := lv_entry [.ref a_t, .int p1, .long p2, .long p3] (n := 6) (Nat.le_of_ble_eq_true rfl)
  rw [lg_entry_eq]
  generalize (lg_sl [.ref a_t, .int p1, .long p2, .long p3] ++ List.replicate (6 - (lg_sl [.ref a_t, .int p1, .long p2, .long p3]).length) Slot.unset).toArray = ls at hl ⊢
  have hl : lv_has ls 6 [(0, .ref a_t), (1, .int p1), (2, .long p2), (4, .long p3)] := hl
  unfold g_X12_laysBounds at h
  refine lv_aload_n hx hb dX12_laysBounds_0 rfl (lv_at hl 0 rfl) ?_
  refine va_get (D := (dC, dI)) (ci := 15) (v := .ref a_t_lowOn) (C := RX12) (T := TX12) (N := 39) hx hb hta inX12w hown hK (rk hR0 hNA hS) 0 rfl rfl 29 (by decide) (hta _ lk_X12_72) (fun _ h9 => h9) rfl dX12_laysBounds_1 ?_
  refine lv_iload_n hx hb dX12_laysBounds_4 rfl (lv_at hl 1 rfl) ?_
  refine lv_lload_n hx hb dX12_laysBounds_5 rfl (lv_at hl 2 rfl) ?_
  obtain ⟨hc, h⟩ := gc_some h
  refine va_last hx hb hK hP hD hS 0 3 rfl rfl (inb_in hc) dX12_laysBounds_6 (fun H locs hP hD hS => ?_)
  have hP : va_P (dC, dI) vwCl [(a_t_lowOn, .inl (cT 3, 6, .inr (.inl (vp_updL t_lowOn p1.toNatClampNeg p2)))), (a_t_highOn, .inl (cT 3, 6, .inr (.inl t_highOn)))] H := hP
  have hD : va_D A [(a_t_lowOn, .inl (cT 3, 6, .inr (.inl (vp_updL t_lowOn p1.toNatClampNeg p2)))), (a_t_highOn, .inl (cT 3, 6, .inr (.inl t_highOn)))] := hD
  refine lv_aload_n hx hb dX12_laysBounds_7 rfl (lv_at hl 0 rfl) ?_
  refine va_get (D := (dC, dI)) (ci := 15) (v := .ref a_t_highOn) (C := RX12) (T := TX12) (N := 39) hx hb hta inX12w hown hK (rk hR0 hNA hS) 0 rfl rfl 30 (by decide) (hta _ lk_X12_75) (fun _ h9 => h9) rfl dX12_laysBounds_8 ?_
  refine lv_iload_n hx hb dX12_laysBounds_11 rfl (lv_at hl 1 rfl) ?_
  refine lv_lload hx hb dX12_laysBounds_12 (lv_at hl 3 rfl) ?_
  obtain ⟨hc, h⟩ := gc_some h
  refine va_last hx hb hK hP hD hS 1 3 rfl rfl (inb_in hc) dX12_laysBounds_14 (fun H locs hP hD hS => ?_)
  have hP : va_P (dC, dI) vwCl [(a_t_lowOn, .inl (cT 3, 6, .inr (.inl (vp_updL t_lowOn p1.toNatClampNeg p2)))), (a_t_highOn, .inl (cT 3, 6, .inr (.inl (vp_updL t_highOn p1.toNatClampNeg p3))))] H := hP
  have hD : va_D A [(a_t_lowOn, .inl (cT 3, 6, .inr (.inl (vp_updL t_lowOn p1.toNatClampNeg p2)))), (a_t_highOn, .inl (cT 3, 6, .inr (.inl (vp_updL t_highOn p1.toNatClampNeg p3))))] := hD
  have ho := Option.some.inj h
  exact W.vret hx hb hr (fun t ht hW => ⟨⟨(), rfl, trivial, by show va_P (dC, dI) vwCl _ t.heap; rw [ht, ← ho]; exact hP⟩, hS.F ht⟩) hS.2.2 dX12_laysBounds_15
def g_X12_isNumber (t_signs : Nat → Int32) (p1 : Int32) : Option (Int32) :=
  gc (inb p1 60) <|
  gb (g_X12_in ((t_signs p1.toNatClampNeg).toInt64) (48 : Int64) (57 : Int64)) fun r1 =>
  gc (bo r1) <|
  some (r1)
set_option maxHeartbeats 4000000 in
set_option maxRecDepth 100000 in
theorem c_X12_isNumber (l : Launch) (dC : Nat → ClassId) (dI : Nat → Nat → Nat) (cT : Nat → ClassId) {Hh : Heap} {a_t : Nat} {a_t_signs : Nat} {a_t_s : Nat} {a_t_f : Nat} {a_t_before : Nat} {a_t_beforeF : Nat} {a_t_aside : Nat} {a_t_asideF : Nat} {a_t_saved : Nat} {a_t_savedF : Nat} {a_t_past : Nat} {a_t_pastF : Nat} {a_t_refused : Nat} {a_t_text : Nat} {a_t_numbers : Nat} {a_t_row : Nat} {a_t_isBrothOn : Nat} {a_t_dramsOn : Nat} {a_t_brothOn : Nat} {a_t_lowOn : Nat} {a_t_highOn : Nat} {a_t_lowStored : Nat} {a_t_highStored : Nat} {a_t_isBrothStored : Nat} {a_t_step : Nat} {a_t_stepF : Nat} {a_t_line : Nat} {t_signs : Nat → Int32} {p1 : Int32} {t_isSaved : Int32} {t_pastMany : Int32} {t_boiled : Int32} {t_thrown : Int32} {t_length : Int32} {t_error : Int32} {t_tokens : Int32} {t_spoons : Int32} {t_mostSpoons : Int32} {t_cause : Int32} {t_causeDetail : Int32} {t_storeMany : Int32} {t_lineMany : Int32} {o : Int32} (h : g_X12_isNumber t_signs p1 = some o) (hR0 : va_P (dC, dI) vwCl [(a_t, .inr (15, [.ref a_t_s, .ref a_t_f, .ref a_t_before, .ref a_t_beforeF, .ref a_t_aside, .ref a_t_asideF, .ref a_t_saved, .ref a_t_savedF, .int t_isSaved, .ref a_t_past, .ref a_t_pastF, .int t_pastMany, .int t_boiled, .int t_thrown, .ref a_t_refused, .ref a_t_text, .int t_length, .int t_error, .ref a_t_signs, .ref a_t_numbers, .int t_tokens, .int t_spoons, .int t_mostSpoons, .ref a_t_row, .ref a_t_isBrothOn, .ref a_t_dramsOn, .ref a_t_brothOn, .int t_cause, .int t_causeDetail, .ref a_t_lowOn, .ref a_t_highOn, .ref a_t_lowStored, .ref a_t_highStored, .ref a_t_isBrothStored, .int t_storeMany, .ref a_t_step, .ref a_t_stepF, .ref a_t_line, .int t_lineMany])), (a_t_signs, .inl (cT 2, 60, .inl t_signs))] Hh) : Met l yX12_isNumber (wA yX12_isNumber cX12_isNumber 2 (some .boolean)) ({ frames := 1, cells := 0, slots := 0, locals := 25 } : Room) (PK dC dI cT [.ref a_t, .int p1] Hh) (va_Qi (fun x (_ : Unit) => x = o) (fun _ t => t.heap = Hh) (va_A [] Hh.size)) 0 0 (va_A [] Hh.size) := by
  refine Met.ofW (cc := cX12_isNumber) (maxL := 2) (ret := (some .boolean)) (by decide) rfl ?_
  intro p e s m args below meth c s₁ B hml hv
  obtain ⟨rfl, hH, hK⟩ := hv
  subst hH
  have hx := B.exec
  have hb := B.bytes
  have hr := B.returns
  have hta : ∀ w ∈ ALLW, w.before [.ref a_t, .int p1].toArray s = true := fun w hw => atoms_spec (ws := wA yX12_isNumber cX12_isNumber 2 (some .boolean)) B.pre w (List.mem_cons_of_mem _ hw)
  have hown : s.vm.findClass RX12 = some m.cls := findClass_of_methodNamed B.named
  have hlocks := B.notSynchronized
  generalize hAe : va_A [] s.heap.size = A
  have hA : ∀ q : Nat, s.heap.size ≤ q → A q := fun q h => by rw [← hAe]; exact Or.inr h
  have hS : va_S A s.heap s.heap [] := va_S.rf
  have hl := lv_entry [.ref a_t, .int p1] (n := 2) (Nat.le_of_ble_eq_true rfl)
  rw [lg_entry_eq]
  generalize (lg_sl [.ref a_t, .int p1] ++ List.replicate (2 - (lg_sl [.ref a_t, .int p1]).length) Slot.unset).toArray = ls at hl ⊢
  have hl : lv_has ls 2 [(0, .ref a_t), (1, .int p1)] := hl
  unfold g_X12_isNumber at h
  refine lv_aload_n hx hb dX12_isNumber_0 rfl (lv_at hl 0 rfl) ?_
  refine va_get (D := (dC, dI)) (ci := 15) (v := .ref a_t_signs) (C := RX12) (T := TX12) (N := 39) hx hb hta inX12w hown hK hR0 0 rfl rfl 18 (by decide) (hta _ lk_X12_52) (fun _ h9 => h9) rfl dX12_isNumber_1 ?_
  refine lv_iload_n hx hb dX12_isNumber_4 rfl (lv_at hl 1 rfl) ?_
  obtain ⟨hc, h⟩ := gc_some h
  refine va_cald hx hb hK hR0 1 2 rfl rfl (inb_in hc) dX12_isNumber_5 ?_
  refine lv_i2l hx hb dX12_isNumber_6 rfl ?_
  refine lv_ldc2 (v := 48) hx hb hown (hta _ kc_X12_211) dX12_isNumber_7 ?_
  refine lv_ldc2 (v := 57) hx hb hown (hta _ kc_X12_213) dX12_isNumber_10 ?_
  obtain ⟨r1, hq, h⟩ := gb_some h
  refine crI (va_runS (As := [.long ((t_signs p1.toNatClampNeg).toInt64), .long (48 : Int64), .long (57 : Int64)]) (rest := []) ⟨hx, hb, hml, hown, hta⟩ (c_X12_in l dC dI cT hq) (cS hta lm_X12_112 md_X12_in ⟨(Nat.le_of_ble_eq_true rfl), (Nat.le_of_ble_eq_true rfl)⟩) ⟨fbK, fun U hU hW => ⟨rfl, hU, va_K.moved hW.alike hK⟩⟩ rfl rfl hl.1 rfl (lv_room (Nat.le_of_ble_eq_true rfl)) dX12_isNumber_13 ⟨(Nat.le_of_ble_eq_true rfl), (Nat.le_of_ble_eq_true rfl)⟩) hS hA (fun locs hS => ?_)
  obtain ⟨hc, h⟩ := gc_some h
  have ho := Option.some.inj h
  exact W.zret (ty := .boolean) (v := r1) hx hb hr (bo_n hc) (fun t ht hW => ⟨⟨r1, (), rfl, by rw [← ho], ht⟩, hS.F ht⟩) hS.2.2 dX12_isNumber_16
def g_X12_typesReckoning_b199 (t_isBrothOn : Nat → Int32) (p2 : Int32) (t_highOn_199 : Nat → Int64) (t_lowOn_199 : Nat → Int64) (s0_199 : Int32) : Option (Int32 × (Nat → Int64) × (Nat → Int64)) :=
  gc (inb p2 6) <|
  gc (inb (p2 - 1) 6) <|
  if (t_isBrothOn p2.toNatClampNeg) = (t_isBrothOn (p2 - 1).toNatClampNeg) then
    gc (inb p2 6) <|
    if (t_isBrothOn p2.toNatClampNeg) = 0 then
      if s0_199 = 0 then
        some (1, t_lowOn_199, t_highOn_199)
      else
        some (0, t_lowOn_199, t_highOn_199)
    else
      some (0, t_lowOn_199, t_highOn_199)
  else
    some (1, t_lowOn_199, t_highOn_199)
def g_X12_typesReckoning_b198 (t_isBrothOn : Nat → Int32) (p2 : Int32) (t_highOn_198 : Nat → Int64) (t_lowOn_198 : Nat → Int64) : Option (Int32 × (Nat → Int64) × (Nat → Int64)) :=
  g_X12_typesReckoning_b199 t_isBrothOn p2 t_highOn_198 t_lowOn_198 0
def g_X12_typesReckoning_b154 (t_isBrothOn : Nat → Int32) (p2 : Int32) (t_highOn_154 : Nat → Int64) (t_lowOn_154 : Nat → Int64) : Option (Int32 × (Nat → Int64) × (Nat → Int64)) :=
  gc (inb (p2 - 1) 6) <|
  gb (g_X12_in (t_lowOn_154 (p2 - 1).toNatClampNeg) (-1000000 : Int64) (1000000 : Int64)) fun r10 =>
  if r10 = 0 then
    g_X12_typesReckoning_b198 t_isBrothOn p2 t_highOn_154 t_lowOn_154
  else
    gc (inb (p2 - 1) 6) <|
    gb (g_X12_in (t_highOn_154 (p2 - 1).toNatClampNeg) (-1000000 : Int64) (1000000 : Int64)) fun r11 =>
    if r11 = 0 then
      g_X12_typesReckoning_b198 t_isBrothOn p2 t_highOn_154 t_lowOn_154
    else
      g_X12_typesReckoning_b199 t_isBrothOn p2 t_highOn_154 t_lowOn_154 1
def g_X12_typesReckoning (t_lowOn : Nat → Int64) (t_highOn : Nat → Int64) (t_isBrothOn : Nat → Int32) (p1 : Int32) (p2 : Int32) : Option (Int32 × (Nat → Int64) × (Nat → Int64)) :=
  gc (inb (p2 - 1) 6) <|
  gl (t_lowOn (p2 - 1).toNatClampNeg) fun v1 =>
  gc (inb (p2 - 1) 6) <|
  gl (t_highOn (p2 - 1).toNatClampNeg) fun v2 =>
  gc (inb p2 6) <|
  gl (t_lowOn p2.toNatClampNeg) fun v3 =>
  gc (inb p2 6) <|
  gl (t_highOn p2.toNatClampNeg) fun v4 =>
  if p1 = 43 then
    gb (g_X12_laysBounds t_lowOn t_highOn (p2 - 1) (v1 + v3) (v2 + v4)) fun r9 =>
    g_X12_typesReckoning_b154 t_isBrothOn p2 r9.2 r9.1
  else
    if p1 = 45 then
      gb (g_X12_laysBounds t_lowOn t_highOn (p2 - 1) (v1 - v4) (v2 - v3)) fun r8 =>
      g_X12_typesReckoning_b154 t_isBrothOn p2 r8.2 r8.1
    else
      gl (if (if (v2 * v4) < (v2 * v3) then (v2 * v4) else (v2 * v3)) < (if (v1 * v4) < (v1 * v3) then (v1 * v4) else (v1 * v3)) then (if (v2 * v4) < (v2 * v3) then (v2 * v4) else (v2 * v3)) else (if (v1 * v4) < (v1 * v3) then (v1 * v4) else (v1 * v3))) fun v5 =>
      gl (if (if (v2 * v4) < (v2 * v3) then (v2 * v3) else (v2 * v4)) < (if (v1 * v4) < (v1 * v3) then (v1 * v3) else (v1 * v4)) then (if (v1 * v4) < (v1 * v3) then (v1 * v3) else (v1 * v4)) else (if (v2 * v4) < (v2 * v3) then (v2 * v3) else (v2 * v4))) fun v6 =>
      gb (g_X12_laysBounds t_lowOn t_highOn (p2 - 1) v5 v6) fun r7 =>
      g_X12_typesReckoning_b154 t_isBrothOn p2 r7.2 r7.1
set_option maxHeartbeats 4000000 in
set_option maxRecDepth 100000 in
theorem c_X12_typesReckoning (l : Launch) (dC : Nat → ClassId) (dI : Nat → Nat → Nat) (cT : Nat → ClassId) {Hh : Heap} {a_t : Nat} {a_t_lowOn : Nat} {a_t_highOn : Nat} {a_t_isBrothOn : Nat} {a_t_s : Nat} {a_t_f : Nat} {a_t_before : Nat} {a_t_beforeF : Nat} {a_t_aside : Nat} {a_t_asideF : Nat} {a_t_saved : Nat} {a_t_savedF : Nat} {a_t_past : Nat} {a_t_pastF : Nat} {a_t_refused : Nat} {a_t_text : Nat} {a_t_signs : Nat} {a_t_numbers : Nat} {a_t_row : Nat} {a_t_dramsOn : Nat} {a_t_brothOn : Nat} {a_t_lowStored : Nat} {a_t_highStored : Nat} {a_t_isBrothStored : Nat} {a_t_step : Nat} {a_t_stepF : Nat} {a_t_line : Nat} {t_lowOn : Nat → Int64} {t_highOn : Nat → Int64} {t_isBrothOn : Nat → Int32} {p1 : Int32} {p2 : Int32} {t_isSaved : Int32} {t_pastMany : Int32} {t_boiled : Int32} {t_thrown : Int32} {t_length : Int32} {t_error : Int32} {t_tokens : Int32} {t_spoons : Int32} {t_mostSpoons : Int32} {t_cause : Int32} {t_causeDetail : Int32} {t_storeMany : Int32} {t_lineMany : Int32} {o : Int32 × (Nat → Int64) × (Nat → Int64)} (h : g_X12_typesReckoning t_lowOn t_highOn t_isBrothOn p1 p2 = some o) (hP0 : va_P (dC, dI) vwCl [(a_t_lowOn, .inl (cT 3, 6, .inr (.inl t_lowOn))), (a_t_highOn, .inl (cT 3, 6, .inr (.inl t_highOn)))] Hh) (hR0 : va_P (dC, dI) vwCl [(a_t, .inr (15, [.ref a_t_s, .ref a_t_f, .ref a_t_before, .ref a_t_beforeF, .ref a_t_aside, .ref a_t_asideF, .ref a_t_saved, .ref a_t_savedF, .int t_isSaved, .ref a_t_past, .ref a_t_pastF, .int t_pastMany, .int t_boiled, .int t_thrown, .ref a_t_refused, .ref a_t_text, .int t_length, .int t_error, .ref a_t_signs, .ref a_t_numbers, .int t_tokens, .int t_spoons, .int t_mostSpoons, .ref a_t_row, .ref a_t_isBrothOn, .ref a_t_dramsOn, .ref a_t_brothOn, .int t_cause, .int t_causeDetail, .ref a_t_lowOn, .ref a_t_highOn, .ref a_t_lowStored, .ref a_t_highStored, .ref a_t_isBrothStored, .int t_storeMany, .ref a_t_step, .ref a_t_stepF, .ref a_t_line, .int t_lineMany])), (a_t_isBrothOn, .inl (cT 1, 6, .inl t_isBrothOn))] Hh) (hD0 : va_D (fun _ => True) [(a_t_lowOn, .inl (cT 3, 6, .inr (.inl t_lowOn))), (a_t_highOn, .inl (cT 3, 6, .inr (.inl t_highOn)))]) (hN0 : ∀ (k : Nat) (q : Nat × va_E), ([(a_t, .inr (15, [.ref a_t_s, .ref a_t_f, .ref a_t_before, .ref a_t_beforeF, .ref a_t_aside, .ref a_t_asideF, .ref a_t_saved, .ref a_t_savedF, .int t_isSaved, .ref a_t_past, .ref a_t_pastF, .int t_pastMany, .int t_boiled, .int t_thrown, .ref a_t_refused, .ref a_t_text, .int t_length, .int t_error, .ref a_t_signs, .ref a_t_numbers, .int t_tokens, .int t_spoons, .int t_mostSpoons, .ref a_t_row, .ref a_t_isBrothOn, .ref a_t_dramsOn, .ref a_t_brothOn, .int t_cause, .int t_causeDetail, .ref a_t_lowOn, .ref a_t_highOn, .ref a_t_lowStored, .ref a_t_highStored, .ref a_t_isBrothStored, .int t_storeMany, .ref a_t_step, .ref a_t_stepF, .ref a_t_line, .int t_lineMany])), (a_t_isBrothOn, .inl (cT 1, 6, .inl t_isBrothOn))] : va_W)[k]? = some q → ¬ va_A [(a_t_lowOn, .inl (cT 3, 6, .inr (.inl t_lowOn))), (a_t_highOn, .inl (cT 3, 6, .inr (.inl t_highOn)))] Hh.size q.1) : Met l yX12_typesReckoning (wA yX12_typesReckoning cX12_typesReckoning 15 (some .boolean)) ({ frames := 1, cells := 0, slots := 0, locals := 25 } : Room) (PK dC dI cT [.ref a_t, .int p1, .int p2] Hh) (va_Qi (fun x (_ : Unit) => x = o.1) (fun _ t => va_P (dC, dI) vwCl [(a_t_lowOn, .inl (cT 3, 6, .inr (.inl o.2.1))), (a_t_highOn, .inl (cT 3, 6, .inr (.inl o.2.2)))] t.heap) (va_A [(a_t_lowOn, .inl (cT 3, 6, .inr (.inl t_lowOn))), (a_t_highOn, .inl (cT 3, 6, .inr (.inl t_highOn)))] Hh.size)) 0 0 (va_A [(a_t_lowOn, .inl (cT 3, 6, .inr (.inl t_lowOn))), (a_t_highOn, .inl (cT 3, 6, .inr (.inl t_highOn)))] Hh.size) := by
  refine Met.ofW (cc := cX12_typesReckoning) (maxL := 15) (ret := (some .boolean)) (by decide) rfl ?_
  intro p e s m args below meth c s₁ B hml hv
  obtain ⟨rfl, hH, hK⟩ := hv
  subst hH
  have hx := B.exec
  have hb := B.bytes
  have hr := B.returns
  have hta : ∀ w ∈ ALLW, w.before [.ref a_t, .int p1, .int p2].toArray s = true := fun w hw => atoms_spec (ws := wA yX12_typesReckoning cX12_typesReckoning 15 (some .boolean)) B.pre w (List.mem_cons_of_mem _ hw)
  have hown : s.vm.findClass RX12 = some m.cls := findClass_of_methodNamed B.named
  have hlocks := B.notSynchronized
  have hD := hD0.self (sz := s.heap.size)
  have hNA := hN0
  generalize hAe : va_A [(a_t_lowOn, .inl (cT 3, 6, .inr (.inl t_lowOn))), (a_t_highOn, .inl (cT 3, 6, .inr (.inl t_highOn)))] s.heap.size = A at hD hNA ⊢
  have hP := hP0
  have hA : ∀ q : Nat, s.heap.size ≤ q → A q := fun q h => by rw [← hAe]; exact Or.inr h
  have hS : va_S A s.heap s.heap [] := va_S.rf
  have hl := lv_entry [.ref a_t, .int p1, .int p2] (n := 15) (Nat.le_of_ble_eq_true rfl)
  rw [lg_entry_eq]
  generalize (lg_sl [.ref a_t, .int p1, .int p2] ++ List.replicate (15 - (lg_sl [.ref a_t, .int p1, .int p2]).length) Slot.unset).toArray = ls at hl ⊢
  have hl : lv_has ls 15 [(0, .ref a_t), (1, .int p1), (2, .int p2)] := hl
  obtain ⟨Q, hQ⟩ : ∃ Q, Q = MQ below (va_Qi (fun x (_ : Unit) => x = o.1) (fun _ t => va_P (dC, dI) vwCl [(a_t_lowOn, .inl (cT 3, 6, .inr (.inl o.2.1))), (a_t_highOn, .inl (cT 3, 6, .inr (.inl o.2.2)))] t.heap) A) [.ref a_t, .int p1, .int p2].toArray s 0 0 A := ⟨_, rfl⟩
  rw [← hQ]
  have wB_199 : ∀ (t_highOn_199 : Nat → Int64) (t_lowOn_199 : Nat → Int64) (s0_199 : Int32) (H : Heap) (locs : List Loc) (ls : Array Slot), g_X12_typesReckoning_b199 t_isBrothOn p2 t_highOn_199 t_lowOn_199 s0_199 = some o → va_P (dC, dI) vwCl [(a_t_lowOn, .inl (cT 3, 6, .inr (.inl t_lowOn_199))), (a_t_highOn, .inl (cT 3, 6, .inr (.inl t_highOn_199)))] H → va_D A [(a_t_lowOn, .inl (cT 3, 6, .inr (.inl t_lowOn_199))), (a_t_highOn, .inl (cT 3, 6, .inr (.inl t_highOn_199)))] → va_S A s.heap H locs → lv_has ls 15 [(0, .ref a_t), (2, .int p2)] → W p l e ({ frames := 1, cells := 0, slots := 0, locals := 25 } : Room) s m [.ref a_t, .int p1, .int p2].toArray below meth c H locs 0 0 Q (F0 m 199 ls [.int s0_199]) := by
    intro t_highOn_199 t_lowOn_199 s0_199 H locs ls h hP hD hS hl
    unfold g_X12_typesReckoning_b199 at h
    refine lv_istore (lv' := [(11, .int s0_199), (0, .ref a_t), (2, .int p2)]) hx hb dX12_typesReckoning_199 hl (by decide) rfl (fun ls hl => ?_)
    refine lv_aload_n hx hb dX12_typesReckoning_201 rfl (lv_at hl 1 rfl) ?_
    refine va_get (D := (dC, dI)) (ci := 15) (v := .ref a_t_isBrothOn) (C := RX12) (T := TX12) (N := 39) hx hb hta inX12w hown hK (rk hR0 hNA hS) 0 rfl rfl 24 (by decide) (hta _ lk_X12_61) (fun _ h9 => h9) rfl dX12_typesReckoning_202 ?_
    refine lv_iload_n hx hb dX12_typesReckoning_205 rfl (lv_at hl 2 rfl) ?_
    obtain ⟨hc, h⟩ := gc_some h
    refine va_zald hx hb hK (rk hR0 hNA hS) 1 1 rfl rfl (inb_in hc) dX12_typesReckoning_206 ?_
    refine lv_aload_n hx hb dX12_typesReckoning_207 rfl (lv_at hl 1 rfl) ?_
    refine va_get (D := (dC, dI)) (ci := 15) (v := .ref a_t_isBrothOn) (C := RX12) (T := TX12) (N := 39) hx hb hta inX12w hown hK (rk hR0 hNA hS) 0 rfl rfl 24 (by decide) (hta _ lk_X12_61) (fun _ h9 => h9) rfl dX12_typesReckoning_208 ?_
    refine lv_iload_n hx hb dX12_typesReckoning_211 rfl (lv_at hl 2 rfl) ?_
    refine lv_iconst (v := 1) hx hb dX12_typesReckoning_212 (by decide) ?_
    refine lv_isub hx hb dX12_typesReckoning_213 ?_
    obtain ⟨hc, h⟩ := gc_some h
    refine va_zald hx hb hK (rk hR0 hNA hS) 1 1 rfl rfl (inb_in hc) dX12_typesReckoning_214 ?_
    refine lv_icmp_ne (tgt := 232) hx hb dX12_typesReckoning_215 (by decide) (fun c0 => ?_) (fun c0 => ?_)
    · have h := (if_neg c0).symm.trans h
      refine lv_iconst (v := 1) hx hb dX12_typesReckoning_232 (by decide) ?_
      refine lv_goto (tgt := 237) hx hb dX12_typesReckoning_233 (by decide) ?_
      have ho := Option.some.inj h
      rw [hQ]
      exact W.zret (ty := .boolean) (v := 1) hx hb hr rfl (fun t ht hW => ⟨⟨1, (), rfl, by rw [← ho], by show va_P (dC, dI) vwCl _ t.heap; rw [ht, ← ho]; exact hP⟩, hS.F ht⟩) hS.2.2 dX12_typesReckoning_237
    · have h := (if_pos c0).symm.trans h
      refine lv_aload_n hx hb dX12_typesReckoning_218 rfl (lv_at hl 1 rfl) ?_
      refine va_get (D := (dC, dI)) (ci := 15) (v := .ref a_t_isBrothOn) (C := RX12) (T := TX12) (N := 39) hx hb hta inX12w hown hK (rk hR0 hNA hS) 0 rfl rfl 24 (by decide) (hta _ lk_X12_61) (fun _ h9 => h9) rfl dX12_typesReckoning_219 ?_
      refine lv_iload_n hx hb dX12_typesReckoning_222 rfl (lv_at hl 2 rfl) ?_
      obtain ⟨hc, h⟩ := gc_some h
      refine va_zald hx hb hK (rk hR0 hNA hS) 1 1 rfl rfl (inb_in hc) dX12_typesReckoning_223 ?_
      refine lv_if_ne (tgt := 236) hx hb dX12_typesReckoning_224 (by decide) (fun c0 => ?_) (fun c0 => ?_)
      · have h := (if_neg c0).symm.trans h
        refine lv_iconst (v := 0) hx hb dX12_typesReckoning_236 (by decide) ?_
        have ho := Option.some.inj h
        rw [hQ]
        exact W.zret (ty := .boolean) (v := 0) hx hb hr rfl (fun t ht hW => ⟨⟨0, (), rfl, by rw [← ho], by show va_P (dC, dI) vwCl _ t.heap; rw [ht, ← ho]; exact hP⟩, hS.F ht⟩) hS.2.2 dX12_typesReckoning_237
      · have h := (if_pos c0).symm.trans h
        refine lv_iload hx hb dX12_typesReckoning_227 (lv_at hl 0 rfl) ?_
        refine lv_if_ne (tgt := 236) hx hb dX12_typesReckoning_229 (by decide) (fun c0 => ?_) (fun c0 => ?_)
        · have h := (if_neg c0).symm.trans h
          refine lv_iconst (v := 0) hx hb dX12_typesReckoning_236 (by decide) ?_
          have ho := Option.some.inj h
          rw [hQ]
          exact W.zret (ty := .boolean) (v := 0) hx hb hr rfl (fun t ht hW => ⟨⟨0, (), rfl, by rw [← ho], by show va_P (dC, dI) vwCl _ t.heap; rw [ht, ← ho]; exact hP⟩, hS.F ht⟩) hS.2.2 dX12_typesReckoning_237
        · have h := (if_pos c0).symm.trans h
          refine lv_iconst (v := 1) hx hb dX12_typesReckoning_232 (by decide) ?_
          refine lv_goto (tgt := 237) hx hb dX12_typesReckoning_233 (by decide) ?_
          have ho := Option.some.inj h
          rw [hQ]
          exact W.zret (ty := .boolean) (v := 1) hx hb hr rfl (fun t ht hW => ⟨⟨1, (), rfl, by rw [← ho], by show va_P (dC, dI) vwCl _ t.heap; rw [ht, ← ho]; exact hP⟩, hS.F ht⟩) hS.2.2 dX12_typesReckoning_237
  have wB_198 : ∀ (t_highOn_198 : Nat → Int64) (t_lowOn_198 : Nat → Int64) (H : Heap) (locs : List Loc) (ls : Array Slot), g_X12_typesReckoning_b198 t_isBrothOn p2 t_highOn_198 t_lowOn_198 = some o → va_P (dC, dI) vwCl [(a_t_lowOn, .inl (cT 3, 6, .inr (.inl t_lowOn_198))), (a_t_highOn, .inl (cT 3, 6, .inr (.inl t_highOn_198)))] H → va_D A [(a_t_lowOn, .inl (cT 3, 6, .inr (.inl t_lowOn_198))), (a_t_highOn, .inl (cT 3, 6, .inr (.inl t_highOn_198)))] → va_S A s.heap H locs → lv_has ls 15 [(0, .ref a_t), (2, .int p2)] → W p l e ({ frames := 1, cells := 0, slots := 0, locals := 25 } : Room) s m [.ref a_t, .int p1, .int p2].toArray below meth c H locs 0 0 Q (F0 m 198 ls []) := by
    intro t_highOn_198 t_lowOn_198 H locs ls h hP hD hS hl
    unfold g_X12_typesReckoning_b198 at h
    refine lv_iconst (v := 0) hx hb dX12_typesReckoning_198 (by decide) ?_
    exact wB_199 t_highOn_198 t_lowOn_198 0 _ _ _ h hP hD hS (lv_sub hl [0, 1] rfl)
  have wB_154 : ∀ (t_highOn_154 : Nat → Int64) (t_lowOn_154 : Nat → Int64) (H : Heap) (locs : List Loc) (ls : Array Slot), g_X12_typesReckoning_b154 t_isBrothOn p2 t_highOn_154 t_lowOn_154 = some o → va_P (dC, dI) vwCl [(a_t_lowOn, .inl (cT 3, 6, .inr (.inl t_lowOn_154))), (a_t_highOn, .inl (cT 3, 6, .inr (.inl t_highOn_154)))] H → va_D A [(a_t_lowOn, .inl (cT 3, 6, .inr (.inl t_lowOn_154))), (a_t_highOn, .inl (cT 3, 6, .inr (.inl t_highOn_154)))] → va_S A s.heap H locs → lv_has ls 15 [(0, .ref a_t), (2, .int p2)] → W p l e ({ frames := 1, cells := 0, slots := 0, locals := 25 } : Room) s m [.ref a_t, .int p1, .int p2].toArray below meth c H locs 0 0 Q (F0 m 154 ls []) := by
    intro t_highOn_154 t_lowOn_154 H locs ls h hP hD hS hl
    unfold g_X12_typesReckoning_b154 at h
    refine lv_aload_n hx hb dX12_typesReckoning_154 rfl (lv_at hl 0 rfl) ?_
    refine va_get (D := (dC, dI)) (ci := 15) (v := .ref a_t_lowOn) (C := RX12) (T := TX12) (N := 39) hx hb hta inX12w hown hK (rk hR0 hNA hS) 0 rfl rfl 29 (by decide) (hta _ lk_X12_72) (fun _ h9 => h9) rfl dX12_typesReckoning_155 ?_
    refine lv_iload_n hx hb dX12_typesReckoning_158 rfl (lv_at hl 1 rfl) ?_
    refine lv_iconst (v := 1) hx hb dX12_typesReckoning_159 (by decide) ?_
    refine lv_isub hx hb dX12_typesReckoning_160 ?_
    obtain ⟨hc, h⟩ := gc_some h
    refine va_lald hx hb hK hP 0 3 rfl rfl (inb_in hc) dX12_typesReckoning_161 ?_
    refine lv_ldc2 (v := -1000000) hx hb hown (hta _ kc_X12_248) dX12_typesReckoning_162 ?_
    refine lv_ldc2 (v := 1000000) hx hb hown (hta _ kc_X12_250) dX12_typesReckoning_165 ?_
    obtain ⟨r10, hq, h⟩ := gb_some h
    refine crI (va_runS (As := [.long (t_lowOn_154 (p2 - 1).toNatClampNeg), .long (-1000000 : Int64), .long (1000000 : Int64)]) (rest := []) ⟨hx, hb, hml, hown, hta⟩ (c_X12_in l dC dI cT hq) (cS hta lm_X12_112 md_X12_in ⟨(Nat.le_of_ble_eq_true rfl), (Nat.le_of_ble_eq_true rfl)⟩) ⟨fbK, fun U hU hW => ⟨rfl, hU, va_K.moved hW.alike hK⟩⟩ rfl rfl hl.1 rfl (lv_room (Nat.le_of_ble_eq_true rfl)) dX12_typesReckoning_168 ⟨(Nat.le_of_ble_eq_true rfl), (Nat.le_of_ble_eq_true rfl)⟩) hS hA (fun locs hS => ?_)
    refine lv_if_eq (tgt := 198) hx hb dX12_typesReckoning_171 (by decide) (fun c0 => ?_) (fun c0 => ?_)
    · have h := (if_pos c0).symm.trans h
      exact wB_198 t_highOn_154 t_lowOn_154 _ _ _ h hP hD hS (lv_sub hl [0, 1] rfl)
    · have h := (if_neg c0).symm.trans h
      refine lv_aload_n hx hb dX12_typesReckoning_174 rfl (lv_at hl 0 rfl) ?_
      refine va_get (D := (dC, dI)) (ci := 15) (v := .ref a_t_highOn) (C := RX12) (T := TX12) (N := 39) hx hb hta inX12w hown hK (rk hR0 hNA hS) 0 rfl rfl 30 (by decide) (hta _ lk_X12_75) (fun _ h9 => h9) rfl dX12_typesReckoning_175 ?_
      refine lv_iload_n hx hb dX12_typesReckoning_178 rfl (lv_at hl 1 rfl) ?_
      refine lv_iconst (v := 1) hx hb dX12_typesReckoning_179 (by decide) ?_
      refine lv_isub hx hb dX12_typesReckoning_180 ?_
      obtain ⟨hc, h⟩ := gc_some h
      refine va_lald hx hb hK hP 1 3 rfl rfl (inb_in hc) dX12_typesReckoning_181 ?_
      refine lv_ldc2 (v := -1000000) hx hb hown (hta _ kc_X12_248) dX12_typesReckoning_182 ?_
      refine lv_ldc2 (v := 1000000) hx hb hown (hta _ kc_X12_250) dX12_typesReckoning_185 ?_
      obtain ⟨r11, hq, h⟩ := gb_some h
      refine crI (va_runS (As := [.long (t_highOn_154 (p2 - 1).toNatClampNeg), .long (-1000000 : Int64), .long (1000000 : Int64)]) (rest := []) ⟨hx, hb, hml, hown, hta⟩ (c_X12_in l dC dI cT hq) (cS hta lm_X12_112 md_X12_in ⟨(Nat.le_of_ble_eq_true rfl), (Nat.le_of_ble_eq_true rfl)⟩) ⟨fbK, fun U hU hW => ⟨rfl, hU, va_K.moved hW.alike hK⟩⟩ rfl rfl hl.1 rfl (lv_room (Nat.le_of_ble_eq_true rfl)) dX12_typesReckoning_188 ⟨(Nat.le_of_ble_eq_true rfl), (Nat.le_of_ble_eq_true rfl)⟩) hS hA (fun locs hS => ?_)
      refine lv_if_eq (tgt := 198) hx hb dX12_typesReckoning_191 (by decide) (fun c0 => ?_) (fun c0 => ?_)
      · have h := (if_pos c0).symm.trans h
        exact wB_198 t_highOn_154 t_lowOn_154 _ _ _ h hP hD hS (lv_sub hl [0, 1] rfl)
      · have h := (if_neg c0).symm.trans h
        refine lv_iconst (v := 1) hx hb dX12_typesReckoning_194 (by decide) ?_
        refine lv_goto (tgt := 199) hx hb dX12_typesReckoning_195 (by decide) ?_
        exact wB_199 t_highOn_154 t_lowOn_154 1 _ _ _ h hP hD hS (lv_sub hl [0, 1] rfl)
  unfold g_X12_typesReckoning at h
  refine lv_aload_n hx hb dX12_typesReckoning_0 rfl (lv_at hl 0 rfl) ?_
  refine va_get (D := (dC, dI)) (ci := 15) (v := .ref a_t_lowOn) (C := RX12) (T := TX12) (N := 39) hx hb hta inX12w hown hK (rk hR0 hNA hS) 0 rfl rfl 29 (by decide) (hta _ lk_X12_72) (fun _ h9 => h9) rfl dX12_typesReckoning_1 ?_
  refine lv_iload_n hx hb dX12_typesReckoning_4 rfl (lv_at hl 2 rfl) ?_
  refine lv_iconst (v := 1) hx hb dX12_typesReckoning_5 (by decide) ?_
  refine lv_isub hx hb dX12_typesReckoning_6 ?_
  obtain ⟨hc, h⟩ := gc_some h
  refine va_lald hx hb hK hP 0 3 rfl rfl (inb_in hc) dX12_typesReckoning_7 ?_
  refine lv_topl (fun v1 e_v1 => ?_)
  have h := gl_use e_v1 h
  refine lv_lstore_n (lv' := [(3, .long v1), (0, .ref a_t), (1, .int p1), (2, .int p2)]) hx hb dX12_typesReckoning_8 rfl hl (by decide) rfl (fun ls hl => ?_)
  refine lv_aload_n hx hb dX12_typesReckoning_9 rfl (lv_at hl 1 rfl) ?_
  refine va_get (D := (dC, dI)) (ci := 15) (v := .ref a_t_highOn) (C := RX12) (T := TX12) (N := 39) hx hb hta inX12w hown hK (rk hR0 hNA hS) 0 rfl rfl 30 (by decide) (hta _ lk_X12_75) (fun _ h9 => h9) rfl dX12_typesReckoning_10 ?_
  refine lv_iload_n hx hb dX12_typesReckoning_13 rfl (lv_at hl 3 rfl) ?_
  refine lv_iconst (v := 1) hx hb dX12_typesReckoning_14 (by decide) ?_
  refine lv_isub hx hb dX12_typesReckoning_15 ?_
  obtain ⟨hc, h⟩ := gc_some h
  refine va_lald hx hb hK hP 1 3 rfl rfl (inb_in hc) dX12_typesReckoning_16 ?_
  refine lv_topl (fun v2 e_v2 => ?_)
  have h := gl_use e_v2 h
  refine lv_lstore (lv' := [(5, .long v2), (3, .long v1), (0, .ref a_t), (1, .int p1), (2, .int p2)]) hx hb dX12_typesReckoning_17 hl (by decide) rfl (fun ls hl => ?_)
  refine lv_aload_n hx hb dX12_typesReckoning_19 rfl (lv_at hl 2 rfl) ?_
  refine va_get (D := (dC, dI)) (ci := 15) (v := .ref a_t_lowOn) (C := RX12) (T := TX12) (N := 39) hx hb hta inX12w hown hK (rk hR0 hNA hS) 0 rfl rfl 29 (by decide) (hta _ lk_X12_72) (fun _ h9 => h9) rfl dX12_typesReckoning_20 ?_
  refine lv_iload_n hx hb dX12_typesReckoning_23 rfl (lv_at hl 4 rfl) ?_
  obtain ⟨hc, h⟩ := gc_some h
  refine va_lald hx hb hK hP 0 3 rfl rfl (inb_in hc) dX12_typesReckoning_24 ?_
  refine lv_topl (fun v3 e_v3 => ?_)
  have h := gl_use e_v3 h
  refine lv_lstore (lv' := [(7, .long v3), (5, .long v2), (3, .long v1), (0, .ref a_t), (1, .int p1), (2, .int p2)]) hx hb dX12_typesReckoning_25 hl (by decide) rfl (fun ls hl => ?_)
  refine lv_aload_n hx hb dX12_typesReckoning_27 rfl (lv_at hl 3 rfl) ?_
  refine va_get (D := (dC, dI)) (ci := 15) (v := .ref a_t_highOn) (C := RX12) (T := TX12) (N := 39) hx hb hta inX12w hown hK (rk hR0 hNA hS) 0 rfl rfl 30 (by decide) (hta _ lk_X12_75) (fun _ h9 => h9) rfl dX12_typesReckoning_28 ?_
  refine lv_iload_n hx hb dX12_typesReckoning_31 rfl (lv_at hl 5 rfl) ?_
  obtain ⟨hc, h⟩ := gc_some h
  refine va_lald hx hb hK hP 1 3 rfl rfl (inb_in hc) dX12_typesReckoning_32 ?_
  refine lv_topl (fun v4 e_v4 => ?_)
  have h := gl_use e_v4 h
  refine lv_lstore (lv' := [(9, .long v4), (7, .long v3), (5, .long v2), (3, .long v1), (0, .ref a_t), (1, .int p1), (2, .int p2)]) hx hb dX12_typesReckoning_33 hl (by decide) rfl (fun ls hl => ?_)
  refine lv_iload_n hx hb dX12_typesReckoning_35 rfl (lv_at hl 5 rfl) ?_
  refine lv_bipush (v := 43) hx hb dX12_typesReckoning_36 (by decide) ?_
  refine lv_icmp_ne (tgt := 60) hx hb dX12_typesReckoning_38 (by decide) (fun c0 => ?_) (fun c0 => ?_)
  · have h := (if_neg c0).symm.trans h
    refine lv_iload_n hx hb dX12_typesReckoning_60 rfl (lv_at hl 5 rfl) ?_
    refine lv_bipush (v := 45) hx hb dX12_typesReckoning_61 (by decide) ?_
    refine lv_icmp_ne (tgt := 85) hx hb dX12_typesReckoning_63 (by decide) (fun c0 => ?_) (fun c0 => ?_)
    · have h := (if_neg c0).symm.trans h
      refine lv_lload_n hx hb dX12_typesReckoning_85 rfl (lv_at hl 3 rfl) ?_
      refine lv_lload hx hb dX12_typesReckoning_86 (lv_at hl 1 rfl) ?_
      refine lv_lmul hx hb dX12_typesReckoning_88 ?_
      refine lv_lload_n hx hb dX12_typesReckoning_89 rfl (lv_at hl 3 rfl) ?_
      refine lv_lload hx hb dX12_typesReckoning_90 (lv_at hl 0 rfl) ?_
      refine lv_lmul hx hb dX12_typesReckoning_92 ?_
      refine va_mmin_long hx hb (hml.trans hl.1.symm) hown (hta _ lm_X12_303) (hta _ mth_minlong_s) (hta _ mth_i) (hta _ mth_minlong_c) (Nat.le_of_ble_eq_true rfl) (Nat.le_of_ble_eq_true rfl) (Nat.le_of_ble_eq_true rfl) (Nat.le_of_ble_eq_true rfl) dX12_typesReckoning_93 ?_
      refine lv_lload hx hb dX12_typesReckoning_96 (lv_at hl 2 rfl) ?_
      refine lv_lload hx hb dX12_typesReckoning_98 (lv_at hl 1 rfl) ?_
      refine lv_lmul hx hb dX12_typesReckoning_100 ?_
      refine lv_lload hx hb dX12_typesReckoning_101 (lv_at hl 2 rfl) ?_
      refine lv_lload hx hb dX12_typesReckoning_103 (lv_at hl 0 rfl) ?_
      refine lv_lmul hx hb dX12_typesReckoning_105 ?_
      refine va_mmin_long hx hb (hml.trans hl.1.symm) hown (hta _ lm_X12_303) (hta _ mth_minlong_s) (hta _ mth_i) (hta _ mth_minlong_c) (Nat.le_of_ble_eq_true rfl) (Nat.le_of_ble_eq_true rfl) (Nat.le_of_ble_eq_true rfl) (Nat.le_of_ble_eq_true rfl) dX12_typesReckoning_106 ?_
      refine va_mmin_long hx hb (hml.trans hl.1.symm) hown (hta _ lm_X12_303) (hta _ mth_minlong_s) (hta _ mth_i) (hta _ mth_minlong_c) (Nat.le_of_ble_eq_true rfl) (Nat.le_of_ble_eq_true rfl) (Nat.le_of_ble_eq_true rfl) (Nat.le_of_ble_eq_true rfl) dX12_typesReckoning_109 ?_
      refine lv_topl (fun v5 e_v5 => ?_)
      have h := gl_use e_v5 h
      refine lv_lstore (lv' := [(11, .long v5), (9, .long v4), (7, .long v3), (5, .long v2), (3, .long v1), (0, .ref a_t), (1, .int p1), (2, .int p2)]) hx hb dX12_typesReckoning_112 hl (by decide) rfl (fun ls hl => ?_)
      refine lv_lload_n hx hb dX12_typesReckoning_114 rfl (lv_at hl 4 rfl) ?_
      refine lv_lload hx hb dX12_typesReckoning_115 (lv_at hl 2 rfl) ?_
      refine lv_lmul hx hb dX12_typesReckoning_117 ?_
      refine lv_lload_n hx hb dX12_typesReckoning_118 rfl (lv_at hl 4 rfl) ?_
      refine lv_lload hx hb dX12_typesReckoning_119 (lv_at hl 1 rfl) ?_
      refine lv_lmul hx hb dX12_typesReckoning_121 ?_
      refine va_mmax_long hx hb (hml.trans hl.1.symm) hown (hta _ lm_X12_306) (hta _ mth_maxlong_s) (hta _ mth_i) (hta _ mth_maxlong_c) (Nat.le_of_ble_eq_true rfl) (Nat.le_of_ble_eq_true rfl) (Nat.le_of_ble_eq_true rfl) (Nat.le_of_ble_eq_true rfl) dX12_typesReckoning_122 ?_
      refine lv_lload hx hb dX12_typesReckoning_125 (lv_at hl 3 rfl) ?_
      refine lv_lload hx hb dX12_typesReckoning_127 (lv_at hl 2 rfl) ?_
      refine lv_lmul hx hb dX12_typesReckoning_129 ?_
      refine lv_lload hx hb dX12_typesReckoning_130 (lv_at hl 3 rfl) ?_
      refine lv_lload hx hb dX12_typesReckoning_132 (lv_at hl 1 rfl) ?_
      refine lv_lmul hx hb dX12_typesReckoning_134 ?_
      refine va_mmax_long hx hb (hml.trans hl.1.symm) hown (hta _ lm_X12_306) (hta _ mth_maxlong_s) (hta _ mth_i) (hta _ mth_maxlong_c) (Nat.le_of_ble_eq_true rfl) (Nat.le_of_ble_eq_true rfl) (Nat.le_of_ble_eq_true rfl) (Nat.le_of_ble_eq_true rfl) dX12_typesReckoning_135 ?_
      refine va_mmax_long hx hb (hml.trans hl.1.symm) hown (hta _ lm_X12_306) (hta _ mth_maxlong_s) (hta _ mth_i) (hta _ mth_maxlong_c) (Nat.le_of_ble_eq_true rfl) (Nat.le_of_ble_eq_true rfl) (Nat.le_of_ble_eq_true rfl) (Nat.le_of_ble_eq_true rfl) dX12_typesReckoning_138 ?_
      refine lv_topl (fun v6 e_v6 => ?_)
      have h := gl_use e_v6 h
      refine lv_lstore (lv' := [(13, .long v6), (11, .long v5), (9, .long v4), (7, .long v3), (5, .long v2), (3, .long v1), (0, .ref a_t), (1, .int p1), (2, .int p2)]) hx hb dX12_typesReckoning_141 hl (by decide) rfl (fun ls hl => ?_)
      refine lv_aload_n hx hb dX12_typesReckoning_143 rfl (lv_at hl 6 rfl) ?_
      refine lv_iload_n hx hb dX12_typesReckoning_144 rfl (lv_at hl 8 rfl) ?_
      refine lv_iconst (v := 1) hx hb dX12_typesReckoning_145 (by decide) ?_
      refine lv_isub hx hb dX12_typesReckoning_146 ?_
      refine lv_lload hx hb dX12_typesReckoning_147 (lv_at hl 1 rfl) ?_
      refine lv_lload hx hb dX12_typesReckoning_149 (lv_at hl 0 rfl) ?_
      obtain ⟨r7, hq, h⟩ := gb_some h
      refine cxV (X2 := [(a_t_lowOn, .inl (cT 3, 6, .inr (.inl r7.1))), (a_t_highOn, .inl (cT 3, 6, .inr (.inl r7.2)))]) (va_runV (As := [.int (p2 - 1), .long v5, .long v6]) (rest := []) ⟨hx, hb, hml, hown, hta⟩ (c_X12_laysBounds l dC dI cT hq (hP.sub (ws' := [(a_t_lowOn, .inl (cT 3, 6, .inr (.inl t_lowOn))), (a_t_highOn, .inl (cT 3, 6, .inr (.inl t_highOn)))]) [0, 1] rfl) ((va_P.app hP (rk hR0 hNA hS)).sub (ws' := [(a_t, .inr (15, [.ref a_t_s, .ref a_t_f, .ref a_t_before, .ref a_t_beforeF, .ref a_t_aside, .ref a_t_asideF, .ref a_t_saved, .ref a_t_savedF, .int t_isSaved, .ref a_t_past, .ref a_t_pastF, .int t_pastMany, .int t_boiled, .int t_thrown, .ref a_t_refused, .ref a_t_text, .int t_length, .int t_error, .ref a_t_signs, .ref a_t_numbers, .int t_tokens, .int t_spoons, .int t_mostSpoons, .ref a_t_row, .ref a_t_isBrothOn, .ref a_t_dramsOn, .ref a_t_brothOn, .int t_cause, .int t_causeDetail, .ref a_t_lowOn, .ref a_t_highOn, .ref a_t_lowStored, .ref a_t_highStored, .ref a_t_isBrothStored, .int t_storeMany, .ref a_t_step, .ref a_t_stepF, .ref a_t_line, .int t_lineMany]))]) [2] rfl) ((hD.sub [0, 1] (by decide) rfl).weaken (fun _ _ _ _ => trivial)) (nac hP hD [0, 1] rfl (va_free hD hS hA [0, 1] rfl) hNA [.inl 0] rfl rfl)) (cV hta lm_X12_299 md_X12_laysBounds ⟨(Nat.le_of_ble_eq_true rfl), (Nat.le_of_ble_eq_true rfl)⟩) ⟨fbK, va_recv hK (rk hR0 hNA hS) (ci := 15) (q0 := 0) rfl rfl, fun U hU hW => ⟨rfl, hU, va_K.moved hW.alike hK⟩⟩ rfl rfl hl.1 rfl (lv_room (Nat.le_of_ble_eq_true rfl)) dX12_typesReckoning_151 ⟨(Nat.le_of_ble_eq_true rfl), (Nat.le_of_ble_eq_true rfl)⟩) hS hA hP hD [0, 1] rfl [.inl 0, .inl 1] rfl rfl rfl (fun H locs hP hD hS => ?_)
      exact wB_154 r7.2 r7.1 _ _ _ h hP hD hS (lv_sub hl [6, 8] rfl)
    · have h := (if_pos c0).symm.trans h
      refine lv_aload_n hx hb dX12_typesReckoning_66 rfl (lv_at hl 4 rfl) ?_
      refine lv_iload_n hx hb dX12_typesReckoning_67 rfl (lv_at hl 6 rfl) ?_
      refine lv_iconst (v := 1) hx hb dX12_typesReckoning_68 (by decide) ?_
      refine lv_isub hx hb dX12_typesReckoning_69 ?_
      refine lv_lload_n hx hb dX12_typesReckoning_70 rfl (lv_at hl 3 rfl) ?_
      refine lv_lload hx hb dX12_typesReckoning_71 (lv_at hl 0 rfl) ?_
      refine lv_lsub hx hb dX12_typesReckoning_73 ?_
      refine lv_lload hx hb dX12_typesReckoning_74 (lv_at hl 2 rfl) ?_
      refine lv_lload hx hb dX12_typesReckoning_76 (lv_at hl 1 rfl) ?_
      refine lv_lsub hx hb dX12_typesReckoning_78 ?_
      obtain ⟨r8, hq, h⟩ := gb_some h
      refine cxV (X2 := [(a_t_lowOn, .inl (cT 3, 6, .inr (.inl r8.1))), (a_t_highOn, .inl (cT 3, 6, .inr (.inl r8.2)))]) (va_runV (As := [.int (p2 - 1), .long (v1 - v4), .long (v2 - v3)]) (rest := []) ⟨hx, hb, hml, hown, hta⟩ (c_X12_laysBounds l dC dI cT hq (hP.sub (ws' := [(a_t_lowOn, .inl (cT 3, 6, .inr (.inl t_lowOn))), (a_t_highOn, .inl (cT 3, 6, .inr (.inl t_highOn)))]) [0, 1] rfl) ((va_P.app hP (rk hR0 hNA hS)).sub (ws' := [(a_t, .inr (15, [.ref a_t_s, .ref a_t_f, .ref a_t_before, .ref a_t_beforeF, .ref a_t_aside, .ref a_t_asideF, .ref a_t_saved, .ref a_t_savedF, .int t_isSaved, .ref a_t_past, .ref a_t_pastF, .int t_pastMany, .int t_boiled, .int t_thrown, .ref a_t_refused, .ref a_t_text, .int t_length, .int t_error, .ref a_t_signs, .ref a_t_numbers, .int t_tokens, .int t_spoons, .int t_mostSpoons, .ref a_t_row, .ref a_t_isBrothOn, .ref a_t_dramsOn, .ref a_t_brothOn, .int t_cause, .int t_causeDetail, .ref a_t_lowOn, .ref a_t_highOn, .ref a_t_lowStored, .ref a_t_highStored, .ref a_t_isBrothStored, .int t_storeMany, .ref a_t_step, .ref a_t_stepF, .ref a_t_line, .int t_lineMany]))]) [2] rfl) ((hD.sub [0, 1] (by decide) rfl).weaken (fun _ _ _ _ => trivial)) (nac hP hD [0, 1] rfl (va_free hD hS hA [0, 1] rfl) hNA [.inl 0] rfl rfl)) (cV hta lm_X12_299 md_X12_laysBounds ⟨(Nat.le_of_ble_eq_true rfl), (Nat.le_of_ble_eq_true rfl)⟩) ⟨fbK, va_recv hK (rk hR0 hNA hS) (ci := 15) (q0 := 0) rfl rfl, fun U hU hW => ⟨rfl, hU, va_K.moved hW.alike hK⟩⟩ rfl rfl hl.1 rfl (lv_room (Nat.le_of_ble_eq_true rfl)) dX12_typesReckoning_79 ⟨(Nat.le_of_ble_eq_true rfl), (Nat.le_of_ble_eq_true rfl)⟩) hS hA hP hD [0, 1] rfl [.inl 0, .inl 1] rfl rfl rfl (fun H locs hP hD hS => ?_)
      refine lv_goto (tgt := 154) hx hb dX12_typesReckoning_82 (by decide) ?_
      exact wB_154 r8.2 r8.1 _ _ _ h hP hD hS (lv_sub hl [4, 6] rfl)
  · have h := (if_pos c0).symm.trans h
    refine lv_aload_n hx hb dX12_typesReckoning_41 rfl (lv_at hl 4 rfl) ?_
    refine lv_iload_n hx hb dX12_typesReckoning_42 rfl (lv_at hl 6 rfl) ?_
    refine lv_iconst (v := 1) hx hb dX12_typesReckoning_43 (by decide) ?_
    refine lv_isub hx hb dX12_typesReckoning_44 ?_
    refine lv_lload_n hx hb dX12_typesReckoning_45 rfl (lv_at hl 3 rfl) ?_
    refine lv_lload hx hb dX12_typesReckoning_46 (lv_at hl 1 rfl) ?_
    refine lv_ladd hx hb dX12_typesReckoning_48 ?_
    refine lv_lload hx hb dX12_typesReckoning_49 (lv_at hl 2 rfl) ?_
    refine lv_lload hx hb dX12_typesReckoning_51 (lv_at hl 0 rfl) ?_
    refine lv_ladd hx hb dX12_typesReckoning_53 ?_
    obtain ⟨r9, hq, h⟩ := gb_some h
    refine cxV (X2 := [(a_t_lowOn, .inl (cT 3, 6, .inr (.inl r9.1))), (a_t_highOn, .inl (cT 3, 6, .inr (.inl r9.2)))]) (va_runV (As := [.int (p2 - 1), .long (v1 + v3), .long (v2 + v4)]) (rest := []) ⟨hx, hb, hml, hown, hta⟩ (c_X12_laysBounds l dC dI cT hq (hP.sub (ws' := [(a_t_lowOn, .inl (cT 3, 6, .inr (.inl t_lowOn))), (a_t_highOn, .inl (cT 3, 6, .inr (.inl t_highOn)))]) [0, 1] rfl) ((va_P.app hP (rk hR0 hNA hS)).sub (ws' := [(a_t, .inr (15, [.ref a_t_s, .ref a_t_f, .ref a_t_before, .ref a_t_beforeF, .ref a_t_aside, .ref a_t_asideF, .ref a_t_saved, .ref a_t_savedF, .int t_isSaved, .ref a_t_past, .ref a_t_pastF, .int t_pastMany, .int t_boiled, .int t_thrown, .ref a_t_refused, .ref a_t_text, .int t_length, .int t_error, .ref a_t_signs, .ref a_t_numbers, .int t_tokens, .int t_spoons, .int t_mostSpoons, .ref a_t_row, .ref a_t_isBrothOn, .ref a_t_dramsOn, .ref a_t_brothOn, .int t_cause, .int t_causeDetail, .ref a_t_lowOn, .ref a_t_highOn, .ref a_t_lowStored, .ref a_t_highStored, .ref a_t_isBrothStored, .int t_storeMany, .ref a_t_step, .ref a_t_stepF, .ref a_t_line, .int t_lineMany]))]) [2] rfl) ((hD.sub [0, 1] (by decide) rfl).weaken (fun _ _ _ _ => trivial)) (nac hP hD [0, 1] rfl (va_free hD hS hA [0, 1] rfl) hNA [.inl 0] rfl rfl)) (cV hta lm_X12_299 md_X12_laysBounds ⟨(Nat.le_of_ble_eq_true rfl), (Nat.le_of_ble_eq_true rfl)⟩) ⟨fbK, va_recv hK (rk hR0 hNA hS) (ci := 15) (q0 := 0) rfl rfl, fun U hU hW => ⟨rfl, hU, va_K.moved hW.alike hK⟩⟩ rfl rfl hl.1 rfl (lv_room (Nat.le_of_ble_eq_true rfl)) dX12_typesReckoning_54 ⟨(Nat.le_of_ble_eq_true rfl), (Nat.le_of_ble_eq_true rfl)⟩) hS hA hP hD [0, 1] rfl [.inl 0, .inl 1] rfl rfl rfl (fun H locs hP hD hS => ?_)
    refine lv_goto (tgt := 154) hx hb dX12_typesReckoning_57 (by decide) ?_
    exact wB_154 r9.2 r9.1 _ _ _ h hP hD hS (lv_sub hl [4, 6] rfl)
def g_X12_isFault_b251 (t_lowOn : Nat → Int64) (t_highOn : Nat → Int64) (t_isBrothOn : Nat → Int32) (t_s : Nat → Int32) (x3_251 : Int32) (x4_251 : Int32) (s0_251 : Int32) : Option (Int32 × (Nat → Int64) × (Nat → Int64) × (Nat → Int32)) :=
  gc (inb x4_251 6) <|
  gb (g_X12_isBroth t_s x3_251) fun r13 =>
  if (t_isBrothOn x4_251.toNatClampNeg) = r13 then
    gc (inb x4_251 6) <|
    if (t_isBrothOn x4_251.toNatClampNeg) = 0 then
      if s0_251 = 0 then
        some (1, t_lowOn, t_highOn, t_isBrothOn)
      else
        some (0, t_lowOn, t_highOn, t_isBrothOn)
    else
      some (0, t_lowOn, t_highOn, t_isBrothOn)
  else
    some (1, t_lowOn, t_highOn, t_isBrothOn)
def g_X12_isFault_b250 (t_lowOn : Nat → Int64) (t_highOn : Nat → Int64) (t_isBrothOn : Nat → Int32) (t_s : Nat → Int32) (x3_250 : Int32) (x4_250 : Int32) : Option (Int32 × (Nat → Int64) × (Nat → Int64) × (Nat → Int32)) :=
  g_X12_isFault_b251 t_lowOn t_highOn t_isBrothOn t_s x3_250 x4_250 0
def g_X12_isFault_b203 (t_lowOn : Nat → Int64) (t_highOn : Nat → Int64) (t_isBrothOn_203 : Nat → Int32) (x6_203 : Int32) (s1_203 : Int32) (s2_203 : Int64) (s3_203 : Int64) : Option (Int32 × (Nat → Int64) × (Nat → Int64) × (Nat → Int32)) :=
  gb (g_X12_laysBounds t_lowOn t_highOn s1_203 s2_203 s3_203) fun r14 =>
  gc (bo x6_203) <|
  some (x6_203, r14.1, r14.2, t_isBrothOn_203)
def g_X12_isFault_b189 (t_lowOn : Nat → Int64) (t_highOn : Nat → Int64) (t_isBrothOn_189 : Nat → Int32) (x5_189 : Int32) (x6_189 : Int32) (s1_189 : Int32) (s2_189 : Int64) : Option (Int32 × (Nat → Int64) × (Nat → Int64) × (Nat → Int32)) :=
  if x5_189 = 126 then
    g_X12_isFault_b203 t_lowOn t_highOn t_isBrothOn_189 x6_189 s1_189 s2_189 0
  else
    g_X12_isFault_b203 t_lowOn t_highOn t_isBrothOn_189 x6_189 s1_189 s2_189 (99 : Int64)
def g_X12_isFault_b171 (t_lowOn : Nat → Int64) (t_highOn : Nat → Int64) (t_isBrothOn : Nat → Int32) (x4_171 : Int32) (x5_171 : Int32) (x6_171 : Int32) (s1_171 : Int32) (s2_171 : Int32) : Option (Int32 × (Nat → Int64) × (Nat → Int64) × (Nat → Int32)) :=
  gc (inb s1_171 6) <|
  if x5_171 = 126 then
    g_X12_isFault_b189 t_lowOn t_highOn (upd t_isBrothOn s1_171.toNatClampNeg (vp_nar .boolean s2_171)) x5_171 x6_171 x4_171 0
  else
    g_X12_isFault_b189 t_lowOn t_highOn (upd t_isBrothOn s1_171.toNatClampNeg (vp_nar .boolean s2_171)) x5_171 x6_171 x4_171 (-99 : Int64)
def g_X12_isFault_b151 (t_lowOn : Nat → Int64) (t_highOn : Nat → Int64) (t_isBrothOn : Nat → Int32) (x4_151 : Int32) (x5_151 : Int32) (s0_151 : Int32) : Option (Int32 × (Nat → Int64) × (Nat → Int64) × (Nat → Int32)) :=
  if x5_151 = 126 then
    g_X12_isFault_b171 t_lowOn t_highOn t_isBrothOn x4_151 x5_151 s0_151 x4_151 1
  else
    g_X12_isFault_b171 t_lowOn t_highOn t_isBrothOn x4_151 x5_151 s0_151 x4_151 0
def g_X12_isFault_b143 (t_lowOn : Nat → Int64) (t_highOn : Nat → Int64) (t_isBrothOn : Nat → Int32) (x4_143 : Int32) (x5_143 : Int32) (s0_143 : Int32) (s1_143 : Int32) : Option (Int32 × (Nat → Int64) × (Nat → Int64) × (Nat → Int32)) :=
  if s0_143 = s1_143 then
    g_X12_isFault_b151 t_lowOn t_highOn t_isBrothOn x4_143 x5_143 1
  else
    g_X12_isFault_b151 t_lowOn t_highOn t_isBrothOn x4_143 x5_143 0
def g_X12_isFault_b124 (t_lowOn : Nat → Int64) (t_highOn : Nat → Int64) (t_isBrothOn : Nat → Int32) (x4_124 : Int32) (x5_124 : Int32) : Option (Int32 × (Nat → Int64) × (Nat → Int64) × (Nat → Int32)) :=
  gc (inb x4_124 6) <|
  if x5_124 = 126 then
    g_X12_isFault_b143 t_lowOn t_highOn t_isBrothOn x4_124 x5_124 (t_isBrothOn x4_124.toNatClampNeg) 1
  else
    g_X12_isFault_b143 t_lowOn t_highOn t_isBrothOn x4_124 x5_124 (t_isBrothOn x4_124.toNatClampNeg) 0
def g_X12_isFault_b66 (t_lowOn : Nat → Int64) (t_highOn : Nat → Int64) (p2 : Int32) (t_isBrothOn_66 : Nat → Int32) (s2_66 : Int64) (s3_66 : Int64) : Option (Int32 × (Nat → Int64) × (Nat → Int64) × (Nat → Int32)) :=
  gb (g_X12_laysBounds t_lowOn t_highOn p2 s2_66 s3_66) fun r15 =>
  some (0, r15.1, r15.2, t_isBrothOn_66)
def g_X12_isFault_b47 (t_lowOn : Nat → Int64) (t_highOn : Nat → Int64) (t_s : Nat → Int32) (p2 : Int32) (t_isBrothOn_47 : Nat → Int32) (x3_47 : Int32) (s2_47 : Int64) : Option (Int32 × (Nat → Int64) × (Nat → Int64) × (Nat → Int32)) :=
  gb (g_X12_isBroth t_s x3_47) fun r16 =>
  if r16 = 0 then
    gb (g_X12_of t_s x3_47 (2 : Int32)) fun r17 =>
    g_X12_isFault_b66 t_lowOn t_highOn p2 t_isBrothOn_47 s2_47 r17.toInt64
  else
    g_X12_isFault_b66 t_lowOn t_highOn p2 t_isBrothOn_47 s2_47 0
def g_X12_isFault (t_numbers : Nat → Int32) (t_signs : Nat → Int32) (t_lowOn : Nat → Int64) (t_highOn : Nat → Int64) (t_isBrothOn : Nat → Int32) (t_s : Nat → Int32) (p1 : Int32) (p2 : Int32) : Option (Int32 × (Nat → Int64) × (Nat → Int64) × (Nat → Int32)) :=
  gc (inb p1 60) <|
  gl (t_numbers p1.toNatClampNeg) fun v1 =>
  gb (g_X12_isLetter t_signs p1) fun r2 =>
  if r2 = 0 then
    gb (g_X12_isNumber t_signs p1) fun r3 =>
    if r3 = 0 then
      gl (p2 - 1) fun v4 =>
      gc (inb p1 60) <|
      gl (t_signs p1.toNatClampNeg) fun v5 =>
      if v5 = 126 then
        g_X12_isFault_b124 t_lowOn t_highOn t_isBrothOn v4 v5
      else
        if v5 = 33 then
          g_X12_isFault_b124 t_lowOn t_highOn t_isBrothOn v4 v5
        else
          if v5 = 61 then
            gc (inb v4 6) <|
            gb (g_X12_holds t_s v1 (t_lowOn v4.toNatClampNeg)) fun r7 =>
            if r7 = 0 then
              g_X12_isFault_b250 t_lowOn t_highOn t_isBrothOn t_s v1 v4
            else
              gc (inb v4 6) <|
              gb (g_X12_holds t_s v1 (t_highOn v4.toNatClampNeg)) fun r8 =>
              if r8 = 0 then
                g_X12_isFault_b250 t_lowOn t_highOn t_isBrothOn t_s v1 v4
              else
                g_X12_isFault_b251 t_lowOn t_highOn t_isBrothOn t_s v1 v4 1
          else
            gb (g_X12_typesReckoning t_lowOn t_highOn t_isBrothOn v5 v4) fun r6 =>
            gc (bo r6.1) <|
            some (r6.1, r6.2.1, r6.2.2, t_isBrothOn)
    else
      gc (inb p2 6) <|
      gb (g_X12_laysBounds t_lowOn t_highOn p2 v1.toInt64 v1.toInt64) fun r9 =>
      some (0, r9.1, r9.2, (upd t_isBrothOn p2.toNatClampNeg (vp_nar .boolean 0)))
  else
    gb (g_X12_isBroth t_s v1) fun r10 =>
    gc (inb p2 6) <|
    gb (g_X12_isBroth t_s v1) fun r11 =>
    if r11 = 0 then
      gb (g_X12_of t_s v1 (1 : Int32)) fun r12 =>
      g_X12_isFault_b47 t_lowOn t_highOn t_s p2 (upd t_isBrothOn p2.toNatClampNeg (vp_nar .boolean r10)) v1 r12.toInt64
    else
      g_X12_isFault_b47 t_lowOn t_highOn t_s p2 (upd t_isBrothOn p2.toNatClampNeg (vp_nar .boolean r10)) v1 0
set_option maxHeartbeats 4000000 in
set_option maxRecDepth 100000 in
theorem c_X12_isFault (l : Launch) (dC : Nat → ClassId) (dI : Nat → Nat → Nat) (cT : Nat → ClassId) {Hh : Heap} {a_t : Nat} {a_t_numbers : Nat} {a_t_signs : Nat} {a_t_lowOn : Nat} {a_t_highOn : Nat} {a_t_isBrothOn : Nat} {a_t_s : Nat} {a_t_f : Nat} {a_t_before : Nat} {a_t_beforeF : Nat} {a_t_aside : Nat} {a_t_asideF : Nat} {a_t_saved : Nat} {a_t_savedF : Nat} {a_t_past : Nat} {a_t_pastF : Nat} {a_t_refused : Nat} {a_t_text : Nat} {a_t_row : Nat} {a_t_dramsOn : Nat} {a_t_brothOn : Nat} {a_t_lowStored : Nat} {a_t_highStored : Nat} {a_t_isBrothStored : Nat} {a_t_step : Nat} {a_t_stepF : Nat} {a_t_line : Nat} {t_numbers : Nat → Int32} {t_signs : Nat → Int32} {t_lowOn : Nat → Int64} {t_highOn : Nat → Int64} {t_isBrothOn : Nat → Int32} {t_s : Nat → Int32} {p1 : Int32} {p2 : Int32} {t_isSaved : Int32} {t_pastMany : Int32} {t_boiled : Int32} {t_thrown : Int32} {t_length : Int32} {t_error : Int32} {t_tokens : Int32} {t_spoons : Int32} {t_mostSpoons : Int32} {t_cause : Int32} {t_causeDetail : Int32} {t_storeMany : Int32} {t_lineMany : Int32} {o : Int32 × (Nat → Int64) × (Nat → Int64) × (Nat → Int32)} (h : g_X12_isFault t_numbers t_signs t_lowOn t_highOn t_isBrothOn t_s p1 p2 = some o) (hP0 : va_P (dC, dI) vwCl [(a_t_lowOn, .inl (cT 3, 6, .inr (.inl t_lowOn))), (a_t_highOn, .inl (cT 3, 6, .inr (.inl t_highOn))), (a_t_isBrothOn, .inl (cT 1, 6, .inl t_isBrothOn))] Hh) (hR0 : va_P (dC, dI) vwCl [(a_t, .inr (15, [.ref a_t_s, .ref a_t_f, .ref a_t_before, .ref a_t_beforeF, .ref a_t_aside, .ref a_t_asideF, .ref a_t_saved, .ref a_t_savedF, .int t_isSaved, .ref a_t_past, .ref a_t_pastF, .int t_pastMany, .int t_boiled, .int t_thrown, .ref a_t_refused, .ref a_t_text, .int t_length, .int t_error, .ref a_t_signs, .ref a_t_numbers, .int t_tokens, .int t_spoons, .int t_mostSpoons, .ref a_t_row, .ref a_t_isBrothOn, .ref a_t_dramsOn, .ref a_t_brothOn, .int t_cause, .int t_causeDetail, .ref a_t_lowOn, .ref a_t_highOn, .ref a_t_lowStored, .ref a_t_highStored, .ref a_t_isBrothStored, .int t_storeMany, .ref a_t_step, .ref a_t_stepF, .ref a_t_line, .int t_lineMany])), (a_t_numbers, .inl (cT 0, 60, .inl t_numbers)), (a_t_signs, .inl (cT 2, 60, .inl t_signs)), (a_t_s, .inl (cT 0, 282, .inl t_s))] Hh) (hD0 : va_D (fun _ => True) [(a_t_lowOn, .inl (cT 3, 6, .inr (.inl t_lowOn))), (a_t_highOn, .inl (cT 3, 6, .inr (.inl t_highOn))), (a_t_isBrothOn, .inl (cT 1, 6, .inl t_isBrothOn))]) (hN0 : ∀ (k : Nat) (q : Nat × va_E), ([(a_t, .inr (15, [.ref a_t_s, .ref a_t_f, .ref a_t_before, .ref a_t_beforeF, .ref a_t_aside, .ref a_t_asideF, .ref a_t_saved, .ref a_t_savedF, .int t_isSaved, .ref a_t_past, .ref a_t_pastF, .int t_pastMany, .int t_boiled, .int t_thrown, .ref a_t_refused, .ref a_t_text, .int t_length, .int t_error, .ref a_t_signs, .ref a_t_numbers, .int t_tokens, .int t_spoons, .int t_mostSpoons, .ref a_t_row, .ref a_t_isBrothOn, .ref a_t_dramsOn, .ref a_t_brothOn, .int t_cause, .int t_causeDetail, .ref a_t_lowOn, .ref a_t_highOn, .ref a_t_lowStored, .ref a_t_highStored, .ref a_t_isBrothStored, .int t_storeMany, .ref a_t_step, .ref a_t_stepF, .ref a_t_line, .int t_lineMany])), (a_t_numbers, .inl (cT 0, 60, .inl t_numbers)), (a_t_signs, .inl (cT 2, 60, .inl t_signs)), (a_t_s, .inl (cT 0, 282, .inl t_s))] : va_W)[k]? = some q → ¬ va_A [(a_t_lowOn, .inl (cT 3, 6, .inr (.inl t_lowOn))), (a_t_highOn, .inl (cT 3, 6, .inr (.inl t_highOn))), (a_t_isBrothOn, .inl (cT 1, 6, .inl t_isBrothOn))] Hh.size q.1) : Met l yX12_isFault (wA yX12_isFault cX12_isFault 7 (some .boolean)) ({ frames := 2, cells := 0, slots := 0, locals := 59 } : Room) (PK dC dI cT [.ref a_t, .int p1, .int p2] Hh) (va_Qi (fun x (_ : Unit) => x = o.1) (fun _ t => va_P (dC, dI) vwCl [(a_t_lowOn, .inl (cT 3, 6, .inr (.inl o.2.1))), (a_t_highOn, .inl (cT 3, 6, .inr (.inl o.2.2.1))), (a_t_isBrothOn, .inl (cT 1, 6, .inl o.2.2.2))] t.heap) (va_A [(a_t_lowOn, .inl (cT 3, 6, .inr (.inl t_lowOn))), (a_t_highOn, .inl (cT 3, 6, .inr (.inl t_highOn))), (a_t_isBrothOn, .inl (cT 1, 6, .inl t_isBrothOn))] Hh.size)) 0 0 (va_A [(a_t_lowOn, .inl (cT 3, 6, .inr (.inl t_lowOn))), (a_t_highOn, .inl (cT 3, 6, .inr (.inl t_highOn))), (a_t_isBrothOn, .inl (cT 1, 6, .inl t_isBrothOn))] Hh.size) := by
  refine Met.ofW (cc := cX12_isFault) (maxL := 7) (ret := (some .boolean)) (by decide) rfl ?_
  intro p e s m args below meth c s₁ B hml hv
  obtain ⟨rfl, hH, hK⟩ := hv
  subst hH
  have hx := B.exec
  have hb := B.bytes
  have hr := B.returns
  have hta : ∀ w ∈ ALLW, w.before [.ref a_t, .int p1, .int p2].toArray s = true := fun w hw => atoms_spec (ws := wA yX12_isFault cX12_isFault 7 (some .boolean)) B.pre w (List.mem_cons_of_mem _ hw)
  have hown : s.vm.findClass RX12 = some m.cls := findClass_of_methodNamed B.named
  have hlocks := B.notSynchronized
  have hD := hD0.self (sz := s.heap.size)
  have hNA := hN0
  generalize hAe : va_A [(a_t_lowOn, .inl (cT 3, 6, .inr (.inl t_lowOn))), (a_t_highOn, .inl (cT 3, 6, .inr (.inl t_highOn))), (a_t_isBrothOn, .inl (cT 1, 6, .inl t_isBrothOn))] s.heap.size = A at hD hNA ⊢
  have hP := hP0
  have hA : ∀ q : Nat, s.heap.size ≤ q → A q := fun q h => by rw [← hAe]; exact Or.inr h
  have hS : va_S A s.heap s.heap [] := va_S.rf
  have hl := lv_entry [.ref a_t, .int p1, .int p2] (n := 7) (Nat.le_of_ble_eq_true rfl)
  rw [lg_entry_eq]
  generalize (lg_sl [.ref a_t, .int p1, .int p2] ++ List.replicate (7 - (lg_sl [.ref a_t, .int p1, .int p2]).length) Slot.unset).toArray = ls at hl ⊢
  have hl : lv_has ls 7 [(0, .ref a_t), (1, .int p1), (2, .int p2)] := hl
  obtain ⟨Q, hQ⟩ : ∃ Q, Q = MQ below (va_Qi (fun x (_ : Unit) => x = o.1) (fun _ t => va_P (dC, dI) vwCl [(a_t_lowOn, .inl (cT 3, 6, .inr (.inl o.2.1))), (a_t_highOn, .inl (cT 3, 6, .inr (.inl o.2.2.1))), (a_t_isBrothOn, .inl (cT 1, 6, .inl o.2.2.2))] t.heap) A) [.ref a_t, .int p1, .int p2].toArray s 0 0 A := ⟨_, rfl⟩
  rw [← hQ]
  have wB_251 : ∀ (x3_251 : Int32) (x4_251 : Int32) (s0_251 : Int32) (H : Heap) (locs : List Loc) (ls : Array Slot), g_X12_isFault_b251 t_lowOn t_highOn t_isBrothOn t_s x3_251 x4_251 s0_251 = some o → va_P (dC, dI) vwCl [(a_t_lowOn, .inl (cT 3, 6, .inr (.inl t_lowOn))), (a_t_highOn, .inl (cT 3, 6, .inr (.inl t_highOn))), (a_t_isBrothOn, .inl (cT 1, 6, .inl t_isBrothOn))] H → va_D A [(a_t_lowOn, .inl (cT 3, 6, .inr (.inl t_lowOn))), (a_t_highOn, .inl (cT 3, 6, .inr (.inl t_highOn))), (a_t_isBrothOn, .inl (cT 1, 6, .inl t_isBrothOn))] → va_S A s.heap H locs → lv_has ls 7 [(0, .ref a_t), (3, .int x3_251), (4, .int x4_251)] → W p l e ({ frames := 2, cells := 0, slots := 0, locals := 59 } : Room) s m [.ref a_t, .int p1, .int p2].toArray below meth c H locs 0 0 Q (F0 m 251 ls [.int s0_251]) := by
    intro x3_251 x4_251 s0_251 H locs ls h hP hD hS hl
    unfold g_X12_isFault_b251 at h
    refine lv_istore (lv' := [(6, .int s0_251), (0, .ref a_t), (3, .int x3_251), (4, .int x4_251)]) hx hb dX12_isFault_251 hl (by decide) rfl (fun ls hl => ?_)
    refine lv_aload_n hx hb dX12_isFault_253 rfl (lv_at hl 1 rfl) ?_
    refine va_get (D := (dC, dI)) (ci := 15) (v := .ref a_t_isBrothOn) (C := RX12) (T := TX12) (N := 39) hx hb hta inX12w hown hK (rk hR0 hNA hS) 0 rfl rfl 24 (by decide) (hta _ lk_X12_61) (fun _ h9 => h9) rfl dX12_isFault_254 ?_
    refine lv_iload hx hb dX12_isFault_257 (lv_at hl 3 rfl) ?_
    obtain ⟨hc, h⟩ := gc_some h
    refine va_zald hx hb hK hP 2 1 rfl rfl (inb_in hc) dX12_isFault_259 ?_
    refine lv_aload_n hx hb dX12_isFault_260 rfl (lv_at hl 1 rfl) ?_
    refine lv_iload_n hx hb dX12_isFault_261 rfl (lv_at hl 2 rfl) ?_
    obtain ⟨r13, hq, h⟩ := gb_some h
    refine crI (va_runV (As := [.int x3_251]) (rest := [.int (t_isBrothOn x4_251.toNatClampNeg)]) ⟨hx, hb, hml, hown, hta⟩ (c_X12_isBroth l dC dI cT hq ((rk hR0 hNA hS).sub (ws' := [(a_t, .inr (15, [.ref a_t_s, .ref a_t_f, .ref a_t_before, .ref a_t_beforeF, .ref a_t_aside, .ref a_t_asideF, .ref a_t_saved, .ref a_t_savedF, .int t_isSaved, .ref a_t_past, .ref a_t_pastF, .int t_pastMany, .int t_boiled, .int t_thrown, .ref a_t_refused, .ref a_t_text, .int t_length, .int t_error, .ref a_t_signs, .ref a_t_numbers, .int t_tokens, .int t_spoons, .int t_mostSpoons, .ref a_t_row, .ref a_t_isBrothOn, .ref a_t_dramsOn, .ref a_t_brothOn, .int t_cause, .int t_causeDetail, .ref a_t_lowOn, .ref a_t_highOn, .ref a_t_lowStored, .ref a_t_highStored, .ref a_t_isBrothStored, .int t_storeMany, .ref a_t_step, .ref a_t_stepF, .ref a_t_line, .int t_lineMany])), (a_t_s, .inl (cT 0, 282, .inl t_s))]) [0, 3] rfl)) (cV hta lm_X12_160 md_X12_isBroth ⟨(Nat.le_of_ble_eq_true rfl), (Nat.le_of_ble_eq_true rfl)⟩) ⟨fbK, va_recv hK (rk hR0 hNA hS) (ci := 15) (q0 := 0) rfl rfl, fun U hU hW => ⟨rfl, hU, va_K.moved hW.alike hK⟩⟩ rfl rfl hl.1 rfl (lv_room (Nat.le_of_ble_eq_true rfl)) dX12_isFault_262 ⟨(Nat.le_of_ble_eq_true rfl), (Nat.le_of_ble_eq_true rfl)⟩) hS hA (fun locs hS => ?_)
    refine lv_icmp_ne (tgt := 283) hx hb dX12_isFault_265 (by decide) (fun c0 => ?_) (fun c0 => ?_)
    · have h := (if_neg c0).symm.trans h
      refine lv_iconst (v := 1) hx hb dX12_isFault_283 (by decide) ?_
      refine lv_goto (tgt := 288) hx hb dX12_isFault_284 (by decide) ?_
      have ho := Option.some.inj h
      rw [hQ]
      exact W.zret (ty := .boolean) (v := 1) hx hb hr rfl (fun t ht hW => ⟨⟨1, (), rfl, by rw [← ho], by show va_P (dC, dI) vwCl _ t.heap; rw [ht, ← ho]; exact hP⟩, hS.F ht⟩) hS.2.2 dX12_isFault_288
    · have h := (if_pos c0).symm.trans h
      refine lv_aload_n hx hb dX12_isFault_268 rfl (lv_at hl 1 rfl) ?_
      refine va_get (D := (dC, dI)) (ci := 15) (v := .ref a_t_isBrothOn) (C := RX12) (T := TX12) (N := 39) hx hb hta inX12w hown hK (rk hR0 hNA hS) 0 rfl rfl 24 (by decide) (hta _ lk_X12_61) (fun _ h9 => h9) rfl dX12_isFault_269 ?_
      refine lv_iload hx hb dX12_isFault_272 (lv_at hl 3 rfl) ?_
      obtain ⟨hc, h⟩ := gc_some h
      refine va_zald hx hb hK hP 2 1 rfl rfl (inb_in hc) dX12_isFault_274 ?_
      refine lv_if_ne (tgt := 287) hx hb dX12_isFault_275 (by decide) (fun c0 => ?_) (fun c0 => ?_)
      · have h := (if_neg c0).symm.trans h
        refine lv_iconst (v := 0) hx hb dX12_isFault_287 (by decide) ?_
        have ho := Option.some.inj h
        rw [hQ]
        exact W.zret (ty := .boolean) (v := 0) hx hb hr rfl (fun t ht hW => ⟨⟨0, (), rfl, by rw [← ho], by show va_P (dC, dI) vwCl _ t.heap; rw [ht, ← ho]; exact hP⟩, hS.F ht⟩) hS.2.2 dX12_isFault_288
      · have h := (if_pos c0).symm.trans h
        refine lv_iload hx hb dX12_isFault_278 (lv_at hl 0 rfl) ?_
        refine lv_if_ne (tgt := 287) hx hb dX12_isFault_280 (by decide) (fun c0 => ?_) (fun c0 => ?_)
        · have h := (if_neg c0).symm.trans h
          refine lv_iconst (v := 0) hx hb dX12_isFault_287 (by decide) ?_
          have ho := Option.some.inj h
          rw [hQ]
          exact W.zret (ty := .boolean) (v := 0) hx hb hr rfl (fun t ht hW => ⟨⟨0, (), rfl, by rw [← ho], by show va_P (dC, dI) vwCl _ t.heap; rw [ht, ← ho]; exact hP⟩, hS.F ht⟩) hS.2.2 dX12_isFault_288
        · have h := (if_pos c0).symm.trans h
          refine lv_iconst (v := 1) hx hb dX12_isFault_283 (by decide) ?_
          refine lv_goto (tgt := 288) hx hb dX12_isFault_284 (by decide) ?_
          have ho := Option.some.inj h
          rw [hQ]
          exact W.zret (ty := .boolean) (v := 1) hx hb hr rfl (fun t ht hW => ⟨⟨1, (), rfl, by rw [← ho], by show va_P (dC, dI) vwCl _ t.heap; rw [ht, ← ho]; exact hP⟩, hS.F ht⟩) hS.2.2 dX12_isFault_288
  have wB_250 : ∀ (x3_250 : Int32) (x4_250 : Int32) (H : Heap) (locs : List Loc) (ls : Array Slot), g_X12_isFault_b250 t_lowOn t_highOn t_isBrothOn t_s x3_250 x4_250 = some o → va_P (dC, dI) vwCl [(a_t_lowOn, .inl (cT 3, 6, .inr (.inl t_lowOn))), (a_t_highOn, .inl (cT 3, 6, .inr (.inl t_highOn))), (a_t_isBrothOn, .inl (cT 1, 6, .inl t_isBrothOn))] H → va_D A [(a_t_lowOn, .inl (cT 3, 6, .inr (.inl t_lowOn))), (a_t_highOn, .inl (cT 3, 6, .inr (.inl t_highOn))), (a_t_isBrothOn, .inl (cT 1, 6, .inl t_isBrothOn))] → va_S A s.heap H locs → lv_has ls 7 [(0, .ref a_t), (3, .int x3_250), (4, .int x4_250)] → W p l e ({ frames := 2, cells := 0, slots := 0, locals := 59 } : Room) s m [.ref a_t, .int p1, .int p2].toArray below meth c H locs 0 0 Q (F0 m 250 ls []) := by
    intro x3_250 x4_250 H locs ls h hP hD hS hl
    unfold g_X12_isFault_b250 at h
    refine lv_iconst (v := 0) hx hb dX12_isFault_250 (by decide) ?_
    exact wB_251 x3_250 x4_250 0 _ _ _ h hP hD hS (lv_sub hl [0, 1, 2] rfl)
  have wB_203 : ∀ (t_isBrothOn_203 : Nat → Int32) (x6_203 : Int32) (s1_203 : Int32) (s2_203 : Int64) (s3_203 : Int64) (H : Heap) (locs : List Loc) (ls : Array Slot), g_X12_isFault_b203 t_lowOn t_highOn t_isBrothOn_203 x6_203 s1_203 s2_203 s3_203 = some o → va_P (dC, dI) vwCl [(a_t_lowOn, .inl (cT 3, 6, .inr (.inl t_lowOn))), (a_t_highOn, .inl (cT 3, 6, .inr (.inl t_highOn))), (a_t_isBrothOn, .inl (cT 1, 6, .inl t_isBrothOn_203))] H → va_D A [(a_t_lowOn, .inl (cT 3, 6, .inr (.inl t_lowOn))), (a_t_highOn, .inl (cT 3, 6, .inr (.inl t_highOn))), (a_t_isBrothOn, .inl (cT 1, 6, .inl t_isBrothOn_203))] → va_S A s.heap H locs → lv_has ls 7 [(6, .int x6_203)] → W p l e ({ frames := 2, cells := 0, slots := 0, locals := 59 } : Room) s m [.ref a_t, .int p1, .int p2].toArray below meth c H locs 0 0 Q (F0 m 203 ls [.long s3_203, .long s2_203, .int s1_203, .ref a_t]) := by
    intro t_isBrothOn_203 x6_203 s1_203 s2_203 s3_203 H locs ls h hP hD hS hl
    unfold g_X12_isFault_b203 at h
    obtain ⟨r14, hq, h⟩ := gb_some h
    refine cxV (X2 := [(a_t_lowOn, .inl (cT 3, 6, .inr (.inl r14.1))), (a_t_highOn, .inl (cT 3, 6, .inr (.inl r14.2))), (a_t_isBrothOn, .inl (cT 1, 6, .inl t_isBrothOn_203))]) (va_runV (As := [.int s1_203, .long s2_203, .long s3_203]) (rest := []) ⟨hx, hb, hml, hown, hta⟩ (c_X12_laysBounds l dC dI cT hq (hP.sub (ws' := [(a_t_lowOn, .inl (cT 3, 6, .inr (.inl t_lowOn))), (a_t_highOn, .inl (cT 3, 6, .inr (.inl t_highOn)))]) [0, 1] rfl) ((va_P.app hP (rk hR0 hNA hS)).sub (ws' := [(a_t, .inr (15, [.ref a_t_s, .ref a_t_f, .ref a_t_before, .ref a_t_beforeF, .ref a_t_aside, .ref a_t_asideF, .ref a_t_saved, .ref a_t_savedF, .int t_isSaved, .ref a_t_past, .ref a_t_pastF, .int t_pastMany, .int t_boiled, .int t_thrown, .ref a_t_refused, .ref a_t_text, .int t_length, .int t_error, .ref a_t_signs, .ref a_t_numbers, .int t_tokens, .int t_spoons, .int t_mostSpoons, .ref a_t_row, .ref a_t_isBrothOn, .ref a_t_dramsOn, .ref a_t_brothOn, .int t_cause, .int t_causeDetail, .ref a_t_lowOn, .ref a_t_highOn, .ref a_t_lowStored, .ref a_t_highStored, .ref a_t_isBrothStored, .int t_storeMany, .ref a_t_step, .ref a_t_stepF, .ref a_t_line, .int t_lineMany]))]) [3] rfl) ((hD.sub [0, 1] (by decide) rfl).weaken (fun _ _ _ _ => trivial)) (nac hP hD [0, 1] rfl (va_free hD hS hA [0, 1] rfl) hNA [.inl 0] rfl rfl)) (cV hta lm_X12_299 md_X12_laysBounds ⟨(Nat.le_of_ble_eq_true rfl), (Nat.le_of_ble_eq_true rfl)⟩) ⟨fbK, va_recv hK (rk hR0 hNA hS) (ci := 15) (q0 := 0) rfl rfl, fun U hU hW => ⟨rfl, hU, va_K.moved hW.alike hK⟩⟩ rfl rfl hl.1 rfl (lv_room (Nat.le_of_ble_eq_true rfl)) dX12_isFault_203 ⟨(Nat.le_of_ble_eq_true rfl), (Nat.le_of_ble_eq_true rfl)⟩) hS hA hP hD [0, 1] rfl [.inl 0, .inl 1, .inr 2] rfl rfl rfl (fun H locs hP hD hS => ?_)
    refine lv_iload hx hb dX12_isFault_206 (lv_at hl 0 rfl) ?_
    obtain ⟨hc, h⟩ := gc_some h
    have ho := Option.some.inj h
    rw [hQ]
    exact W.zret (ty := .boolean) (v := x6_203) hx hb hr (bo_n hc) (fun t ht hW => ⟨⟨x6_203, (), rfl, by rw [← ho], by show va_P (dC, dI) vwCl _ t.heap; rw [ht, ← ho]; exact hP⟩, hS.F ht⟩) hS.2.2 dX12_isFault_208
  have wB_189 : ∀ (t_isBrothOn_189 : Nat → Int32) (x5_189 : Int32) (x6_189 : Int32) (s1_189 : Int32) (s2_189 : Int64) (H : Heap) (locs : List Loc) (ls : Array Slot), g_X12_isFault_b189 t_lowOn t_highOn t_isBrothOn_189 x5_189 x6_189 s1_189 s2_189 = some o → va_P (dC, dI) vwCl [(a_t_lowOn, .inl (cT 3, 6, .inr (.inl t_lowOn))), (a_t_highOn, .inl (cT 3, 6, .inr (.inl t_highOn))), (a_t_isBrothOn, .inl (cT 1, 6, .inl t_isBrothOn_189))] H → va_D A [(a_t_lowOn, .inl (cT 3, 6, .inr (.inl t_lowOn))), (a_t_highOn, .inl (cT 3, 6, .inr (.inl t_highOn))), (a_t_isBrothOn, .inl (cT 1, 6, .inl t_isBrothOn_189))] → va_S A s.heap H locs → lv_has ls 7 [(5, .int x5_189), (6, .int x6_189)] → W p l e ({ frames := 2, cells := 0, slots := 0, locals := 59 } : Room) s m [.ref a_t, .int p1, .int p2].toArray below meth c H locs 0 0 Q (F0 m 189 ls [.long s2_189, .int s1_189, .ref a_t]) := by
    intro t_isBrothOn_189 x5_189 x6_189 s1_189 s2_189 H locs ls h hP hD hS hl
    unfold g_X12_isFault_b189 at h
    refine lv_iload hx hb dX12_isFault_189 (lv_at hl 0 rfl) ?_
    refine lv_bipush (v := 126) hx hb dX12_isFault_191 (by decide) ?_
    refine lv_icmp_ne (tgt := 200) hx hb dX12_isFault_193 (by decide) (fun c0 => ?_) (fun c0 => ?_)
    · have h := (if_neg c0).symm.trans h
      refine lv_ldc2 (v := 99) hx hb hown (hta _ kc_X12_308) dX12_isFault_200 ?_
      exact wB_203 t_isBrothOn_189 x6_189 s1_189 s2_189 (99 : Int64) _ _ _ h hP hD hS (lv_sub hl [1] rfl)
    · have h := (if_pos c0).symm.trans h
      refine lv_lconst (v := 0) hx hb dX12_isFault_196 (by decide) ?_
      refine lv_goto (tgt := 203) hx hb dX12_isFault_197 (by decide) ?_
      exact wB_203 t_isBrothOn_189 x6_189 s1_189 s2_189 0 _ _ _ h hP hD hS (lv_sub hl [1] rfl)
  have wB_171 : ∀ (x4_171 : Int32) (x5_171 : Int32) (x6_171 : Int32) (s1_171 : Int32) (s2_171 : Int32) (H : Heap) (locs : List Loc) (ls : Array Slot), g_X12_isFault_b171 t_lowOn t_highOn t_isBrothOn x4_171 x5_171 x6_171 s1_171 s2_171 = some o → va_P (dC, dI) vwCl [(a_t_lowOn, .inl (cT 3, 6, .inr (.inl t_lowOn))), (a_t_highOn, .inl (cT 3, 6, .inr (.inl t_highOn))), (a_t_isBrothOn, .inl (cT 1, 6, .inl t_isBrothOn))] H → va_D A [(a_t_lowOn, .inl (cT 3, 6, .inr (.inl t_lowOn))), (a_t_highOn, .inl (cT 3, 6, .inr (.inl t_highOn))), (a_t_isBrothOn, .inl (cT 1, 6, .inl t_isBrothOn))] → va_S A s.heap H locs → lv_has ls 7 [(0, .ref a_t), (4, .int x4_171), (5, .int x5_171), (6, .int x6_171)] → W p l e ({ frames := 2, cells := 0, slots := 0, locals := 59 } : Room) s m [.ref a_t, .int p1, .int p2].toArray below meth c H locs 0 0 Q (F0 m 171 ls [.int s2_171, .int s1_171, .ref a_t_isBrothOn]) := by
    intro x4_171 x5_171 x6_171 s1_171 s2_171 H locs ls h hP hD hS hl
    unfold g_X12_isFault_b171 at h
    obtain ⟨hc, h⟩ := gc_some h
    refine va_zast hx hb hK hP hD hS 2 1 rfl rfl (inb_in hc) dX12_isFault_171 (fun H locs hP hD hS => ?_)
    have hP : va_P (dC, dI) vwCl [(a_t_lowOn, .inl (cT 3, 6, .inr (.inl t_lowOn))), (a_t_highOn, .inl (cT 3, 6, .inr (.inl t_highOn))), (a_t_isBrothOn, .inl (cT 1, 6, .inl (upd t_isBrothOn s1_171.toNatClampNeg (vp_nar .boolean s2_171))))] H := hP
    have hD : va_D A [(a_t_lowOn, .inl (cT 3, 6, .inr (.inl t_lowOn))), (a_t_highOn, .inl (cT 3, 6, .inr (.inl t_highOn))), (a_t_isBrothOn, .inl (cT 1, 6, .inl (upd t_isBrothOn s1_171.toNatClampNeg (vp_nar .boolean s2_171))))] := hD
    refine lv_aload_n hx hb dX12_isFault_172 rfl (lv_at hl 0 rfl) ?_
    refine lv_iload hx hb dX12_isFault_173 (lv_at hl 1 rfl) ?_
    refine lv_iload hx hb dX12_isFault_175 (lv_at hl 2 rfl) ?_
    refine lv_bipush (v := 126) hx hb dX12_isFault_177 (by decide) ?_
    refine lv_icmp_ne (tgt := 186) hx hb dX12_isFault_179 (by decide) (fun c0 => ?_) (fun c0 => ?_)
    · have h := (if_neg c0).symm.trans h
      refine lv_ldc2 (v := -99) hx hb hown (hta _ kc_X12_120) dX12_isFault_186 ?_
      exact wB_189 (upd t_isBrothOn s1_171.toNatClampNeg (vp_nar .boolean s2_171)) x5_171 x6_171 x4_171 (-99 : Int64) _ _ _ h hP hD hS (lv_sub hl [2, 3] rfl)
    · have h := (if_pos c0).symm.trans h
      refine lv_lconst (v := 0) hx hb dX12_isFault_182 (by decide) ?_
      refine lv_goto (tgt := 189) hx hb dX12_isFault_183 (by decide) ?_
      exact wB_189 (upd t_isBrothOn s1_171.toNatClampNeg (vp_nar .boolean s2_171)) x5_171 x6_171 x4_171 0 _ _ _ h hP hD hS (lv_sub hl [2, 3] rfl)
  have wB_151 : ∀ (x4_151 : Int32) (x5_151 : Int32) (s0_151 : Int32) (H : Heap) (locs : List Loc) (ls : Array Slot), g_X12_isFault_b151 t_lowOn t_highOn t_isBrothOn x4_151 x5_151 s0_151 = some o → va_P (dC, dI) vwCl [(a_t_lowOn, .inl (cT 3, 6, .inr (.inl t_lowOn))), (a_t_highOn, .inl (cT 3, 6, .inr (.inl t_highOn))), (a_t_isBrothOn, .inl (cT 1, 6, .inl t_isBrothOn))] H → va_D A [(a_t_lowOn, .inl (cT 3, 6, .inr (.inl t_lowOn))), (a_t_highOn, .inl (cT 3, 6, .inr (.inl t_highOn))), (a_t_isBrothOn, .inl (cT 1, 6, .inl t_isBrothOn))] → va_S A s.heap H locs → lv_has ls 7 [(0, .ref a_t), (4, .int x4_151), (5, .int x5_151)] → W p l e ({ frames := 2, cells := 0, slots := 0, locals := 59 } : Room) s m [.ref a_t, .int p1, .int p2].toArray below meth c H locs 0 0 Q (F0 m 151 ls [.int s0_151]) := by
    intro x4_151 x5_151 s0_151 H locs ls h hP hD hS hl
    unfold g_X12_isFault_b151 at h
    refine lv_istore (lv' := [(6, .int s0_151), (0, .ref a_t), (4, .int x4_151), (5, .int x5_151)]) hx hb dX12_isFault_151 hl (by decide) rfl (fun ls hl => ?_)
    refine lv_aload_n hx hb dX12_isFault_153 rfl (lv_at hl 1 rfl) ?_
    refine va_get (D := (dC, dI)) (ci := 15) (v := .ref a_t_isBrothOn) (C := RX12) (T := TX12) (N := 39) hx hb hta inX12w hown hK (rk hR0 hNA hS) 0 rfl rfl 24 (by decide) (hta _ lk_X12_61) (fun _ h9 => h9) rfl dX12_isFault_154 ?_
    refine lv_iload hx hb dX12_isFault_157 (lv_at hl 2 rfl) ?_
    refine lv_iload hx hb dX12_isFault_159 (lv_at hl 3 rfl) ?_
    refine lv_bipush (v := 126) hx hb dX12_isFault_161 (by decide) ?_
    refine lv_icmp_ne (tgt := 170) hx hb dX12_isFault_163 (by decide) (fun c0 => ?_) (fun c0 => ?_)
    · have h := (if_neg c0).symm.trans h
      refine lv_iconst (v := 0) hx hb dX12_isFault_170 (by decide) ?_
      exact wB_171 x4_151 x5_151 s0_151 x4_151 0 _ _ _ h hP hD hS (lv_sub hl [1, 2, 3, 0] rfl)
    · have h := (if_pos c0).symm.trans h
      refine lv_iconst (v := 1) hx hb dX12_isFault_166 (by decide) ?_
      refine lv_goto (tgt := 171) hx hb dX12_isFault_167 (by decide) ?_
      exact wB_171 x4_151 x5_151 s0_151 x4_151 1 _ _ _ h hP hD hS (lv_sub hl [1, 2, 3, 0] rfl)
  have wB_143 : ∀ (x4_143 : Int32) (x5_143 : Int32) (s0_143 : Int32) (s1_143 : Int32) (H : Heap) (locs : List Loc) (ls : Array Slot), g_X12_isFault_b143 t_lowOn t_highOn t_isBrothOn x4_143 x5_143 s0_143 s1_143 = some o → va_P (dC, dI) vwCl [(a_t_lowOn, .inl (cT 3, 6, .inr (.inl t_lowOn))), (a_t_highOn, .inl (cT 3, 6, .inr (.inl t_highOn))), (a_t_isBrothOn, .inl (cT 1, 6, .inl t_isBrothOn))] H → va_D A [(a_t_lowOn, .inl (cT 3, 6, .inr (.inl t_lowOn))), (a_t_highOn, .inl (cT 3, 6, .inr (.inl t_highOn))), (a_t_isBrothOn, .inl (cT 1, 6, .inl t_isBrothOn))] → va_S A s.heap H locs → lv_has ls 7 [(0, .ref a_t), (4, .int x4_143), (5, .int x5_143)] → W p l e ({ frames := 2, cells := 0, slots := 0, locals := 59 } : Room) s m [.ref a_t, .int p1, .int p2].toArray below meth c H locs 0 0 Q (F0 m 143 ls [.int s1_143, .int s0_143]) := by
    intro x4_143 x5_143 s0_143 s1_143 H locs ls h hP hD hS hl
    unfold g_X12_isFault_b143 at h
    refine lv_icmp_ne (tgt := 150) hx hb dX12_isFault_143 (by decide) (fun c0 => ?_) (fun c0 => ?_)
    · have h := (if_neg c0).symm.trans h
      refine lv_iconst (v := 0) hx hb dX12_isFault_150 (by decide) ?_
      exact wB_151 x4_143 x5_143 0 _ _ _ h hP hD hS (lv_sub hl [0, 1, 2] rfl)
    · have h := (if_pos c0).symm.trans h
      refine lv_iconst (v := 1) hx hb dX12_isFault_146 (by decide) ?_
      refine lv_goto (tgt := 151) hx hb dX12_isFault_147 (by decide) ?_
      exact wB_151 x4_143 x5_143 1 _ _ _ h hP hD hS (lv_sub hl [0, 1, 2] rfl)
  have wB_124 : ∀ (x4_124 : Int32) (x5_124 : Int32) (H : Heap) (locs : List Loc) (ls : Array Slot), g_X12_isFault_b124 t_lowOn t_highOn t_isBrothOn x4_124 x5_124 = some o → va_P (dC, dI) vwCl [(a_t_lowOn, .inl (cT 3, 6, .inr (.inl t_lowOn))), (a_t_highOn, .inl (cT 3, 6, .inr (.inl t_highOn))), (a_t_isBrothOn, .inl (cT 1, 6, .inl t_isBrothOn))] H → va_D A [(a_t_lowOn, .inl (cT 3, 6, .inr (.inl t_lowOn))), (a_t_highOn, .inl (cT 3, 6, .inr (.inl t_highOn))), (a_t_isBrothOn, .inl (cT 1, 6, .inl t_isBrothOn))] → va_S A s.heap H locs → lv_has ls 7 [(0, .ref a_t), (4, .int x4_124), (5, .int x5_124)] → W p l e ({ frames := 2, cells := 0, slots := 0, locals := 59 } : Room) s m [.ref a_t, .int p1, .int p2].toArray below meth c H locs 0 0 Q (F0 m 124 ls []) := by
    intro x4_124 x5_124 H locs ls h hP hD hS hl
    unfold g_X12_isFault_b124 at h
    refine lv_aload_n hx hb dX12_isFault_124 rfl (lv_at hl 0 rfl) ?_
    refine va_get (D := (dC, dI)) (ci := 15) (v := .ref a_t_isBrothOn) (C := RX12) (T := TX12) (N := 39) hx hb hta inX12w hown hK (rk hR0 hNA hS) 0 rfl rfl 24 (by decide) (hta _ lk_X12_61) (fun _ h9 => h9) rfl dX12_isFault_125 ?_
    refine lv_iload hx hb dX12_isFault_128 (lv_at hl 1 rfl) ?_
    obtain ⟨hc, h⟩ := gc_some h
    refine va_zald hx hb hK hP 2 1 rfl rfl (inb_in hc) dX12_isFault_130 ?_
    refine lv_iload hx hb dX12_isFault_131 (lv_at hl 2 rfl) ?_
    refine lv_bipush (v := 126) hx hb dX12_isFault_133 (by decide) ?_
    refine lv_icmp_ne (tgt := 142) hx hb dX12_isFault_135 (by decide) (fun c0 => ?_) (fun c0 => ?_)
    · have h := (if_neg c0).symm.trans h
      refine lv_iconst (v := 0) hx hb dX12_isFault_142 (by decide) ?_
      exact wB_143 x4_124 x5_124 (t_isBrothOn x4_124.toNatClampNeg) 0 _ _ _ h hP hD hS (lv_sub hl [0, 1, 2] rfl)
    · have h := (if_pos c0).symm.trans h
      refine lv_iconst (v := 1) hx hb dX12_isFault_138 (by decide) ?_
      refine lv_goto (tgt := 143) hx hb dX12_isFault_139 (by decide) ?_
      exact wB_143 x4_124 x5_124 (t_isBrothOn x4_124.toNatClampNeg) 1 _ _ _ h hP hD hS (lv_sub hl [0, 1, 2] rfl)
  have wB_66 : ∀ (t_isBrothOn_66 : Nat → Int32) (s2_66 : Int64) (s3_66 : Int64) (H : Heap) (locs : List Loc) (ls : Array Slot), g_X12_isFault_b66 t_lowOn t_highOn p2 t_isBrothOn_66 s2_66 s3_66 = some o → va_P (dC, dI) vwCl [(a_t_lowOn, .inl (cT 3, 6, .inr (.inl t_lowOn))), (a_t_highOn, .inl (cT 3, 6, .inr (.inl t_highOn))), (a_t_isBrothOn, .inl (cT 1, 6, .inl t_isBrothOn_66))] H → va_D A [(a_t_lowOn, .inl (cT 3, 6, .inr (.inl t_lowOn))), (a_t_highOn, .inl (cT 3, 6, .inr (.inl t_highOn))), (a_t_isBrothOn, .inl (cT 1, 6, .inl t_isBrothOn_66))] → va_S A s.heap H locs → lv_has ls 7 [] → W p l e ({ frames := 2, cells := 0, slots := 0, locals := 59 } : Room) s m [.ref a_t, .int p1, .int p2].toArray below meth c H locs 0 0 Q (F0 m 66 ls [.long s3_66, .long s2_66, .int p2, .ref a_t]) := by
    intro t_isBrothOn_66 s2_66 s3_66 H locs ls h hP hD hS hl
    unfold g_X12_isFault_b66 at h
    obtain ⟨r15, hq, h⟩ := gb_some h
    refine cxV (X2 := [(a_t_lowOn, .inl (cT 3, 6, .inr (.inl r15.1))), (a_t_highOn, .inl (cT 3, 6, .inr (.inl r15.2))), (a_t_isBrothOn, .inl (cT 1, 6, .inl t_isBrothOn_66))]) (va_runV (As := [.int p2, .long s2_66, .long s3_66]) (rest := []) ⟨hx, hb, hml, hown, hta⟩ (c_X12_laysBounds l dC dI cT hq (hP.sub (ws' := [(a_t_lowOn, .inl (cT 3, 6, .inr (.inl t_lowOn))), (a_t_highOn, .inl (cT 3, 6, .inr (.inl t_highOn)))]) [0, 1] rfl) ((va_P.app hP (rk hR0 hNA hS)).sub (ws' := [(a_t, .inr (15, [.ref a_t_s, .ref a_t_f, .ref a_t_before, .ref a_t_beforeF, .ref a_t_aside, .ref a_t_asideF, .ref a_t_saved, .ref a_t_savedF, .int t_isSaved, .ref a_t_past, .ref a_t_pastF, .int t_pastMany, .int t_boiled, .int t_thrown, .ref a_t_refused, .ref a_t_text, .int t_length, .int t_error, .ref a_t_signs, .ref a_t_numbers, .int t_tokens, .int t_spoons, .int t_mostSpoons, .ref a_t_row, .ref a_t_isBrothOn, .ref a_t_dramsOn, .ref a_t_brothOn, .int t_cause, .int t_causeDetail, .ref a_t_lowOn, .ref a_t_highOn, .ref a_t_lowStored, .ref a_t_highStored, .ref a_t_isBrothStored, .int t_storeMany, .ref a_t_step, .ref a_t_stepF, .ref a_t_line, .int t_lineMany]))]) [3] rfl) ((hD.sub [0, 1] (by decide) rfl).weaken (fun _ _ _ _ => trivial)) (nac hP hD [0, 1] rfl (va_free hD hS hA [0, 1] rfl) hNA [.inl 0] rfl rfl)) (cV hta lm_X12_299 md_X12_laysBounds ⟨(Nat.le_of_ble_eq_true rfl), (Nat.le_of_ble_eq_true rfl)⟩) ⟨fbK, va_recv hK (rk hR0 hNA hS) (ci := 15) (q0 := 0) rfl rfl, fun U hU hW => ⟨rfl, hU, va_K.moved hW.alike hK⟩⟩ rfl rfl hl.1 rfl (lv_room (Nat.le_of_ble_eq_true rfl)) dX12_isFault_66 ⟨(Nat.le_of_ble_eq_true rfl), (Nat.le_of_ble_eq_true rfl)⟩) hS hA hP hD [0, 1] rfl [.inl 0, .inl 1, .inr 2] rfl rfl rfl (fun H locs hP hD hS => ?_)
    refine lv_iconst (v := 0) hx hb dX12_isFault_69 (by decide) ?_
    have ho := Option.some.inj h
    rw [hQ]
    exact W.zret (ty := .boolean) (v := 0) hx hb hr rfl (fun t ht hW => ⟨⟨0, (), rfl, by rw [← ho], by show va_P (dC, dI) vwCl _ t.heap; rw [ht, ← ho]; exact hP⟩, hS.F ht⟩) hS.2.2 dX12_isFault_70
  have wB_47 : ∀ (t_isBrothOn_47 : Nat → Int32) (x3_47 : Int32) (s2_47 : Int64) (H : Heap) (locs : List Loc) (ls : Array Slot), g_X12_isFault_b47 t_lowOn t_highOn t_s p2 t_isBrothOn_47 x3_47 s2_47 = some o → va_P (dC, dI) vwCl [(a_t_lowOn, .inl (cT 3, 6, .inr (.inl t_lowOn))), (a_t_highOn, .inl (cT 3, 6, .inr (.inl t_highOn))), (a_t_isBrothOn, .inl (cT 1, 6, .inl t_isBrothOn_47))] H → va_D A [(a_t_lowOn, .inl (cT 3, 6, .inr (.inl t_lowOn))), (a_t_highOn, .inl (cT 3, 6, .inr (.inl t_highOn))), (a_t_isBrothOn, .inl (cT 1, 6, .inl t_isBrothOn_47))] → va_S A s.heap H locs → lv_has ls 7 [(0, .ref a_t), (3, .int x3_47)] → W p l e ({ frames := 2, cells := 0, slots := 0, locals := 59 } : Room) s m [.ref a_t, .int p1, .int p2].toArray below meth c H locs 0 0 Q (F0 m 47 ls [.long s2_47, .int p2, .ref a_t]) := by
    intro t_isBrothOn_47 x3_47 s2_47 H locs ls h hP hD hS hl
    unfold g_X12_isFault_b47 at h
    refine lv_aload_n hx hb dX12_isFault_47 rfl (lv_at hl 0 rfl) ?_
    refine lv_iload_n hx hb dX12_isFault_48 rfl (lv_at hl 1 rfl) ?_
    obtain ⟨r16, hq, h⟩ := gb_some h
    refine crI (va_runV (As := [.int x3_47]) (rest := [.long s2_47, .int p2, .ref a_t]) ⟨hx, hb, hml, hown, hta⟩ (c_X12_isBroth l dC dI cT hq ((rk hR0 hNA hS).sub (ws' := [(a_t, .inr (15, [.ref a_t_s, .ref a_t_f, .ref a_t_before, .ref a_t_beforeF, .ref a_t_aside, .ref a_t_asideF, .ref a_t_saved, .ref a_t_savedF, .int t_isSaved, .ref a_t_past, .ref a_t_pastF, .int t_pastMany, .int t_boiled, .int t_thrown, .ref a_t_refused, .ref a_t_text, .int t_length, .int t_error, .ref a_t_signs, .ref a_t_numbers, .int t_tokens, .int t_spoons, .int t_mostSpoons, .ref a_t_row, .ref a_t_isBrothOn, .ref a_t_dramsOn, .ref a_t_brothOn, .int t_cause, .int t_causeDetail, .ref a_t_lowOn, .ref a_t_highOn, .ref a_t_lowStored, .ref a_t_highStored, .ref a_t_isBrothStored, .int t_storeMany, .ref a_t_step, .ref a_t_stepF, .ref a_t_line, .int t_lineMany])), (a_t_s, .inl (cT 0, 282, .inl t_s))]) [0, 3] rfl)) (cV hta lm_X12_160 md_X12_isBroth ⟨(Nat.le_of_ble_eq_true rfl), (Nat.le_of_ble_eq_true rfl)⟩) ⟨fbK, va_recv hK (rk hR0 hNA hS) (ci := 15) (q0 := 0) rfl rfl, fun U hU hW => ⟨rfl, hU, va_K.moved hW.alike hK⟩⟩ rfl rfl hl.1 rfl (lv_room (Nat.le_of_ble_eq_true rfl)) dX12_isFault_49 ⟨(Nat.le_of_ble_eq_true rfl), (Nat.le_of_ble_eq_true rfl)⟩) hS hA (fun locs hS => ?_)
    refine lv_if_eq (tgt := 59) hx hb dX12_isFault_52 (by decide) (fun c0 => ?_) (fun c0 => ?_)
    · have h := (if_pos c0).symm.trans h
      refine lv_aload_n hx hb dX12_isFault_59 rfl (lv_at hl 0 rfl) ?_
      refine lv_iload_n hx hb dX12_isFault_60 rfl (lv_at hl 1 rfl) ?_
      refine lv_iconst (v := 2) hx hb dX12_isFault_61 (by decide) ?_
      obtain ⟨r17, hq, h⟩ := gb_some h
      refine crI (va_runV (As := [.int x3_47, .int 2]) (rest := [.long s2_47, .int p2, .ref a_t]) ⟨hx, hb, hml, hown, hta⟩ (c_X12_of l dC dI cT hq ((rk hR0 hNA hS).sub (ws' := [(a_t, .inr (15, [.ref a_t_s, .ref a_t_f, .ref a_t_before, .ref a_t_beforeF, .ref a_t_aside, .ref a_t_asideF, .ref a_t_saved, .ref a_t_savedF, .int t_isSaved, .ref a_t_past, .ref a_t_pastF, .int t_pastMany, .int t_boiled, .int t_thrown, .ref a_t_refused, .ref a_t_text, .int t_length, .int t_error, .ref a_t_signs, .ref a_t_numbers, .int t_tokens, .int t_spoons, .int t_mostSpoons, .ref a_t_row, .ref a_t_isBrothOn, .ref a_t_dramsOn, .ref a_t_brothOn, .int t_cause, .int t_causeDetail, .ref a_t_lowOn, .ref a_t_highOn, .ref a_t_lowStored, .ref a_t_highStored, .ref a_t_isBrothStored, .int t_storeMany, .ref a_t_step, .ref a_t_stepF, .ref a_t_line, .int t_lineMany])), (a_t_s, .inl (cT 0, 282, .inl t_s))]) [0, 3] rfl)) (cV hta lm_X12_116 md_X12_of ⟨(Nat.le_of_ble_eq_true rfl), (Nat.le_of_ble_eq_true rfl)⟩) ⟨fbK, va_recv hK (rk hR0 hNA hS) (ci := 15) (q0 := 0) rfl rfl, fun U hU hW => ⟨rfl, hU, va_K.moved hW.alike hK⟩⟩ rfl rfl hl.1 rfl (lv_room (Nat.le_of_ble_eq_true rfl)) dX12_isFault_62 ⟨(Nat.le_of_ble_eq_true rfl), (Nat.le_of_ble_eq_true rfl)⟩) hS hA (fun locs hS => ?_)
      refine lv_i2l hx hb dX12_isFault_65 rfl ?_
      exact wB_66 t_isBrothOn_47 s2_47 r17.toInt64 _ _ _ h hP hD hS (lv_sub hl [] rfl)
    · have h := (if_neg c0).symm.trans h
      refine lv_lconst (v := 0) hx hb dX12_isFault_55 (by decide) ?_
      refine lv_goto (tgt := 66) hx hb dX12_isFault_56 (by decide) ?_
      exact wB_66 t_isBrothOn_47 s2_47 0 _ _ _ h hP hD hS (lv_sub hl [] rfl)
  unfold g_X12_isFault at h
  refine lv_aload_n hx hb dX12_isFault_0 rfl (lv_at hl 0 rfl) ?_
  refine va_get (D := (dC, dI)) (ci := 15) (v := .ref a_t_numbers) (C := RX12) (T := TX12) (N := 39) hx hb hta inX12w hown hK (rk hR0 hNA hS) 0 rfl rfl 19 (by decide) (hta _ lk_X12_55) (fun _ h9 => h9) rfl dX12_isFault_1 ?_
  refine lv_iload_n hx hb dX12_isFault_4 rfl (lv_at hl 1 rfl) ?_
  obtain ⟨hc, h⟩ := gc_some h
  refine va_iald hx hb hK (rk hR0 hNA hS) 1 0 rfl rfl (inb_in hc) dX12_isFault_5 ?_
  refine lv_topi (fun v1 e_v1 => ?_)
  have h := gl_use e_v1 h
  refine lv_istore_n (lv' := [(3, .int v1), (0, .ref a_t), (1, .int p1), (2, .int p2)]) hx hb dX12_isFault_6 rfl hl (by decide) rfl (fun ls hl => ?_)
  refine lv_aload_n hx hb dX12_isFault_7 rfl (lv_at hl 1 rfl) ?_
  refine lv_iload_n hx hb dX12_isFault_8 rfl (lv_at hl 2 rfl) ?_
  obtain ⟨r2, hq, h⟩ := gb_some h
  refine crI (va_runV (As := [.int p1]) (rest := []) ⟨hx, hb, hml, hown, hta⟩ (c_X12_isLetter l dC dI cT hq ((rk hR0 hNA hS).sub (ws' := [(a_t, .inr (15, [.ref a_t_s, .ref a_t_f, .ref a_t_before, .ref a_t_beforeF, .ref a_t_aside, .ref a_t_asideF, .ref a_t_saved, .ref a_t_savedF, .int t_isSaved, .ref a_t_past, .ref a_t_pastF, .int t_pastMany, .int t_boiled, .int t_thrown, .ref a_t_refused, .ref a_t_text, .int t_length, .int t_error, .ref a_t_signs, .ref a_t_numbers, .int t_tokens, .int t_spoons, .int t_mostSpoons, .ref a_t_row, .ref a_t_isBrothOn, .ref a_t_dramsOn, .ref a_t_brothOn, .int t_cause, .int t_causeDetail, .ref a_t_lowOn, .ref a_t_highOn, .ref a_t_lowStored, .ref a_t_highStored, .ref a_t_isBrothStored, .int t_storeMany, .ref a_t_step, .ref a_t_stepF, .ref a_t_line, .int t_lineMany])), (a_t_signs, .inl (cT 2, 60, .inl t_signs))]) [0, 2] rfl)) (cV hta lm_X12_223 md_X12_isLetter ⟨(Nat.le_of_ble_eq_true rfl), (Nat.le_of_ble_eq_true rfl)⟩) ⟨fbK, va_recv hK (rk hR0 hNA hS) (ci := 15) (q0 := 0) rfl rfl, fun U hU hW => ⟨rfl, hU, va_K.moved hW.alike hK⟩⟩ rfl rfl hl.1 rfl (lv_room (Nat.le_of_ble_eq_true rfl)) dX12_isFault_9 ⟨(Nat.le_of_ble_eq_true rfl), (Nat.le_of_ble_eq_true rfl)⟩) hS hA (fun locs hS => ?_)
  refine lv_if_eq (tgt := 71) hx hb dX12_isFault_12 (by decide) (fun c0 => ?_) (fun c0 => ?_)
  · have h := (if_pos c0).symm.trans h
    refine lv_aload_n hx hb dX12_isFault_71 rfl (lv_at hl 1 rfl) ?_
    refine lv_iload_n hx hb dX12_isFault_72 rfl (lv_at hl 2 rfl) ?_
    obtain ⟨r3, hq, h⟩ := gb_some h
    refine crI (va_runV (As := [.int p1]) (rest := []) ⟨hx, hb, hml, hown, hta⟩ (c_X12_isNumber l dC dI cT hq ((rk hR0 hNA hS).sub (ws' := [(a_t, .inr (15, [.ref a_t_s, .ref a_t_f, .ref a_t_before, .ref a_t_beforeF, .ref a_t_aside, .ref a_t_asideF, .ref a_t_saved, .ref a_t_savedF, .int t_isSaved, .ref a_t_past, .ref a_t_pastF, .int t_pastMany, .int t_boiled, .int t_thrown, .ref a_t_refused, .ref a_t_text, .int t_length, .int t_error, .ref a_t_signs, .ref a_t_numbers, .int t_tokens, .int t_spoons, .int t_mostSpoons, .ref a_t_row, .ref a_t_isBrothOn, .ref a_t_dramsOn, .ref a_t_brothOn, .int t_cause, .int t_causeDetail, .ref a_t_lowOn, .ref a_t_highOn, .ref a_t_lowStored, .ref a_t_highStored, .ref a_t_isBrothStored, .int t_storeMany, .ref a_t_step, .ref a_t_stepF, .ref a_t_line, .int t_lineMany])), (a_t_signs, .inl (cT 2, 60, .inl t_signs))]) [0, 2] rfl)) (cV hta lm_X12_257 md_X12_isNumber ⟨(Nat.le_of_ble_eq_true rfl), (Nat.le_of_ble_eq_true rfl)⟩) ⟨fbK, va_recv hK (rk hR0 hNA hS) (ci := 15) (q0 := 0) rfl rfl, fun U hU hW => ⟨rfl, hU, va_K.moved hW.alike hK⟩⟩ rfl rfl hl.1 rfl (lv_room (Nat.le_of_ble_eq_true rfl)) dX12_isFault_73 ⟨(Nat.le_of_ble_eq_true rfl), (Nat.le_of_ble_eq_true rfl)⟩) hS hA (fun locs hS => ?_)
    refine lv_if_eq (tgt := 97) hx hb dX12_isFault_76 (by decide) (fun c0 => ?_) (fun c0 => ?_)
    · have h := (if_pos c0).symm.trans h
      refine lv_iload_n hx hb dX12_isFault_97 rfl (lv_at hl 3 rfl) ?_
      refine lv_iconst (v := 1) hx hb dX12_isFault_98 (by decide) ?_
      refine lv_isub hx hb dX12_isFault_99 ?_
      refine lv_topi (fun v4 e_v4 => ?_)
      have h := gl_use e_v4 h
      refine lv_istore (lv' := [(4, .int v4), (3, .int v1), (0, .ref a_t), (1, .int p1), (2, .int p2)]) hx hb dX12_isFault_100 hl (by decide) rfl (fun ls hl => ?_)
      refine lv_aload_n hx hb dX12_isFault_102 rfl (lv_at hl 2 rfl) ?_
      refine va_get (D := (dC, dI)) (ci := 15) (v := .ref a_t_signs) (C := RX12) (T := TX12) (N := 39) hx hb hta inX12w hown hK (rk hR0 hNA hS) 0 rfl rfl 18 (by decide) (hta _ lk_X12_52) (fun _ h9 => h9) rfl dX12_isFault_103 ?_
      refine lv_iload_n hx hb dX12_isFault_106 rfl (lv_at hl 3 rfl) ?_
      obtain ⟨hc, h⟩ := gc_some h
      refine va_cald hx hb hK (rk hR0 hNA hS) 2 2 rfl rfl (inb_in hc) dX12_isFault_107 ?_
      refine lv_topi (fun v5 e_v5 => ?_)
      have h := gl_use e_v5 h
      refine lv_istore (lv' := [(5, .int v5), (4, .int v4), (3, .int v1), (0, .ref a_t), (1, .int p1), (2, .int p2)]) hx hb dX12_isFault_108 hl (by decide) rfl (fun ls hl => ?_)
      refine lv_iload hx hb dX12_isFault_110 (lv_at hl 0 rfl) ?_
      refine lv_bipush (v := 126) hx hb dX12_isFault_112 (by decide) ?_
      refine lv_icmp_eq (tgt := 124) hx hb dX12_isFault_114 (by decide) (fun c0 => ?_) (fun c0 => ?_)
      · have h := (if_pos c0).symm.trans h
        exact wB_124 v4 v5 _ _ _ h hP hD hS (lv_sub hl [3, 1, 0] rfl)
      · have h := (if_neg c0).symm.trans h
        refine lv_iload hx hb dX12_isFault_117 (lv_at hl 0 rfl) ?_
        refine lv_bipush (v := 33) hx hb dX12_isFault_119 (by decide) ?_
        refine lv_icmp_ne (tgt := 209) hx hb dX12_isFault_121 (by decide) (fun c0 => ?_) (fun c0 => ?_)
        · have h := (if_neg c0).symm.trans h
          refine lv_iload hx hb dX12_isFault_209 (lv_at hl 0 rfl) ?_
          refine lv_bipush (v := 61) hx hb dX12_isFault_211 (by decide) ?_
          refine lv_icmp_ne (tgt := 289) hx hb dX12_isFault_213 (by decide) (fun c0 => ?_) (fun c0 => ?_)
          · have h := (if_neg c0).symm.trans h
            refine lv_aload_n hx hb dX12_isFault_289 rfl (lv_at hl 3 rfl) ?_
            refine lv_iload hx hb dX12_isFault_290 (lv_at hl 0 rfl) ?_
            refine lv_iload hx hb dX12_isFault_292 (lv_at hl 1 rfl) ?_
            obtain ⟨r6, hq, h⟩ := gb_some h
            refine cxI (X2 := [(a_t_lowOn, .inl (cT 3, 6, .inr (.inl r6.2.1))), (a_t_highOn, .inl (cT 3, 6, .inr (.inl r6.2.2))), (a_t_isBrothOn, .inl (cT 1, 6, .inl t_isBrothOn))]) (va_runV (As := [.int v5, .int v4]) (rest := []) ⟨hx, hb, hml, hown, hta⟩ (c_X12_typesReckoning l dC dI cT hq (hP.sub (ws' := [(a_t_lowOn, .inl (cT 3, 6, .inr (.inl t_lowOn))), (a_t_highOn, .inl (cT 3, 6, .inr (.inl t_highOn)))]) [0, 1] rfl) ((va_P.app hP (rk hR0 hNA hS)).sub (ws' := [(a_t, .inr (15, [.ref a_t_s, .ref a_t_f, .ref a_t_before, .ref a_t_beforeF, .ref a_t_aside, .ref a_t_asideF, .ref a_t_saved, .ref a_t_savedF, .int t_isSaved, .ref a_t_past, .ref a_t_pastF, .int t_pastMany, .int t_boiled, .int t_thrown, .ref a_t_refused, .ref a_t_text, .int t_length, .int t_error, .ref a_t_signs, .ref a_t_numbers, .int t_tokens, .int t_spoons, .int t_mostSpoons, .ref a_t_row, .ref a_t_isBrothOn, .ref a_t_dramsOn, .ref a_t_brothOn, .int t_cause, .int t_causeDetail, .ref a_t_lowOn, .ref a_t_highOn, .ref a_t_lowStored, .ref a_t_highStored, .ref a_t_isBrothStored, .int t_storeMany, .ref a_t_step, .ref a_t_stepF, .ref a_t_line, .int t_lineMany])), (a_t_isBrothOn, .inl (cT 1, 6, .inl t_isBrothOn))]) [3, 2] rfl) ((hD.sub [0, 1] (by decide) rfl).weaken (fun _ _ _ _ => trivial)) (nac hP hD [0, 1] rfl (va_free hD hS hA [0, 1] rfl) hNA [.inl 0, .inr 2] rfl rfl)) (cV hta lm_X12_310 md_X12_typesReckoning ⟨(Nat.le_of_ble_eq_true rfl), (Nat.le_of_ble_eq_true rfl)⟩) ⟨fbK, va_recv hK (rk hR0 hNA hS) (ci := 15) (q0 := 0) rfl rfl, fun U hU hW => ⟨rfl, hU, va_K.moved hW.alike hK⟩⟩ rfl rfl hl.1 rfl (lv_room (Nat.le_of_ble_eq_true rfl)) dX12_isFault_294 ⟨(Nat.le_of_ble_eq_true rfl), (Nat.le_of_ble_eq_true rfl)⟩) hS hA hP hD [0, 1] rfl [.inl 0, .inl 1, .inr 2] rfl rfl rfl (fun H locs hP hD hS => ?_)
            obtain ⟨hc, h⟩ := gc_some h
            have ho := Option.some.inj h
            rw [hQ]
            exact W.zret (ty := .boolean) (v := r6.1) hx hb hr (bo_n hc) (fun t ht hW => ⟨⟨r6.1, (), rfl, by rw [← ho], by show va_P (dC, dI) vwCl _ t.heap; rw [ht, ← ho]; exact hP⟩, hS.F ht⟩) hS.2.2 dX12_isFault_297
          · have h := (if_pos c0).symm.trans h
            refine lv_aload_n hx hb dX12_isFault_216 rfl (lv_at hl 3 rfl) ?_
            refine lv_iload_n hx hb dX12_isFault_217 rfl (lv_at hl 2 rfl) ?_
            refine lv_aload_n hx hb dX12_isFault_218 rfl (lv_at hl 3 rfl) ?_
            refine va_get (D := (dC, dI)) (ci := 15) (v := .ref a_t_lowOn) (C := RX12) (T := TX12) (N := 39) hx hb hta inX12w hown hK (rk hR0 hNA hS) 0 rfl rfl 29 (by decide) (hta _ lk_X12_72) (fun _ h9 => h9) rfl dX12_isFault_219 ?_
            refine lv_iload hx hb dX12_isFault_222 (lv_at hl 1 rfl) ?_
            obtain ⟨hc, h⟩ := gc_some h
            refine va_lald hx hb hK hP 0 3 rfl rfl (inb_in hc) dX12_isFault_224 ?_
            obtain ⟨r7, hq, h⟩ := gb_some h
            refine crI (va_runV (As := [.int v1, .long (t_lowOn v4.toNatClampNeg)]) (rest := []) ⟨hx, hb, hml, hown, hta⟩ (c_X12_holds l dC dI cT hq ((rk hR0 hNA hS).sub (ws' := [(a_t, .inr (15, [.ref a_t_s, .ref a_t_f, .ref a_t_before, .ref a_t_beforeF, .ref a_t_aside, .ref a_t_asideF, .ref a_t_saved, .ref a_t_savedF, .int t_isSaved, .ref a_t_past, .ref a_t_pastF, .int t_pastMany, .int t_boiled, .int t_thrown, .ref a_t_refused, .ref a_t_text, .int t_length, .int t_error, .ref a_t_signs, .ref a_t_numbers, .int t_tokens, .int t_spoons, .int t_mostSpoons, .ref a_t_row, .ref a_t_isBrothOn, .ref a_t_dramsOn, .ref a_t_brothOn, .int t_cause, .int t_causeDetail, .ref a_t_lowOn, .ref a_t_highOn, .ref a_t_lowStored, .ref a_t_highStored, .ref a_t_isBrothStored, .int t_storeMany, .ref a_t_step, .ref a_t_stepF, .ref a_t_line, .int t_lineMany])), (a_t_s, .inl (cT 0, 282, .inl t_s))]) [0, 3] rfl)) (cV hta lm_X12_163 md_X12_holds ⟨(Nat.le_of_ble_eq_true rfl), (Nat.le_of_ble_eq_true rfl)⟩) ⟨fbK, va_recv hK (rk hR0 hNA hS) (ci := 15) (q0 := 0) rfl rfl, fun U hU hW => ⟨rfl, hU, va_K.moved hW.alike hK⟩⟩ rfl rfl hl.1 rfl (lv_room (Nat.le_of_ble_eq_true rfl)) dX12_isFault_225 ⟨(Nat.le_of_ble_eq_true rfl), (Nat.le_of_ble_eq_true rfl)⟩) hS hA (fun locs hS => ?_)
            refine lv_if_eq (tgt := 250) hx hb dX12_isFault_228 (by decide) (fun c0 => ?_) (fun c0 => ?_)
            · have h := (if_pos c0).symm.trans h
              exact wB_250 v1 v4 _ _ _ h hP hD hS (lv_sub hl [3, 2, 1] rfl)
            · have h := (if_neg c0).symm.trans h
              refine lv_aload_n hx hb dX12_isFault_231 rfl (lv_at hl 3 rfl) ?_
              refine lv_iload_n hx hb dX12_isFault_232 rfl (lv_at hl 2 rfl) ?_
              refine lv_aload_n hx hb dX12_isFault_233 rfl (lv_at hl 3 rfl) ?_
              refine va_get (D := (dC, dI)) (ci := 15) (v := .ref a_t_highOn) (C := RX12) (T := TX12) (N := 39) hx hb hta inX12w hown hK (rk hR0 hNA hS) 0 rfl rfl 30 (by decide) (hta _ lk_X12_75) (fun _ h9 => h9) rfl dX12_isFault_234 ?_
              refine lv_iload hx hb dX12_isFault_237 (lv_at hl 1 rfl) ?_
              obtain ⟨hc, h⟩ := gc_some h
              refine va_lald hx hb hK hP 1 3 rfl rfl (inb_in hc) dX12_isFault_239 ?_
              obtain ⟨r8, hq, h⟩ := gb_some h
              refine crI (va_runV (As := [.int v1, .long (t_highOn v4.toNatClampNeg)]) (rest := []) ⟨hx, hb, hml, hown, hta⟩ (c_X12_holds l dC dI cT hq ((rk hR0 hNA hS).sub (ws' := [(a_t, .inr (15, [.ref a_t_s, .ref a_t_f, .ref a_t_before, .ref a_t_beforeF, .ref a_t_aside, .ref a_t_asideF, .ref a_t_saved, .ref a_t_savedF, .int t_isSaved, .ref a_t_past, .ref a_t_pastF, .int t_pastMany, .int t_boiled, .int t_thrown, .ref a_t_refused, .ref a_t_text, .int t_length, .int t_error, .ref a_t_signs, .ref a_t_numbers, .int t_tokens, .int t_spoons, .int t_mostSpoons, .ref a_t_row, .ref a_t_isBrothOn, .ref a_t_dramsOn, .ref a_t_brothOn, .int t_cause, .int t_causeDetail, .ref a_t_lowOn, .ref a_t_highOn, .ref a_t_lowStored, .ref a_t_highStored, .ref a_t_isBrothStored, .int t_storeMany, .ref a_t_step, .ref a_t_stepF, .ref a_t_line, .int t_lineMany])), (a_t_s, .inl (cT 0, 282, .inl t_s))]) [0, 3] rfl)) (cV hta lm_X12_163 md_X12_holds ⟨(Nat.le_of_ble_eq_true rfl), (Nat.le_of_ble_eq_true rfl)⟩) ⟨fbK, va_recv hK (rk hR0 hNA hS) (ci := 15) (q0 := 0) rfl rfl, fun U hU hW => ⟨rfl, hU, va_K.moved hW.alike hK⟩⟩ rfl rfl hl.1 rfl (lv_room (Nat.le_of_ble_eq_true rfl)) dX12_isFault_240 ⟨(Nat.le_of_ble_eq_true rfl), (Nat.le_of_ble_eq_true rfl)⟩) hS hA (fun locs hS => ?_)
              refine lv_if_eq (tgt := 250) hx hb dX12_isFault_243 (by decide) (fun c0 => ?_) (fun c0 => ?_)
              · have h := (if_pos c0).symm.trans h
                exact wB_250 v1 v4 _ _ _ h hP hD hS (lv_sub hl [3, 2, 1] rfl)
              · have h := (if_neg c0).symm.trans h
                refine lv_iconst (v := 1) hx hb dX12_isFault_246 (by decide) ?_
                refine lv_goto (tgt := 251) hx hb dX12_isFault_247 (by decide) ?_
                exact wB_251 v1 v4 1 _ _ _ h hP hD hS (lv_sub hl [3, 2, 1] rfl)
        · have h := (if_pos c0).symm.trans h
          exact wB_124 v4 v5 _ _ _ h hP hD hS (lv_sub hl [3, 1, 0] rfl)
    · have h := (if_neg c0).symm.trans h
      refine lv_aload_n hx hb dX12_isFault_79 rfl (lv_at hl 1 rfl) ?_
      refine va_get (D := (dC, dI)) (ci := 15) (v := .ref a_t_isBrothOn) (C := RX12) (T := TX12) (N := 39) hx hb hta inX12w hown hK (rk hR0 hNA hS) 0 rfl rfl 24 (by decide) (hta _ lk_X12_61) (fun _ h9 => h9) rfl dX12_isFault_80 ?_
      refine lv_iload_n hx hb dX12_isFault_83 rfl (lv_at hl 3 rfl) ?_
      refine lv_iconst (v := 0) hx hb dX12_isFault_84 (by decide) ?_
      obtain ⟨hc, h⟩ := gc_some h
      refine va_zast hx hb hK hP hD hS 2 1 rfl rfl (inb_in hc) dX12_isFault_85 (fun H locs hP hD hS => ?_)
      have hP : va_P (dC, dI) vwCl [(a_t_lowOn, .inl (cT 3, 6, .inr (.inl t_lowOn))), (a_t_highOn, .inl (cT 3, 6, .inr (.inl t_highOn))), (a_t_isBrothOn, .inl (cT 1, 6, .inl (upd t_isBrothOn p2.toNatClampNeg (vp_nar .boolean 0))))] H := hP
      have hD : va_D A [(a_t_lowOn, .inl (cT 3, 6, .inr (.inl t_lowOn))), (a_t_highOn, .inl (cT 3, 6, .inr (.inl t_highOn))), (a_t_isBrothOn, .inl (cT 1, 6, .inl (upd t_isBrothOn p2.toNatClampNeg (vp_nar .boolean 0))))] := hD
      refine lv_aload_n hx hb dX12_isFault_86 rfl (lv_at hl 1 rfl) ?_
      refine lv_iload_n hx hb dX12_isFault_87 rfl (lv_at hl 3 rfl) ?_
      refine lv_iload_n hx hb dX12_isFault_88 rfl (lv_at hl 0 rfl) ?_
      refine lv_i2l hx hb dX12_isFault_89 rfl ?_
      refine lv_iload_n hx hb dX12_isFault_90 rfl (lv_at hl 0 rfl) ?_
      refine lv_i2l hx hb dX12_isFault_91 rfl ?_
      obtain ⟨r9, hq, h⟩ := gb_some h
      refine cxV (X2 := [(a_t_lowOn, .inl (cT 3, 6, .inr (.inl r9.1))), (a_t_highOn, .inl (cT 3, 6, .inr (.inl r9.2))), (a_t_isBrothOn, .inl (cT 1, 6, .inl (upd t_isBrothOn p2.toNatClampNeg (vp_nar .boolean 0))))]) (va_runV (As := [.int p2, .long v1.toInt64, .long v1.toInt64]) (rest := []) ⟨hx, hb, hml, hown, hta⟩ (c_X12_laysBounds l dC dI cT hq (hP.sub (ws' := [(a_t_lowOn, .inl (cT 3, 6, .inr (.inl t_lowOn))), (a_t_highOn, .inl (cT 3, 6, .inr (.inl t_highOn)))]) [0, 1] rfl) ((va_P.app hP (rk hR0 hNA hS)).sub (ws' := [(a_t, .inr (15, [.ref a_t_s, .ref a_t_f, .ref a_t_before, .ref a_t_beforeF, .ref a_t_aside, .ref a_t_asideF, .ref a_t_saved, .ref a_t_savedF, .int t_isSaved, .ref a_t_past, .ref a_t_pastF, .int t_pastMany, .int t_boiled, .int t_thrown, .ref a_t_refused, .ref a_t_text, .int t_length, .int t_error, .ref a_t_signs, .ref a_t_numbers, .int t_tokens, .int t_spoons, .int t_mostSpoons, .ref a_t_row, .ref a_t_isBrothOn, .ref a_t_dramsOn, .ref a_t_brothOn, .int t_cause, .int t_causeDetail, .ref a_t_lowOn, .ref a_t_highOn, .ref a_t_lowStored, .ref a_t_highStored, .ref a_t_isBrothStored, .int t_storeMany, .ref a_t_step, .ref a_t_stepF, .ref a_t_line, .int t_lineMany]))]) [3] rfl) ((hD.sub [0, 1] (by decide) rfl).weaken (fun _ _ _ _ => trivial)) (nac hP hD [0, 1] rfl (va_free hD hS hA [0, 1] rfl) hNA [.inl 0] rfl rfl)) (cV hta lm_X12_299 md_X12_laysBounds ⟨(Nat.le_of_ble_eq_true rfl), (Nat.le_of_ble_eq_true rfl)⟩) ⟨fbK, va_recv hK (rk hR0 hNA hS) (ci := 15) (q0 := 0) rfl rfl, fun U hU hW => ⟨rfl, hU, va_K.moved hW.alike hK⟩⟩ rfl rfl hl.1 rfl (lv_room (Nat.le_of_ble_eq_true rfl)) dX12_isFault_92 ⟨(Nat.le_of_ble_eq_true rfl), (Nat.le_of_ble_eq_true rfl)⟩) hS hA hP hD [0, 1] rfl [.inl 0, .inl 1, .inr 2] rfl rfl rfl (fun H locs hP hD hS => ?_)
      refine lv_iconst (v := 0) hx hb dX12_isFault_95 (by decide) ?_
      have ho := Option.some.inj h
      rw [hQ]
      exact W.zret (ty := .boolean) (v := 0) hx hb hr rfl (fun t ht hW => ⟨⟨0, (), rfl, by rw [← ho], by show va_P (dC, dI) vwCl _ t.heap; rw [ht, ← ho]; exact hP⟩, hS.F ht⟩) hS.2.2 dX12_isFault_96
  · have h := (if_neg c0).symm.trans h
    refine lv_aload_n hx hb dX12_isFault_15 rfl (lv_at hl 1 rfl) ?_
    refine va_get (D := (dC, dI)) (ci := 15) (v := .ref a_t_isBrothOn) (C := RX12) (T := TX12) (N := 39) hx hb hta inX12w hown hK (rk hR0 hNA hS) 0 rfl rfl 24 (by decide) (hta _ lk_X12_61) (fun _ h9 => h9) rfl dX12_isFault_16 ?_
    refine lv_iload_n hx hb dX12_isFault_19 rfl (lv_at hl 3 rfl) ?_
    refine lv_aload_n hx hb dX12_isFault_20 rfl (lv_at hl 1 rfl) ?_
    refine lv_iload_n hx hb dX12_isFault_21 rfl (lv_at hl 0 rfl) ?_
    obtain ⟨r10, hq, h⟩ := gb_some h
    refine crI (va_runV (As := [.int v1]) (rest := [.int p2, .ref a_t_isBrothOn]) ⟨hx, hb, hml, hown, hta⟩ (c_X12_isBroth l dC dI cT hq ((rk hR0 hNA hS).sub (ws' := [(a_t, .inr (15, [.ref a_t_s, .ref a_t_f, .ref a_t_before, .ref a_t_beforeF, .ref a_t_aside, .ref a_t_asideF, .ref a_t_saved, .ref a_t_savedF, .int t_isSaved, .ref a_t_past, .ref a_t_pastF, .int t_pastMany, .int t_boiled, .int t_thrown, .ref a_t_refused, .ref a_t_text, .int t_length, .int t_error, .ref a_t_signs, .ref a_t_numbers, .int t_tokens, .int t_spoons, .int t_mostSpoons, .ref a_t_row, .ref a_t_isBrothOn, .ref a_t_dramsOn, .ref a_t_brothOn, .int t_cause, .int t_causeDetail, .ref a_t_lowOn, .ref a_t_highOn, .ref a_t_lowStored, .ref a_t_highStored, .ref a_t_isBrothStored, .int t_storeMany, .ref a_t_step, .ref a_t_stepF, .ref a_t_line, .int t_lineMany])), (a_t_s, .inl (cT 0, 282, .inl t_s))]) [0, 3] rfl)) (cV hta lm_X12_160 md_X12_isBroth ⟨(Nat.le_of_ble_eq_true rfl), (Nat.le_of_ble_eq_true rfl)⟩) ⟨fbK, va_recv hK (rk hR0 hNA hS) (ci := 15) (q0 := 0) rfl rfl, fun U hU hW => ⟨rfl, hU, va_K.moved hW.alike hK⟩⟩ rfl rfl hl.1 rfl (lv_room (Nat.le_of_ble_eq_true rfl)) dX12_isFault_22 ⟨(Nat.le_of_ble_eq_true rfl), (Nat.le_of_ble_eq_true rfl)⟩) hS hA (fun locs hS => ?_)
    obtain ⟨hc, h⟩ := gc_some h
    refine va_zast hx hb hK hP hD hS 2 1 rfl rfl (inb_in hc) dX12_isFault_25 (fun H locs hP hD hS => ?_)
    have hP : va_P (dC, dI) vwCl [(a_t_lowOn, .inl (cT 3, 6, .inr (.inl t_lowOn))), (a_t_highOn, .inl (cT 3, 6, .inr (.inl t_highOn))), (a_t_isBrothOn, .inl (cT 1, 6, .inl (upd t_isBrothOn p2.toNatClampNeg (vp_nar .boolean r10))))] H := hP
    have hD : va_D A [(a_t_lowOn, .inl (cT 3, 6, .inr (.inl t_lowOn))), (a_t_highOn, .inl (cT 3, 6, .inr (.inl t_highOn))), (a_t_isBrothOn, .inl (cT 1, 6, .inl (upd t_isBrothOn p2.toNatClampNeg (vp_nar .boolean r10))))] := hD
    refine lv_aload_n hx hb dX12_isFault_26 rfl (lv_at hl 1 rfl) ?_
    refine lv_iload_n hx hb dX12_isFault_27 rfl (lv_at hl 3 rfl) ?_
    refine lv_aload_n hx hb dX12_isFault_28 rfl (lv_at hl 1 rfl) ?_
    refine lv_iload_n hx hb dX12_isFault_29 rfl (lv_at hl 0 rfl) ?_
    obtain ⟨r11, hq, h⟩ := gb_some h
    refine crI (va_runV (As := [.int v1]) (rest := [.int p2, .ref a_t]) ⟨hx, hb, hml, hown, hta⟩ (c_X12_isBroth l dC dI cT hq ((rk hR0 hNA hS).sub (ws' := [(a_t, .inr (15, [.ref a_t_s, .ref a_t_f, .ref a_t_before, .ref a_t_beforeF, .ref a_t_aside, .ref a_t_asideF, .ref a_t_saved, .ref a_t_savedF, .int t_isSaved, .ref a_t_past, .ref a_t_pastF, .int t_pastMany, .int t_boiled, .int t_thrown, .ref a_t_refused, .ref a_t_text, .int t_length, .int t_error, .ref a_t_signs, .ref a_t_numbers, .int t_tokens, .int t_spoons, .int t_mostSpoons, .ref a_t_row, .ref a_t_isBrothOn, .ref a_t_dramsOn, .ref a_t_brothOn, .int t_cause, .int t_causeDetail, .ref a_t_lowOn, .ref a_t_highOn, .ref a_t_lowStored, .ref a_t_highStored, .ref a_t_isBrothStored, .int t_storeMany, .ref a_t_step, .ref a_t_stepF, .ref a_t_line, .int t_lineMany])), (a_t_s, .inl (cT 0, 282, .inl t_s))]) [0, 3] rfl)) (cV hta lm_X12_160 md_X12_isBroth ⟨(Nat.le_of_ble_eq_true rfl), (Nat.le_of_ble_eq_true rfl)⟩) ⟨fbK, va_recv hK (rk hR0 hNA hS) (ci := 15) (q0 := 0) rfl rfl, fun U hU hW => ⟨rfl, hU, va_K.moved hW.alike hK⟩⟩ rfl rfl hl.1 rfl (lv_room (Nat.le_of_ble_eq_true rfl)) dX12_isFault_30 ⟨(Nat.le_of_ble_eq_true rfl), (Nat.le_of_ble_eq_true rfl)⟩) hS hA (fun locs hS => ?_)
    refine lv_if_eq (tgt := 40) hx hb dX12_isFault_33 (by decide) (fun c0 => ?_) (fun c0 => ?_)
    · have h := (if_pos c0).symm.trans h
      refine lv_aload_n hx hb dX12_isFault_40 rfl (lv_at hl 1 rfl) ?_
      refine lv_iload_n hx hb dX12_isFault_41 rfl (lv_at hl 0 rfl) ?_
      refine lv_iconst (v := 1) hx hb dX12_isFault_42 (by decide) ?_
      obtain ⟨r12, hq, h⟩ := gb_some h
      refine crI (va_runV (As := [.int v1, .int 1]) (rest := [.int p2, .ref a_t]) ⟨hx, hb, hml, hown, hta⟩ (c_X12_of l dC dI cT hq ((rk hR0 hNA hS).sub (ws' := [(a_t, .inr (15, [.ref a_t_s, .ref a_t_f, .ref a_t_before, .ref a_t_beforeF, .ref a_t_aside, .ref a_t_asideF, .ref a_t_saved, .ref a_t_savedF, .int t_isSaved, .ref a_t_past, .ref a_t_pastF, .int t_pastMany, .int t_boiled, .int t_thrown, .ref a_t_refused, .ref a_t_text, .int t_length, .int t_error, .ref a_t_signs, .ref a_t_numbers, .int t_tokens, .int t_spoons, .int t_mostSpoons, .ref a_t_row, .ref a_t_isBrothOn, .ref a_t_dramsOn, .ref a_t_brothOn, .int t_cause, .int t_causeDetail, .ref a_t_lowOn, .ref a_t_highOn, .ref a_t_lowStored, .ref a_t_highStored, .ref a_t_isBrothStored, .int t_storeMany, .ref a_t_step, .ref a_t_stepF, .ref a_t_line, .int t_lineMany])), (a_t_s, .inl (cT 0, 282, .inl t_s))]) [0, 3] rfl)) (cV hta lm_X12_116 md_X12_of ⟨(Nat.le_of_ble_eq_true rfl), (Nat.le_of_ble_eq_true rfl)⟩) ⟨fbK, va_recv hK (rk hR0 hNA hS) (ci := 15) (q0 := 0) rfl rfl, fun U hU hW => ⟨rfl, hU, va_K.moved hW.alike hK⟩⟩ rfl rfl hl.1 rfl (lv_room (Nat.le_of_ble_eq_true rfl)) dX12_isFault_43 ⟨(Nat.le_of_ble_eq_true rfl), (Nat.le_of_ble_eq_true rfl)⟩) hS hA (fun locs hS => ?_)
      refine lv_i2l hx hb dX12_isFault_46 rfl ?_
      exact wB_47 (upd t_isBrothOn p2.toNatClampNeg (vp_nar .boolean r10)) v1 r12.toInt64 _ _ _ h hP hD hS (lv_sub hl [1, 0] rfl)
    · have h := (if_neg c0).symm.trans h
      refine lv_lconst (v := 0) hx hb dX12_isFault_36 (by decide) ?_
      refine lv_goto (tgt := 47) hx hb dX12_isFault_37 (by decide) ?_
      exact wB_47 (upd t_isBrothOn p2.toNatClampNeg (vp_nar .boolean r10)) v1 0 _ _ _ h hP hD hS (lv_sub hl [1, 0] rfl)
