set_option maxHeartbeats 4000000 in
set_option maxRecDepth 100000 in
theorem c_X3_givesBroth (l : Launch) (dC : Nat → ClassId) (dI : Nat → Nat → Nat) (cT : Nat → ClassId) {Hh : Heap} {a_t : Nat} {a_t_isBroth : Nat} {a_t_much : Nat} {a_t_many : Nat} {t_isBroth : Nat → Int32} {t_much : Nat → UInt32} {p1 : Int32} {p2 : UInt32} {o : Int32 × (Nat → Int32) × (Nat → UInt32)} (h : g_X3_givesBroth t_isBroth t_much p1 p2 = some o) (hP0 : va_P (dC, dI) vwCl [(a_t_isBroth, .inl (cT 1, 24, .inl t_isBroth)), (a_t_much, .inl (cT 4, 24, .inr (.inr (.inl t_much))))] Hh) (hR0 : va_P (dC, dI) vwCl [(a_t, .inr (7, [.ref a_t_isBroth, .ref a_t_many, .ref a_t_much]))] Hh) (hD0 : va_D (fun _ => True) [(a_t_isBroth, .inl (cT 1, 24, .inl t_isBroth)), (a_t_much, .inl (cT 4, 24, .inr (.inr (.inl t_much))))]) (hN0 : ∀ (k : Nat) (q : Nat × va_E), ([(a_t, .inr (7, [.ref a_t_isBroth, .ref a_t_many, .ref a_t_much]))] : va_W)[k]? = some q → ¬ va_A [(a_t_isBroth, .inl (cT 1, 24, .inl t_isBroth)), (a_t_much, .inl (cT 4, 24, .inr (.inr (.inl t_much))))] Hh.size q.1) : Met l yX3_givesBroth (wA yX3_givesBroth cX3_givesBroth 3 (some .boolean)) ({ frames := 0, cells := 0, slots := 0, locals := 0 } : Room) (PK dC dI cT [.ref a_t, .int p1, .float p2] Hh) (va_Qi (fun x (_ : Unit) => x = o.1) (fun _ t => va_P (dC, dI) vwCl [(a_t_isBroth, .inl (cT 1, 24, .inl o.2.1)), (a_t_much, .inl (cT 4, 24, .inr (.inr (.inl o.2.2))))] t.heap) (va_A [(a_t_isBroth, .inl (cT 1, 24, .inl t_isBroth)), (a_t_much, .inl (cT 4, 24, .inr (.inr (.inl t_much))))] Hh.size)) 0 0 (va_A [(a_t_isBroth, .inl (cT 1, 24, .inl t_isBroth)), (a_t_much, .inl (cT 4, 24, .inr (.inr (.inl t_much))))] Hh.size) := by
  refine Met.ofW (cc := cX3_givesBroth) (maxL := 3) (ret := (some .boolean)) (by decide) rfl ?_
  intro p e s m args below meth c s₁ B hml hv
  obtain ⟨rfl, hH, hK⟩ := hv
  subst hH
  have hx := B.exec
  have hb := B.bytes
  have hr := B.returns
  have hta : ∀ w ∈ ALLW, w.before [.ref a_t, .int p1, .float p2].toArray s = true := fun w hw => atoms_spec (ws := wA yX3_givesBroth cX3_givesBroth 3 (some .boolean)) B.pre w (List.mem_cons_of_mem _ hw)
  have hown : s.vm.findClass RX3 = some m.cls := findClass_of_methodNamed B.named
  have hlocks := B.notSynchronized
  have hD := hD0.self (sz := s.heap.size)
  have hNA := hN0
  generalize hAe : va_A [(a_t_isBroth, .inl (cT 1, 24, .inl t_isBroth)), (a_t_much, .inl (cT 4, 24, .inr (.inr (.inl t_much))))] s.heap.size = A at hD hNA ⊢
  have hP := hP0
  have hA : ∀ q : Nat, s.heap.size ≤ q → A q := fun q h => by rw [← hAe]; exact Or.inr h
  have hS : va_S A s.heap s.heap [] := va_S.rf
  have hl := lv_entry [.ref a_t, .int p1, .float p2] (n := 3) (Nat.le_of_ble_eq_true rfl)
  rw [lg_entry_eq]
  generalize (lg_sl [.ref a_t, .int p1, .float p2] ++ List.replicate (3 - (lg_sl [.ref a_t, .int p1, .float p2]).length) Slot.unset).toArray = ls at hl ⊢
  have hl : lv_has ls 3 [(0, .ref a_t), (1, .int p1), (2, .float p2)] := hl
  unfold g_X3_givesBroth at h
  refine lv_aload_n hx hb dX3_givesBroth_0 rfl (lv_at hl 0 rfl) ?_
  refine va_get (D := (dC, dI)) (ci := 7) (v := .ref a_t_isBroth) (C := RX3) (T := TX3) (N := 3) hx hb hta inX3w hown hK (rk hR0 hNA hS) 0 rfl rfl 0 (by decide) (hta _ lk_X3_9) (fun _ h9 => h9) rfl dX3_givesBroth_1 ?_
  refine lv_iload_n hx hb dX3_givesBroth_4 rfl (lv_at hl 1 rfl) ?_
  refine lv_iconst (v := 1) hx hb dX3_givesBroth_5 (by decide) ?_
  obtain ⟨hc, h⟩ := gc_some h
  refine va_zast hx hb hK hP hD hS 0 1 rfl rfl (inb_in hc) dX3_givesBroth_6 (fun H locs hP hD hS => ?_)
  have hP : va_P (dC, dI) vwCl [(a_t_isBroth, .inl (cT 1, 24, .inl (upd t_isBroth p1.toNatClampNeg (vp_nar .boolean 1)))), (a_t_much, .inl (cT 4, 24, .inr (.inr (.inl t_much))))] H := hP
  have hD : va_D A [(a_t_isBroth, .inl (cT 1, 24, .inl (upd t_isBroth p1.toNatClampNeg (vp_nar .boolean 1)))), (a_t_much, .inl (cT 4, 24, .inr (.inr (.inl t_much))))] := hD
  refine lv_aload_n hx hb dX3_givesBroth_7 rfl (lv_at hl 0 rfl) ?_
  refine va_get (D := (dC, dI)) (ci := 7) (v := .ref a_t_much) (C := RX3) (T := TX3) (N := 3) hx hb hta inX3w hown hK (rk hR0 hNA hS) 0 rfl rfl 2 (by decide) (hta _ lk_X3_19) (fun _ h9 => h9) rfl dX3_givesBroth_8 ?_
  refine lv_iload_n hx hb dX3_givesBroth_11 rfl (lv_at hl 1 rfl) ?_
  refine lv_fload_n hx hb dX3_givesBroth_12 rfl (lv_at hl 2 rfl) ?_
  obtain ⟨hc, h⟩ := gc_some h
  refine va_fast hx hb hK hP hD hS 1 4 rfl rfl (inb_in hc) dX3_givesBroth_13 (fun H locs hP hD hS => ?_)
  have hP : va_P (dC, dI) vwCl [(a_t_isBroth, .inl (cT 1, 24, .inl (upd t_isBroth p1.toNatClampNeg (vp_nar .boolean 1)))), (a_t_much, .inl (cT 4, 24, .inr (.inr (.inl (vf_upd t_much p1.toNatClampNeg p2)))))] H := hP
  have hD : va_D A [(a_t_isBroth, .inl (cT 1, 24, .inl (upd t_isBroth p1.toNatClampNeg (vp_nar .boolean 1)))), (a_t_much, .inl (cT 4, 24, .inr (.inr (.inl (vf_upd t_much p1.toNatClampNeg p2)))))] := hD
  refine lv_iconst (v := 1) hx hb dX3_givesBroth_14 (by decide) ?_
  have ho := Option.some.inj h
  exact W.zret (ty := .boolean) (v := 1) hx hb hr rfl (fun t ht hW => ⟨⟨1, (), rfl, by rw [← ho], by show va_P (dC, dI) vwCl _ t.heap; rw [ht, ← ho]; exact hP⟩, hS.F ht⟩) hS.2.2 dX3_givesBroth_15
set_option maxHeartbeats 4000000 in
set_option maxRecDepth 100000 in
theorem c_X3_givesDrams (l : Launch) (dC : Nat → ClassId) (dI : Nat → Nat → Nat) (cT : Nat → ClassId) {Hh : Heap} {a_t : Nat} {a_t_isBroth : Nat} {a_t_many : Nat} {a_t_much : Nat} {t_isBroth : Nat → Int32} {t_many : Nat → Int32} {p1 : Int32} {p2 : Int64} {o : Int32 × (Nat → Int32) × (Nat → Int32)} (h : g_X3_givesDrams t_isBroth t_many p1 p2 = some o) (hP0 : va_P (dC, dI) vwCl [(a_t_isBroth, .inl (cT 1, 24, .inl t_isBroth)), (a_t_many, .inl (cT 0, 24, .inl t_many))] Hh) (hR0 : va_P (dC, dI) vwCl [(a_t, .inr (7, [.ref a_t_isBroth, .ref a_t_many, .ref a_t_much]))] Hh) (hD0 : va_D (fun _ => True) [(a_t_isBroth, .inl (cT 1, 24, .inl t_isBroth)), (a_t_many, .inl (cT 0, 24, .inl t_many))]) (hN0 : ∀ (k : Nat) (q : Nat × va_E), ([(a_t, .inr (7, [.ref a_t_isBroth, .ref a_t_many, .ref a_t_much]))] : va_W)[k]? = some q → ¬ va_A [(a_t_isBroth, .inl (cT 1, 24, .inl t_isBroth)), (a_t_many, .inl (cT 0, 24, .inl t_many))] Hh.size q.1) : Met l yX3_givesDrams (wA yX3_givesDrams cX3_givesDrams 4 (some .boolean)) ({ frames := 1, cells := 0, slots := 0, locals := 21 } : Room) (PK dC dI cT [.ref a_t, .int p1, .long p2] Hh) (va_Qi (fun x (_ : Unit) => x = o.1) (fun _ t => va_P (dC, dI) vwCl [(a_t_isBroth, .inl (cT 1, 24, .inl o.2.1)), (a_t_many, .inl (cT 0, 24, .inl o.2.2))] t.heap) (va_A [(a_t_isBroth, .inl (cT 1, 24, .inl t_isBroth)), (a_t_many, .inl (cT 0, 24, .inl t_many))] Hh.size)) 0 0 (va_A [(a_t_isBroth, .inl (cT 1, 24, .inl t_isBroth)), (a_t_many, .inl (cT 0, 24, .inl t_many))] Hh.size) := by
  refine Met.ofW (cc := cX3_givesDrams) (maxL := 4) (ret := (some .boolean)) (by decide) rfl ?_
  intro p e s m args below meth c s₁ B hml hv
  obtain ⟨rfl, hH, hK⟩ := hv
  subst hH
  have hx := B.exec
  have hb := B.bytes
  have hr := B.returns
  have hta : ∀ w ∈ ALLW, w.before [.ref a_t, .int p1, .long p2].toArray s = true := fun w hw => atoms_spec (ws := wA yX3_givesDrams cX3_givesDrams 4 (some .boolean)) B.pre w (List.mem_cons_of_mem _ hw)
  have hown : s.vm.findClass RX3 = some m.cls := findClass_of_methodNamed B.named
  have hlocks := B.notSynchronized
  have hD := hD0.self (sz := s.heap.size)
  have hNA := hN0
  generalize hAe : va_A [(a_t_isBroth, .inl (cT 1, 24, .inl t_isBroth)), (a_t_many, .inl (cT 0, 24, .inl t_many))] s.heap.size = A at hD hNA ⊢
  have hP := hP0
  have hA : ∀ q : Nat, s.heap.size ≤ q → A q := fun q h => by rw [← hAe]; exact Or.inr h
  have hS : va_S A s.heap s.heap [] := va_S.rf
  have hl := lv_entry [.ref a_t, .int p1, .long p2] (n := 4) (Nat.le_of_ble_eq_true rfl)
  rw [lg_entry_eq]
  generalize (lg_sl [.ref a_t, .int p1, .long p2] ++ List.replicate (4 - (lg_sl [.ref a_t, .int p1, .long p2]).length) Slot.unset).toArray = ls at hl ⊢
  have hl : lv_has ls 4 [(0, .ref a_t), (1, .int p1), (2, .long p2)] := hl
  unfold g_X3_givesDrams at h
  refine lv_aload_n hx hb dX3_givesDrams_0 rfl (lv_at hl 0 rfl) ?_
  refine va_get (D := (dC, dI)) (ci := 7) (v := .ref a_t_isBroth) (C := RX3) (T := TX3) (N := 3) hx hb hta inX3w hown hK (rk hR0 hNA hS) 0 rfl rfl 0 (by decide) (hta _ lk_X3_9) (fun _ h9 => h9) rfl dX3_givesDrams_1 ?_
  refine lv_iload_n hx hb dX3_givesDrams_4 rfl (lv_at hl 1 rfl) ?_
  refine lv_iconst (v := 0) hx hb dX3_givesDrams_5 (by decide) ?_
  obtain ⟨hc, h⟩ := gc_some h
  refine va_zast hx hb hK hP hD hS 0 1 rfl rfl (inb_in hc) dX3_givesDrams_6 (fun H locs hP hD hS => ?_)
  have hP : va_P (dC, dI) vwCl [(a_t_isBroth, .inl (cT 1, 24, .inl (upd t_isBroth p1.toNatClampNeg (vp_nar .boolean 0)))), (a_t_many, .inl (cT 0, 24, .inl t_many))] H := hP
  have hD : va_D A [(a_t_isBroth, .inl (cT 1, 24, .inl (upd t_isBroth p1.toNatClampNeg (vp_nar .boolean 0)))), (a_t_many, .inl (cT 0, 24, .inl t_many))] := hD
  refine lv_aload_n hx hb dX3_givesDrams_7 rfl (lv_at hl 0 rfl) ?_
  refine va_get (D := (dC, dI)) (ci := 7) (v := .ref a_t_many) (C := RX3) (T := TX3) (N := 3) hx hb hta inX3w hown hK (rk hR0 hNA hS) 0 rfl rfl 1 (by decide) (hta _ lk_X3_15) (fun _ h9 => h9) rfl dX3_givesDrams_8 ?_
  refine lv_iload_n hx hb dX3_givesDrams_11 rfl (lv_at hl 1 rfl) ?_
  refine lv_lload_n hx hb dX3_givesDrams_12 rfl (lv_at hl 2 rfl) ?_
  refine lv_l2i hx hb dX3_givesDrams_13 rfl ?_
  obtain ⟨hc, h⟩ := gc_some h
  refine va_iast hx hb hK hP hD hS 1 0 rfl rfl (inb_in hc) dX3_givesDrams_14 (fun H locs hP hD hS => ?_)
  have hP : va_P (dC, dI) vwCl [(a_t_isBroth, .inl (cT 1, 24, .inl (upd t_isBroth p1.toNatClampNeg (vp_nar .boolean 0)))), (a_t_many, .inl (cT 0, 24, .inl (upd t_many p1.toNatClampNeg p2.toInt32)))] H := hP
  have hD : va_D A [(a_t_isBroth, .inl (cT 1, 24, .inl (upd t_isBroth p1.toNatClampNeg (vp_nar .boolean 0)))), (a_t_many, .inl (cT 0, 24, .inl (upd t_many p1.toNatClampNeg p2.toInt32)))] := hD
  refine lv_lload_n hx hb dX3_givesDrams_15 rfl (lv_at hl 2 rfl) ?_
  obtain ⟨r1, hq, h⟩ := gb_some h
  refine crI (va_runS (As := [.long p2]) (rest := []) ⟨hx, hb, hml, hown, hta⟩ (c_X5_excess l dC dI cT hq) (cS hta lm_X3_108 md_X5_excess ⟨(Nat.le_of_ble_eq_true rfl), (Nat.le_of_ble_eq_true rfl)⟩) ⟨fbK, fun U hU hW => ⟨rfl, hU, va_K.moved hW.alike hK⟩⟩ rfl rfl hl.1 rfl (lv_room (Nat.le_of_ble_eq_true rfl)) dX3_givesDrams_16 ⟨(Nat.le_of_ble_eq_true rfl), (Nat.le_of_ble_eq_true rfl)⟩) hS hA (fun locs hS => ?_)
  refine lv_if_ne (tgt := 26) hx hb dX3_givesDrams_19 (by decide) (fun c0 => ?_) (fun c0 => ?_)
  · have h := (if_neg c0).symm.trans h
    refine lv_iconst (v := 0) hx hb dX3_givesDrams_26 (by decide) ?_
    have ho := Option.some.inj h
    exact W.zret (ty := .boolean) (v := 0) hx hb hr rfl (fun t ht hW => ⟨⟨0, (), rfl, by rw [← ho], by show va_P (dC, dI) vwCl _ t.heap; rw [ht, ← ho]; exact hP⟩, hS.F ht⟩) hS.2.2 dX3_givesDrams_27
  · have h := (if_pos c0).symm.trans h
    refine lv_iconst (v := 1) hx hb dX3_givesDrams_22 (by decide) ?_
    refine lv_goto (tgt := 27) hx hb dX3_givesDrams_23 (by decide) ?_
    have ho := Option.some.inj h
    exact W.zret (ty := .boolean) (v := 1) hx hb hr rfl (fun t ht hW => ⟨⟨1, (), rfl, by rw [← ho], by show va_P (dC, dI) vwCl _ t.heap; rw [ht, ← ho]; exact hP⟩, hS.F ht⟩) hS.2.2 dX3_givesDrams_27
set_option maxHeartbeats 4000000 in
set_option maxRecDepth 100000 in
theorem c_X3_goesTake (l : Launch) (dC : Nat → ClassId) (dI : Nat → Nat → Nat) (cT : Nat → ClassId) {Hh : Heap} {a_t : Nat} {a_p1 : Nat} {a_p2 : Nat} {a_p1_kinds : Nat} {a_p1_values : Nat} {a_p2_isBroth : Nat} {a_t_many : Nat} {a_p2_contents : Nat} {a_p2_contents_many : Nat} {a_t_much : Nat} {a_p2_contents_much : Nat} {a_t_isBroth : Nat} {a_p1_text : Nat} {a_p1_firsts : Nat} {a_p1_parts : Nat} {a_p1_lastParts : Nat} {a_p2_low : Nat} {a_p2_high : Nat} {a_p2_storesIn : Nat} {a_p2_texts : Nat} {a_p2_cooked : Nat} {p1_tokens : Int32} {p1_kinds : Nat → Int32} {p1_values : Nat → Int32} {p2_isBroth : Nat → Int32} {t_many : Nat → Int32} {p2_contents_many : Nat → Int32} {t_much : Nat → UInt32} {p2_contents_much : Nat → UInt32} {t_isBroth : Nat → Int32} {p3 : Int32} {p4 : Int32} {p1_stores : Int32} {p1_mostSpoons : Int32} {p2_cauldrons : Int32} {p2_spells : Int32} {p2_cookedSoFar : Int32} {p2_storesSoFar : Int32} {o : Int32 × (Nat → Int32) × (Nat → UInt32) × (Nat → Int32)} (h : g_X3_goesTake p1_tokens p1_kinds p1_values p2_isBroth t_many p2_contents_many t_much p2_contents_much t_isBroth p3 p4 = some o) (hP0 : va_P (dC, dI) vwCl [(a_t_many, .inl (cT 0, 24, .inl t_many)), (a_t_much, .inl (cT 4, 24, .inr (.inr (.inl t_much)))), (a_t_isBroth, .inl (cT 1, 24, .inl t_isBroth))] Hh) (hR0 : va_P (dC, dI) vwCl [(a_t, .inr (7, [.ref a_t_isBroth, .ref a_t_many, .ref a_t_much])), (a_p1, .inr (11, [.ref a_p1_text, .int p1_tokens, .int p1_stores, .int p1_mostSpoons, .ref a_p1_firsts, .ref a_p1_kinds, .ref a_p1_values, .ref a_p1_parts, .ref a_p1_lastParts])), (a_p2, .inr (4, [.int p2_cauldrons, .ref a_p2_isBroth, .ref a_p2_low, .ref a_p2_high, .ref a_p2_contents, .ref a_p2_storesIn, .int p2_spells, .ref a_p2_texts, .ref a_p2_cooked, .int p2_cookedSoFar, .int p2_storesSoFar])), (a_p1_kinds, .inl (cT 0, 24, .inl p1_kinds)), (a_p1_values, .inl (cT 0, 24, .inl p1_values)), (a_p2_isBroth, .inl (cT 1, 6, .inl p2_isBroth)), (a_p2_contents, .inr (5, [.ref a_p2_contents_many, .ref a_p2_contents_much])), (a_p2_contents_many, .inl (cT 0, 6, .inl p2_contents_many)), (a_p2_contents_much, .inl (cT 4, 6, .inr (.inr (.inl p2_contents_much))))] Hh) (hD0 : va_D (fun _ => True) [(a_t_many, .inl (cT 0, 24, .inl t_many)), (a_t_much, .inl (cT 4, 24, .inr (.inr (.inl t_much)))), (a_t_isBroth, .inl (cT 1, 24, .inl t_isBroth))]) (hN0 : ∀ (k : Nat) (q : Nat × va_E), ([(a_t, .inr (7, [.ref a_t_isBroth, .ref a_t_many, .ref a_t_much])), (a_p1, .inr (11, [.ref a_p1_text, .int p1_tokens, .int p1_stores, .int p1_mostSpoons, .ref a_p1_firsts, .ref a_p1_kinds, .ref a_p1_values, .ref a_p1_parts, .ref a_p1_lastParts])), (a_p2, .inr (4, [.int p2_cauldrons, .ref a_p2_isBroth, .ref a_p2_low, .ref a_p2_high, .ref a_p2_contents, .ref a_p2_storesIn, .int p2_spells, .ref a_p2_texts, .ref a_p2_cooked, .int p2_cookedSoFar, .int p2_storesSoFar])), (a_p1_kinds, .inl (cT 0, 24, .inl p1_kinds)), (a_p1_values, .inl (cT 0, 24, .inl p1_values)), (a_p2_isBroth, .inl (cT 1, 6, .inl p2_isBroth)), (a_p2_contents, .inr (5, [.ref a_p2_contents_many, .ref a_p2_contents_much])), (a_p2_contents_many, .inl (cT 0, 6, .inl p2_contents_many)), (a_p2_contents_much, .inl (cT 4, 6, .inr (.inr (.inl p2_contents_much))))] : va_W)[k]? = some q → ¬ va_A [(a_t_many, .inl (cT 0, 24, .inl t_many)), (a_t_much, .inl (cT 4, 24, .inr (.inr (.inl t_much)))), (a_t_isBroth, .inl (cT 1, 24, .inl t_isBroth))] Hh.size q.1) : Met l yX3_goesTake (wA yX3_goesTake cX3_goesTake 6 (some .boolean)) ({ frames := 2, cells := 0, slots := 0, locals := 45 } : Room) (PK dC dI cT [.ref a_t, .ref a_p1, .ref a_p2, .int p3, .int p4] Hh) (va_Qi (fun x (_ : Unit) => x = o.1) (fun _ t => va_P (dC, dI) vwCl [(a_t_many, .inl (cT 0, 24, .inl o.2.1)), (a_t_much, .inl (cT 4, 24, .inr (.inr (.inl o.2.2.1)))), (a_t_isBroth, .inl (cT 1, 24, .inl o.2.2.2))] t.heap) (va_A [(a_t_many, .inl (cT 0, 24, .inl t_many)), (a_t_much, .inl (cT 4, 24, .inr (.inr (.inl t_much)))), (a_t_isBroth, .inl (cT 1, 24, .inl t_isBroth))] Hh.size)) 0 0 (va_A [(a_t_many, .inl (cT 0, 24, .inl t_many)), (a_t_much, .inl (cT 4, 24, .inr (.inr (.inl t_much)))), (a_t_isBroth, .inl (cT 1, 24, .inl t_isBroth))] Hh.size) := by
  refine Met.ofW (cc := cX3_goesTake) (maxL := 6) (ret := (some .boolean)) (by decide) rfl ?_
  intro p e s m args below meth c s₁ B hml hv
  obtain ⟨rfl, hH, hK⟩ := hv
  subst hH
  have hx := B.exec
  have hb := B.bytes
  have hr := B.returns
  have hta : ∀ w ∈ ALLW, w.before [.ref a_t, .ref a_p1, .ref a_p2, .int p3, .int p4].toArray s = true := fun w hw => atoms_spec (ws := wA yX3_goesTake cX3_goesTake 6 (some .boolean)) B.pre w (List.mem_cons_of_mem _ hw)
  have hown : s.vm.findClass RX3 = some m.cls := findClass_of_methodNamed B.named
  have hlocks := B.notSynchronized
  have hD := hD0.self (sz := s.heap.size)
  have hNA := hN0
  generalize hAe : va_A [(a_t_many, .inl (cT 0, 24, .inl t_many)), (a_t_much, .inl (cT 4, 24, .inr (.inr (.inl t_much)))), (a_t_isBroth, .inl (cT 1, 24, .inl t_isBroth))] s.heap.size = A at hD hNA ⊢
  have hP := hP0
  have hA : ∀ q : Nat, s.heap.size ≤ q → A q := fun q h => by rw [← hAe]; exact Or.inr h
  have hS : va_S A s.heap s.heap [] := va_S.rf
  have hl := lv_entry [.ref a_t, .ref a_p1, .ref a_p2, .int p3, .int p4] (n := 6) (Nat.le_of_ble_eq_true rfl)
  rw [lg_entry_eq]
  generalize (lg_sl [.ref a_t, .ref a_p1, .ref a_p2, .int p3, .int p4] ++ List.replicate (6 - (lg_sl [.ref a_t, .ref a_p1, .ref a_p2, .int p3, .int p4]).length) Slot.unset).toArray = ls at hl ⊢
  have hl : lv_has ls 6 [(0, .ref a_t), (1, .ref a_p1), (2, .ref a_p2), (3, .int p3), (4, .int p4)] := hl
  obtain ⟨Q, hQ⟩ : ∃ Q, Q = MQ below (va_Qi (fun x (_ : Unit) => x = o.1) (fun _ t => va_P (dC, dI) vwCl [(a_t_many, .inl (cT 0, 24, .inl o.2.1)), (a_t_much, .inl (cT 4, 24, .inr (.inr (.inl o.2.2.1)))), (a_t_isBroth, .inl (cT 1, 24, .inl o.2.2.2))] t.heap) A) [.ref a_t, .ref a_p1, .ref a_p2, .int p3, .int p4].toArray s 0 0 A := ⟨_, rfl⟩
  rw [← hQ]
  have wB_97 : ∀ (s2_97 : Int64) (H : Heap) (locs : List Loc) (ls : Array Slot), g_X3_goesTake_b97 t_many t_much t_isBroth p3 s2_97 = some o → va_P (dC, dI) vwCl [(a_t_many, .inl (cT 0, 24, .inl t_many)), (a_t_much, .inl (cT 4, 24, .inr (.inr (.inl t_much)))), (a_t_isBroth, .inl (cT 1, 24, .inl t_isBroth))] H → va_D A [(a_t_many, .inl (cT 0, 24, .inl t_many)), (a_t_much, .inl (cT 4, 24, .inr (.inr (.inl t_much)))), (a_t_isBroth, .inl (cT 1, 24, .inl t_isBroth))] → va_S A s.heap H locs → lv_has ls 6 [] → W p l e ({ frames := 2, cells := 0, slots := 0, locals := 45 } : Room) s m [.ref a_t, .ref a_p1, .ref a_p2, .int p3, .int p4].toArray below meth c H locs 0 0 Q (F0 m 97 ls [.long s2_97, .int p3, .ref a_t]) := by
    intro s2_97 H locs ls h hP hD hS hl
    unfold g_X3_goesTake_b97 at h
    obtain ⟨r2, hq, h⟩ := gb_some h
    refine cxI (X2 := [(a_t_many, .inl (cT 0, 24, .inl r2.2.2)), (a_t_much, .inl (cT 4, 24, .inr (.inr (.inl t_much)))), (a_t_isBroth, .inl (cT 1, 24, .inl r2.2.1))]) (va_runV (As := [.int p3, .long s2_97]) (rest := []) ⟨hx, hb, hml, hown, hta⟩ (c_X3_givesDrams l dC dI cT hq (hP.sub (ws' := [(a_t_isBroth, .inl (cT 1, 24, .inl t_isBroth)), (a_t_many, .inl (cT 0, 24, .inl t_many))]) [2, 0] rfl) ((va_P.app hP (rk hR0 hNA hS)).sub (ws' := [(a_t, .inr (7, [.ref a_t_isBroth, .ref a_t_many, .ref a_t_much]))]) [3] rfl) (ds hD [2, 0] (by decide) rfl) (nac hP hD [2, 0] rfl (va_free hD hS hA [2, 0] rfl) hNA [.inl 0] rfl rfl)) (cV hta lm_X3_61 md_X3_givesDrams ⟨(Nat.le_of_ble_eq_true rfl), (Nat.le_of_ble_eq_true rfl)⟩) ⟨fbK, va_recv hK (rk hR0 hNA hS) (ci := 7) (q0 := 0) rfl rfl, fun U hU hW => ⟨rfl, hU, va_K.moved hW.alike hK⟩⟩ rfl rfl hl.1 rfl (lv_room (Nat.le_of_ble_eq_true rfl)) dX3_goesTake_97 ⟨(Nat.le_of_ble_eq_true rfl), (Nat.le_of_ble_eq_true rfl)⟩) hS hA hP hD [2, 0] rfl [.inl 1, .inr 1, .inl 0] rfl rfl rfl (fun H locs hP hD hS => ?_)
    obtain ⟨hc, h⟩ := gc_some h
    have ho := Option.some.inj h
    rw [hQ]
    exact W.zret (ty := .boolean) (v := r2.1) hx hb hr (bo_n hc) (fun t ht hW => ⟨⟨r2.1, (), rfl, by rw [← ho], by show va_P (dC, dI) vwCl _ t.heap; rw [ht, ← ho]; exact hP⟩, hS.F ht⟩) hS.2.2 dX3_goesTake_100
  have wB_63 : ∀ (s2_63 : UInt32) (H : Heap) (locs : List Loc) (ls : Array Slot), g_X3_goesTake_b63 t_many t_much t_isBroth p3 s2_63 = some o → va_P (dC, dI) vwCl [(a_t_many, .inl (cT 0, 24, .inl t_many)), (a_t_much, .inl (cT 4, 24, .inr (.inr (.inl t_much)))), (a_t_isBroth, .inl (cT 1, 24, .inl t_isBroth))] H → va_D A [(a_t_many, .inl (cT 0, 24, .inl t_many)), (a_t_much, .inl (cT 4, 24, .inr (.inr (.inl t_much)))), (a_t_isBroth, .inl (cT 1, 24, .inl t_isBroth))] → va_S A s.heap H locs → lv_has ls 6 [] → W p l e ({ frames := 2, cells := 0, slots := 0, locals := 45 } : Room) s m [.ref a_t, .ref a_p1, .ref a_p2, .int p3, .int p4].toArray below meth c H locs 0 0 Q (F0 m 63 ls [.float s2_63, .int p3, .ref a_t]) := by
    intro s2_63 H locs ls h hP hD hS hl
    unfold g_X3_goesTake_b63 at h
    obtain ⟨r3, hq, h⟩ := gb_some h
    refine cxI (X2 := [(a_t_many, .inl (cT 0, 24, .inl t_many)), (a_t_much, .inl (cT 4, 24, .inr (.inr (.inl r3.2.2)))), (a_t_isBroth, .inl (cT 1, 24, .inl r3.2.1))]) (va_runV (As := [.int p3, .float s2_63]) (rest := []) ⟨hx, hb, hml, hown, hta⟩ (c_X3_givesBroth l dC dI cT hq (hP.sub (ws' := [(a_t_isBroth, .inl (cT 1, 24, .inl t_isBroth)), (a_t_much, .inl (cT 4, 24, .inr (.inr (.inl t_much))))]) [2, 1] rfl) ((va_P.app hP (rk hR0 hNA hS)).sub (ws' := [(a_t, .inr (7, [.ref a_t_isBroth, .ref a_t_many, .ref a_t_much]))]) [3] rfl) (ds hD [2, 1] (by decide) rfl) (nac hP hD [2, 1] rfl (va_free hD hS hA [2, 1] rfl) hNA [.inl 0] rfl rfl)) (cV hta lm_X3_57 md_X3_givesBroth ⟨(Nat.le_of_ble_eq_true rfl), (Nat.le_of_ble_eq_true rfl)⟩) ⟨fbK, va_recv hK (rk hR0 hNA hS) (ci := 7) (q0 := 0) rfl rfl, fun U hU hW => ⟨rfl, hU, va_K.moved hW.alike hK⟩⟩ rfl rfl hl.1 rfl (lv_room (Nat.le_of_ble_eq_true rfl)) dX3_goesTake_63 ⟨(Nat.le_of_ble_eq_true rfl), (Nat.le_of_ble_eq_true rfl)⟩) hS hA hP hD [2, 1] rfl [.inr 0, .inl 1, .inl 0] rfl rfl rfl (fun H locs hP hD hS => ?_)
    obtain ⟨hc, h⟩ := gc_some h
    have ho := Option.some.inj h
    rw [hQ]
    exact W.zret (ty := .boolean) (v := r3.1) hx hb hr (bo_n hc) (fun t ht hW => ⟨⟨r3.1, (), rfl, by rw [← ho], by show va_P (dC, dI) vwCl _ t.heap; rw [ht, ← ho]; exact hP⟩, hS.F ht⟩) hS.2.2 dX3_goesTake_66
  unfold g_X3_goesTake at h
  refine lv_iload hx hb dX3_goesTake_0 (lv_at hl 4 rfl) ?_
  refine lv_if_lt (tgt := 12) hx hb dX3_goesTake_2 (by decide) (fun c0 => ?_) (fun c0 => ?_)
  · have h := (if_pos c0).symm.trans h
    refine lv_iconst (v := 0) hx hb dX3_goesTake_12 (by decide) ?_
    have ho := Option.some.inj h
    rw [hQ]
    exact W.zret (ty := .boolean) (v := 0) hx hb hr rfl (fun t ht hW => ⟨⟨0, (), rfl, by rw [← ho], by show va_P (dC, dI) vwCl _ t.heap; rw [ht, ← ho]; exact hP⟩, hS.F ht⟩) hS.2.2 dX3_goesTake_13
  · have h := (if_neg c0).symm.trans h
    refine lv_iload hx hb dX3_goesTake_5 (lv_at hl 4 rfl) ?_
    refine lv_bipush (v := 6) hx hb dX3_goesTake_7 (by decide) ?_
    refine lv_icmp_lt (tgt := 14) hx hb dX3_goesTake_9 (by decide) (fun c0 => ?_) (fun c0 => ?_)
    · have h := (if_pos c0).symm.trans h
      refine lv_aload_n hx hb dX3_goesTake_14 rfl (lv_at hl 1 rfl) ?_
      refine lv_bipush (v := 7) hx hb dX3_goesTake_15 (by decide) ?_
      refine lv_iload hx hb dX3_goesTake_17 (lv_at hl 4 rfl) ?_
      refine lv_iload_n hx hb dX3_goesTake_19 rfl (lv_at hl 3 rfl) ?_
      obtain ⟨r1, hq, h⟩ := gb_some h
      refine crI (va_runV (As := [.int 7, .int p4, .int p3]) (rest := []) ⟨hx, hb, hml, hown, hta⟩ (c_X8_lastAhead l dC dI cT hq ((rk hR0 hNA hS).sub (ws' := [(a_p1, .inr (11, [.ref a_p1_text, .int p1_tokens, .int p1_stores, .int p1_mostSpoons, .ref a_p1_firsts, .ref a_p1_kinds, .ref a_p1_values, .ref a_p1_parts, .ref a_p1_lastParts])), (a_p1_kinds, .inl (cT 0, 24, .inl p1_kinds)), (a_p1_values, .inl (cT 0, 24, .inl p1_values))]) [1, 3, 4] rfl)) (cV hta lm_X3_36 md_X8_lastAhead ⟨(Nat.le_of_ble_eq_true rfl), (Nat.le_of_ble_eq_true rfl)⟩) ⟨fbK, va_recv hK (rk hR0 hNA hS) (ci := 11) (q0 := 1) rfl rfl, fun U hU hW => ⟨rfl, hU, va_K.moved hW.alike hK⟩⟩ rfl rfl hl.1 rfl (lv_room (Nat.le_of_ble_eq_true rfl)) dX3_goesTake_20 ⟨(Nat.le_of_ble_eq_true rfl), (Nat.le_of_ble_eq_true rfl)⟩) hS hA (fun locs hS => ?_)
      refine lv_istore (lv' := [(5, .int r1), (0, .ref a_t), (1, .ref a_p1), (2, .ref a_p2), (3, .int p3), (4, .int p4)]) hx hb dX3_goesTake_23 hl (by decide) rfl (fun ls hl => ?_)
      refine lv_aload_n hx hb dX3_goesTake_25 rfl (lv_at hl 3 rfl) ?_
      refine va_get (D := (dC, dI)) (ci := 4) (v := .ref a_p2_isBroth) (C := RX0) (T := TX0) (N := 11) hx hb hta inX0w hown hK (rk hR0 hNA hS) 2 rfl rfl 1 (by decide) (hta _ lk_X3_56) (fun _ h9 => h9) rfl dX3_goesTake_26 ?_
      refine lv_iload hx hb dX3_goesTake_29 (lv_at hl 5 rfl) ?_
      obtain ⟨hc, h⟩ := gc_some h
      refine va_zald hx hb hK (rk hR0 hNA hS) 5 1 rfl rfl (inb_in hc) dX3_goesTake_31 ?_
      refine lv_if_eq (tgt := 67) hx hb dX3_goesTake_32 (by decide) (fun c0 => ?_) (fun c0 => ?_)
      · have h := (if_pos c0).symm.trans h
        refine lv_aload_n hx hb dX3_goesTake_67 rfl (lv_at hl 1 rfl) ?_
        refine lv_iload_n hx hb dX3_goesTake_68 rfl (lv_at hl 4 rfl) ?_
        refine lv_iload hx hb dX3_goesTake_69 (lv_at hl 0 rfl) ?_
        refine lv_iconst (v := -1) hx hb dX3_goesTake_71 (by decide) ?_
        refine lv_icmp_ne (tgt := 89) hx hb dX3_goesTake_72 (by decide) (fun c0 => ?_) (fun c0 => ?_)
        · have h := (if_neg c0).symm.trans h
          refine lv_aload_n hx hb dX3_goesTake_89 rfl (lv_at hl 1 rfl) ?_
          refine va_get (D := (dC, dI)) (ci := 7) (v := .ref a_t_many) (C := RX3) (T := TX3) (N := 3) hx hb hta inX3w hown hK (rk hR0 hNA hS) 0 rfl rfl 1 (by decide) (hta _ lk_X3_15) (fun _ h9 => h9) rfl dX3_goesTake_90 ?_
          refine lv_iload hx hb dX3_goesTake_93 (lv_at hl 0 rfl) ?_
          obtain ⟨hc, h⟩ := gc_some h
          refine va_iald hx hb hK hP 0 0 rfl rfl (inb_in hc) dX3_goesTake_95 ?_
          refine lv_i2l hx hb dX3_goesTake_96 rfl ?_
          exact wB_97 ((t_many r1.toNatClampNeg).toInt64) _ _ _ h hP hD hS (lv_sub hl [] rfl)
        · have h := (if_pos c0).symm.trans h
          refine lv_aload_n hx hb dX3_goesTake_75 rfl (lv_at hl 3 rfl) ?_
          refine va_get (D := (dC, dI)) (ci := 4) (v := .ref a_p2_contents) (C := RX0) (T := TX0) (N := 11) hx hb hta inX0w hown hK (rk hR0 hNA hS) 2 rfl rfl 4 (by decide) (hta _ lk_X3_82) (fun _ h9 => h9) rfl dX3_goesTake_76 ?_
          refine va_get (D := (dC, dI)) (ci := 5) (v := .ref a_p2_contents_many) (C := RX1) (T := TX1) (N := 2) hx hb hta inX1w hown hK (rk hR0 hNA hS) 6 rfl rfl 0 (by decide) (hta _ lk_X3_89) (fun _ h9 => h9) rfl dX3_goesTake_79 ?_
          refine lv_iload hx hb dX3_goesTake_82 (lv_at hl 5 rfl) ?_
          obtain ⟨hc, h⟩ := gc_some h
          refine va_iald hx hb hK (rk hR0 hNA hS) 7 0 rfl rfl (inb_in hc) dX3_goesTake_84 ?_
          refine lv_i2l hx hb dX3_goesTake_85 rfl ?_
          refine lv_goto (tgt := 97) hx hb dX3_goesTake_86 (by decide) ?_
          exact wB_97 ((p2_contents_many p4.toNatClampNeg).toInt64) _ _ _ h hP hD hS (lv_sub hl [] rfl)
      · have h := (if_neg c0).symm.trans h
        refine lv_aload_n hx hb dX3_goesTake_35 rfl (lv_at hl 1 rfl) ?_
        refine lv_iload_n hx hb dX3_goesTake_36 rfl (lv_at hl 4 rfl) ?_
        refine lv_iload hx hb dX3_goesTake_37 (lv_at hl 0 rfl) ?_
        refine lv_iconst (v := -1) hx hb dX3_goesTake_39 (by decide) ?_
        refine lv_icmp_ne (tgt := 56) hx hb dX3_goesTake_40 (by decide) (fun c0 => ?_) (fun c0 => ?_)
        · have h := (if_neg c0).symm.trans h
          refine lv_aload_n hx hb dX3_goesTake_56 rfl (lv_at hl 1 rfl) ?_
          refine va_get (D := (dC, dI)) (ci := 7) (v := .ref a_t_much) (C := RX3) (T := TX3) (N := 3) hx hb hta inX3w hown hK (rk hR0 hNA hS) 0 rfl rfl 2 (by decide) (hta _ lk_X3_19) (fun _ h9 => h9) rfl dX3_goesTake_57 ?_
          refine lv_iload hx hb dX3_goesTake_60 (lv_at hl 0 rfl) ?_
          obtain ⟨hc, h⟩ := gc_some h
          refine va_fald hx hb hK hP 1 4 rfl rfl (inb_in hc) dX3_goesTake_62 ?_
          exact wB_63 (t_much r1.toNatClampNeg) _ _ _ h hP hD hS (lv_sub hl [] rfl)
        · have h := (if_pos c0).symm.trans h
          refine lv_aload_n hx hb dX3_goesTake_43 rfl (lv_at hl 3 rfl) ?_
          refine va_get (D := (dC, dI)) (ci := 4) (v := .ref a_p2_contents) (C := RX0) (T := TX0) (N := 11) hx hb hta inX0w hown hK (rk hR0 hNA hS) 2 rfl rfl 4 (by decide) (hta _ lk_X3_82) (fun _ h9 => h9) rfl dX3_goesTake_44 ?_
          refine va_get (D := (dC, dI)) (ci := 5) (v := .ref a_p2_contents_much) (C := RX1) (T := TX1) (N := 2) hx hb hta inX1w hown hK (rk hR0 hNA hS) 6 rfl rfl 1 (by decide) (hta _ lk_X3_86) (fun _ h9 => h9) rfl dX3_goesTake_47 ?_
          refine lv_iload hx hb dX3_goesTake_50 (lv_at hl 5 rfl) ?_
          obtain ⟨hc, h⟩ := gc_some h
          refine va_fald hx hb hK (rk hR0 hNA hS) 8 4 rfl rfl (inb_in hc) dX3_goesTake_52 ?_
          refine lv_goto (tgt := 63) hx hb dX3_goesTake_53 (by decide) ?_
          exact wB_63 (p2_contents_much p4.toNatClampNeg) _ _ _ h hP hD hS (lv_sub hl [] rfl)
    · have h := (if_neg c0).symm.trans h
      refine lv_iconst (v := 0) hx hb dX3_goesTake_12 (by decide) ?_
      have ho := Option.some.inj h
      rw [hQ]
      exact W.zret (ty := .boolean) (v := 0) hx hb hr rfl (fun t ht hW => ⟨⟨0, (), rfl, by rw [← ho], by show va_P (dC, dI) vwCl _ t.heap; rw [ht, ← ho]; exact hP⟩, hS.F ht⟩) hS.2.2 dX3_goesTake_13
set_option maxHeartbeats 4000000 in
set_option maxRecDepth 100000 in
theorem c_X3_goesCast (l : Launch) (dC : Nat → ClassId) (dI : Nat → Nat → Nat) (cT : Nat → ClassId) {Hh : Heap} {a_t : Nat} {a_t_isBroth : Nat} {a_t_much : Nat} {a_t_many : Nat} {t_isBroth : Nat → Int32} {t_much : Nat → UInt32} {t_many : Nat → Int32} {p1 : Int32} {p2 : Int32} {p3 : Int32} {o : Int32 × (Nat → Int32) × (Nat → UInt32) × (Nat → Int32)} (h : g_X3_goesCast t_isBroth t_much t_many p1 p2 p3 = some o) (hP0 : va_P (dC, dI) vwCl [(a_t_isBroth, .inl (cT 1, 24, .inl t_isBroth)), (a_t_much, .inl (cT 4, 24, .inr (.inr (.inl t_much)))), (a_t_many, .inl (cT 0, 24, .inl t_many))] Hh) (hR0 : va_P (dC, dI) vwCl [(a_t, .inr (7, [.ref a_t_isBroth, .ref a_t_many, .ref a_t_much]))] Hh) (hD0 : va_D (fun _ => True) [(a_t_isBroth, .inl (cT 1, 24, .inl t_isBroth)), (a_t_much, .inl (cT 4, 24, .inr (.inr (.inl t_much)))), (a_t_many, .inl (cT 0, 24, .inl t_many))]) (hN0 : ∀ (k : Nat) (q : Nat × va_E), ([(a_t, .inr (7, [.ref a_t_isBroth, .ref a_t_many, .ref a_t_much]))] : va_W)[k]? = some q → ¬ va_A [(a_t_isBroth, .inl (cT 1, 24, .inl t_isBroth)), (a_t_much, .inl (cT 4, 24, .inr (.inr (.inl t_much)))), (a_t_many, .inl (cT 0, 24, .inl t_many))] Hh.size q.1) : Met l yX3_goesCast (wA yX3_goesCast cX3_goesCast 4 (some .boolean)) ({ frames := 2, cells := 0, slots := 0, locals := 44 } : Room) (PK dC dI cT [.ref a_t, .int p1, .int p2, .int p3] Hh) (va_Qi (fun x (_ : Unit) => x = o.1) (fun _ t => va_P (dC, dI) vwCl [(a_t_isBroth, .inl (cT 1, 24, .inl o.2.1)), (a_t_much, .inl (cT 4, 24, .inr (.inr (.inl o.2.2.1)))), (a_t_many, .inl (cT 0, 24, .inl o.2.2.2))] t.heap) (va_A [(a_t_isBroth, .inl (cT 1, 24, .inl t_isBroth)), (a_t_much, .inl (cT 4, 24, .inr (.inr (.inl t_much)))), (a_t_many, .inl (cT 0, 24, .inl t_many))] Hh.size)) 0 0 (va_A [(a_t_isBroth, .inl (cT 1, 24, .inl t_isBroth)), (a_t_much, .inl (cT 4, 24, .inr (.inr (.inl t_much)))), (a_t_many, .inl (cT 0, 24, .inl t_many))] Hh.size) := by
  refine Met.ofW (cc := cX3_goesCast) (maxL := 4) (ret := (some .boolean)) (by decide) rfl ?_
  intro p e s m args below meth c s₁ B hml hv
  obtain ⟨rfl, hH, hK⟩ := hv
  subst hH
  have hx := B.exec
  have hb := B.bytes
  have hr := B.returns
  have hta : ∀ w ∈ ALLW, w.before [.ref a_t, .int p1, .int p2, .int p3].toArray s = true := fun w hw => atoms_spec (ws := wA yX3_goesCast cX3_goesCast 4 (some .boolean)) B.pre w (List.mem_cons_of_mem _ hw)
  have hown : s.vm.findClass RX3 = some m.cls := findClass_of_methodNamed B.named
  have hlocks := B.notSynchronized
  have hD := hD0.self (sz := s.heap.size)
  have hNA := hN0
  generalize hAe : va_A [(a_t_isBroth, .inl (cT 1, 24, .inl t_isBroth)), (a_t_much, .inl (cT 4, 24, .inr (.inr (.inl t_much)))), (a_t_many, .inl (cT 0, 24, .inl t_many))] s.heap.size = A at hD hNA ⊢
  have hP := hP0
  have hA : ∀ q : Nat, s.heap.size ≤ q → A q := fun q h => by rw [← hAe]; exact Or.inr h
  have hS : va_S A s.heap s.heap [] := va_S.rf
  have hl := lv_entry [.ref a_t, .int p1, .int p2, .int p3] (n := 4) (Nat.le_of_ble_eq_true rfl)
  rw [lg_entry_eq]
  generalize (lg_sl [.ref a_t, .int p1, .int p2, .int p3] ++ List.replicate (4 - (lg_sl [.ref a_t, .int p1, .int p2, .int p3]).length) Slot.unset).toArray = ls at hl ⊢
  have hl : lv_has ls 4 [(0, .ref a_t), (1, .int p1), (2, .int p2), (3, .int p3)] := hl
  unfold g_X3_goesCast at h
  refine lv_aload_n hx hb dX3_goesCast_0 rfl (lv_at hl 0 rfl) ?_
  refine va_get (D := (dC, dI)) (ci := 7) (v := .ref a_t_isBroth) (C := RX3) (T := TX3) (N := 3) hx hb hta inX3w hown hK (rk hR0 hNA hS) 0 rfl rfl 0 (by decide) (hta _ lk_X3_9) (fun _ h9 => h9) rfl dX3_goesCast_1 ?_
  refine lv_iload_n hx hb dX3_goesCast_4 rfl (lv_at hl 2 rfl) ?_
  obtain ⟨hc, h⟩ := gc_some h
  refine va_zald hx hb hK hP 0 1 rfl rfl (inb_in hc) dX3_goesCast_5 ?_
  refine lv_iload_n hx hb dX3_goesCast_6 rfl (lv_at hl 3 rfl) ?_
  refine lv_icmp_ne (tgt := 12) hx hb dX3_goesCast_7 (by decide) (fun c0 => ?_) (fun c0 => ?_)
  · have h := (if_neg c0).symm.trans h
    refine lv_iload_n hx hb dX3_goesCast_12 rfl (lv_at hl 3 rfl) ?_
    refine lv_if_eq (tgt := 33) hx hb dX3_goesCast_13 (by decide) (fun c0 => ?_) (fun c0 => ?_)
    · have h := (if_pos c0).symm.trans h
      refine lv_aload_n hx hb dX3_goesCast_33 rfl (lv_at hl 0 rfl) ?_
      refine lv_iload_n hx hb dX3_goesCast_34 rfl (lv_at hl 1 rfl) ?_
      refine lv_aload_n hx hb dX3_goesCast_35 rfl (lv_at hl 0 rfl) ?_
      refine va_get (D := (dC, dI)) (ci := 7) (v := .ref a_t_much) (C := RX3) (T := TX3) (N := 3) hx hb hta inX3w hown hK (rk hR0 hNA hS) 0 rfl rfl 2 (by decide) (hta _ lk_X3_19) (fun _ h9 => h9) rfl dX3_goesCast_36 ?_
      refine lv_iload_n hx hb dX3_goesCast_39 rfl (lv_at hl 2 rfl) ?_
      obtain ⟨hc, h⟩ := gc_some h
      refine va_fald hx hb hK hP 1 4 rfl rfl (inb_in hc) dX3_goesCast_40 ?_
      obtain ⟨r1, hq, h⟩ := gb_some h
      refine crI (va_runS (As := [.float (t_much p2.toNatClampNeg)]) (rest := [.int p1, .ref a_t]) ⟨hx, hb, hml, hown, hta⟩ (c_X5_toDrams l dC dI cT hq) (cS hta lm_X3_96 md_X5_toDrams ⟨(Nat.le_of_ble_eq_true rfl), (Nat.le_of_ble_eq_true rfl)⟩) ⟨fbK, fun U hU hW => ⟨rfl, hU, va_K.moved hW.alike hK⟩⟩ rfl rfl hl.1 rfl (lv_room (Nat.le_of_ble_eq_true rfl)) dX3_goesCast_41 ⟨(Nat.le_of_ble_eq_true rfl), (Nat.le_of_ble_eq_true rfl)⟩) hS hA (fun locs hS => ?_)
      refine lv_i2l hx hb dX3_goesCast_44 rfl ?_
      obtain ⟨r2, hq, h⟩ := gb_some h
      refine cxI (X2 := [(a_t_isBroth, .inl (cT 1, 24, .inl r2.2.1)), (a_t_much, .inl (cT 4, 24, .inr (.inr (.inl t_much)))), (a_t_many, .inl (cT 0, 24, .inl r2.2.2))]) (va_runV (As := [.int p1, .long r1.toInt64]) (rest := []) ⟨hx, hb, hml, hown, hta⟩ (c_X3_givesDrams l dC dI cT hq (hP.sub (ws' := [(a_t_isBroth, .inl (cT 1, 24, .inl t_isBroth)), (a_t_many, .inl (cT 0, 24, .inl t_many))]) [0, 2] rfl) ((va_P.app hP (rk hR0 hNA hS)).sub (ws' := [(a_t, .inr (7, [.ref a_t_isBroth, .ref a_t_many, .ref a_t_much]))]) [3] rfl) (ds hD [0, 2] (by decide) rfl) (nac hP hD [0, 2] rfl (va_free hD hS hA [0, 2] rfl) hNA [.inl 0] rfl rfl)) (cV hta lm_X3_61 md_X3_givesDrams ⟨(Nat.le_of_ble_eq_true rfl), (Nat.le_of_ble_eq_true rfl)⟩) ⟨fbK, va_recv hK (rk hR0 hNA hS) (ci := 7) (q0 := 0) rfl rfl, fun U hU hW => ⟨rfl, hU, va_K.moved hW.alike hK⟩⟩ rfl rfl hl.1 rfl (lv_room (Nat.le_of_ble_eq_true rfl)) dX3_goesCast_45 ⟨(Nat.le_of_ble_eq_true rfl), (Nat.le_of_ble_eq_true rfl)⟩) hS hA hP hD [0, 2] rfl [.inl 0, .inr 1, .inl 1] rfl rfl rfl (fun H locs hP hD hS => ?_)
      obtain ⟨hc, h⟩ := gc_some h
      have ho := Option.some.inj h
      exact W.zret (ty := .boolean) (v := r2.1) hx hb hr (bo_n hc) (fun t ht hW => ⟨⟨r2.1, (), rfl, by rw [← ho], by show va_P (dC, dI) vwCl _ t.heap; rw [ht, ← ho]; exact hP⟩, hS.F ht⟩) hS.2.2 dX3_goesCast_48
    · have h := (if_neg c0).symm.trans h
      refine lv_aload_n hx hb dX3_goesCast_16 rfl (lv_at hl 0 rfl) ?_
      refine lv_iload_n hx hb dX3_goesCast_17 rfl (lv_at hl 1 rfl) ?_
      refine lv_aload_n hx hb dX3_goesCast_18 rfl (lv_at hl 0 rfl) ?_
      refine va_get (D := (dC, dI)) (ci := 7) (v := .ref a_t_many) (C := RX3) (T := TX3) (N := 3) hx hb hta inX3w hown hK (rk hR0 hNA hS) 0 rfl rfl 1 (by decide) (hta _ lk_X3_15) (fun _ h9 => h9) rfl dX3_goesCast_19 ?_
      refine lv_iload_n hx hb dX3_goesCast_22 rfl (lv_at hl 2 rfl) ?_
      obtain ⟨hc, h⟩ := gc_some h
      refine va_iald hx hb hK hP 2 0 rfl rfl (inb_in hc) dX3_goesCast_23 ?_
      obtain ⟨r3, hq, h⟩ := gb_some h
      refine crF (va_runS (As := [.int (t_many p2.toNatClampNeg)]) (rest := [.int p1, .ref a_t]) ⟨hx, hb, hml, hown, hta⟩ (c_X5_toBroth l dC dI cT hq) (cS hta lm_X3_90 md_X5_toBroth ⟨(Nat.le_of_ble_eq_true rfl), (Nat.le_of_ble_eq_true rfl)⟩) ⟨fbK, fun U hU hW => ⟨rfl, hU, va_K.moved hW.alike hK⟩⟩ rfl rfl hl.1 rfl (lv_room (Nat.le_of_ble_eq_true rfl)) dX3_goesCast_24 ⟨(Nat.le_of_ble_eq_true rfl), (Nat.le_of_ble_eq_true rfl)⟩) hS hA (fun locs hS => ?_)
      obtain ⟨r4, hq, h⟩ := gb_some h
      refine cxI (X2 := [(a_t_isBroth, .inl (cT 1, 24, .inl r4.2.1)), (a_t_much, .inl (cT 4, 24, .inr (.inr (.inl r4.2.2)))), (a_t_many, .inl (cT 0, 24, .inl t_many))]) (va_runV (As := [.int p1, .float r3]) (rest := []) ⟨hx, hb, hml, hown, hta⟩ (c_X3_givesBroth l dC dI cT hq (hP.sub (ws' := [(a_t_isBroth, .inl (cT 1, 24, .inl t_isBroth)), (a_t_much, .inl (cT 4, 24, .inr (.inr (.inl t_much))))]) [0, 1] rfl) ((va_P.app hP (rk hR0 hNA hS)).sub (ws' := [(a_t, .inr (7, [.ref a_t_isBroth, .ref a_t_many, .ref a_t_much]))]) [3] rfl) (ds hD [0, 1] (by decide) rfl) (nac hP hD [0, 1] rfl (va_free hD hS hA [0, 1] rfl) hNA [.inl 0] rfl rfl)) (cV hta lm_X3_57 md_X3_givesBroth ⟨(Nat.le_of_ble_eq_true rfl), (Nat.le_of_ble_eq_true rfl)⟩) ⟨fbK, va_recv hK (rk hR0 hNA hS) (ci := 7) (q0 := 0) rfl rfl, fun U hU hW => ⟨rfl, hU, va_K.moved hW.alike hK⟩⟩ rfl rfl hl.1 rfl (lv_room (Nat.le_of_ble_eq_true rfl)) dX3_goesCast_27 ⟨(Nat.le_of_ble_eq_true rfl), (Nat.le_of_ble_eq_true rfl)⟩) hS hA hP hD [0, 1] rfl [.inl 0, .inl 1, .inr 2] rfl rfl rfl (fun H locs hP hD hS => ?_)
      refine lv_goto (tgt := 48) hx hb dX3_goesCast_30 (by decide) ?_
      obtain ⟨hc, h⟩ := gc_some h
      have ho := Option.some.inj h
      exact W.zret (ty := .boolean) (v := r4.1) hx hb hr (bo_n hc) (fun t ht hW => ⟨⟨r4.1, (), rfl, by rw [← ho], by show va_P (dC, dI) vwCl _ t.heap; rw [ht, ← ho]; exact hP⟩, hS.F ht⟩) hS.2.2 dX3_goesCast_48
  · have h := (if_pos c0).symm.trans h
    refine lv_iconst (v := 0) hx hb dX3_goesCast_10 (by decide) ?_
    have ho := Option.some.inj h
    exact W.zret (ty := .boolean) (v := 0) hx hb hr rfl (fun t ht hW => ⟨⟨0, (), rfl, by rw [← ho], by show va_P (dC, dI) vwCl _ t.heap; rw [ht, ← ho]; exact hP⟩, hS.F ht⟩) hS.2.2 dX3_goesCast_11
set_option maxHeartbeats 4000000 in
set_option maxRecDepth 100000 in
theorem c_X3_goesReckoning (l : Launch) (dC : Nat → ClassId) (dI : Nat → Nat → Nat) (cT : Nat → ClassId) {Hh : Heap} {a_t : Nat} {a_t_isBroth : Nat} {a_t_many : Nat} {a_t_much : Nat} {t_isBroth : Nat → Int32} {t_many : Nat → Int32} {t_much : Nat → UInt32} {p1 : Int32} {p2 : Int32} {p3 : Int32} {p4 : Int32} {o : Int32 × (Nat → Int32) × (Nat → Int32) × (Nat → UInt32)} (h : g_X3_goesReckoning t_isBroth t_many t_much p1 p2 p3 p4 = some o) (hP0 : va_P (dC, dI) vwCl [(a_t_isBroth, .inl (cT 1, 24, .inl t_isBroth)), (a_t_many, .inl (cT 0, 24, .inl t_many)), (a_t_much, .inl (cT 4, 24, .inr (.inr (.inl t_much))))] Hh) (hR0 : va_P (dC, dI) vwCl [(a_t, .inr (7, [.ref a_t_isBroth, .ref a_t_many, .ref a_t_much]))] Hh) (hD0 : va_D (fun _ => True) [(a_t_isBroth, .inl (cT 1, 24, .inl t_isBroth)), (a_t_many, .inl (cT 0, 24, .inl t_many)), (a_t_much, .inl (cT 4, 24, .inr (.inr (.inl t_much))))]) (hN0 : ∀ (k : Nat) (q : Nat × va_E), ([(a_t, .inr (7, [.ref a_t_isBroth, .ref a_t_many, .ref a_t_much]))] : va_W)[k]? = some q → ¬ va_A [(a_t_isBroth, .inl (cT 1, 24, .inl t_isBroth)), (a_t_many, .inl (cT 0, 24, .inl t_many)), (a_t_much, .inl (cT 4, 24, .inr (.inr (.inl t_much))))] Hh.size q.1) : Met l yX3_goesReckoning (wA yX3_goesReckoning cX3_goesReckoning 5 (some .boolean)) ({ frames := 2, cells := 0, slots := 0, locals := 44 } : Room) (PK dC dI cT [.ref a_t, .int p1, .int p2, .int p3, .int p4] Hh) (va_Qi (fun x (_ : Unit) => x = o.1) (fun _ t => va_P (dC, dI) vwCl [(a_t_isBroth, .inl (cT 1, 24, .inl o.2.1)), (a_t_many, .inl (cT 0, 24, .inl o.2.2.1)), (a_t_much, .inl (cT 4, 24, .inr (.inr (.inl o.2.2.2))))] t.heap) (va_A [(a_t_isBroth, .inl (cT 1, 24, .inl t_isBroth)), (a_t_many, .inl (cT 0, 24, .inl t_many)), (a_t_much, .inl (cT 4, 24, .inr (.inr (.inl t_much))))] Hh.size)) 0 0 (va_A [(a_t_isBroth, .inl (cT 1, 24, .inl t_isBroth)), (a_t_many, .inl (cT 0, 24, .inl t_many)), (a_t_much, .inl (cT 4, 24, .inr (.inr (.inl t_much))))] Hh.size) := by
  refine Met.ofW (cc := cX3_goesReckoning) (maxL := 5) (ret := (some .boolean)) (by decide) rfl ?_
  intro p e s m args below meth c s₁ B hml hv
  obtain ⟨rfl, hH, hK⟩ := hv
  subst hH
  have hx := B.exec
  have hb := B.bytes
  have hr := B.returns
  have hta : ∀ w ∈ ALLW, w.before [.ref a_t, .int p1, .int p2, .int p3, .int p4].toArray s = true := fun w hw => atoms_spec (ws := wA yX3_goesReckoning cX3_goesReckoning 5 (some .boolean)) B.pre w (List.mem_cons_of_mem _ hw)
  have hown : s.vm.findClass RX3 = some m.cls := findClass_of_methodNamed B.named
  have hlocks := B.notSynchronized
  have hD := hD0.self (sz := s.heap.size)
  have hNA := hN0
  generalize hAe : va_A [(a_t_isBroth, .inl (cT 1, 24, .inl t_isBroth)), (a_t_many, .inl (cT 0, 24, .inl t_many)), (a_t_much, .inl (cT 4, 24, .inr (.inr (.inl t_much))))] s.heap.size = A at hD hNA ⊢
  have hP := hP0
  have hA : ∀ q : Nat, s.heap.size ≤ q → A q := fun q h => by rw [← hAe]; exact Or.inr h
  have hS : va_S A s.heap s.heap [] := va_S.rf
  have hl := lv_entry [.ref a_t, .int p1, .int p2, .int p3, .int p4] (n := 5) (Nat.le_of_ble_eq_true rfl)
  rw [lg_entry_eq]
  generalize (lg_sl [.ref a_t, .int p1, .int p2, .int p3, .int p4] ++ List.replicate (5 - (lg_sl [.ref a_t, .int p1, .int p2, .int p3, .int p4]).length) Slot.unset).toArray = ls at hl ⊢
  have hl : lv_has ls 5 [(0, .ref a_t), (1, .int p1), (2, .int p2), (3, .int p3), (4, .int p4)] := hl
  unfold g_X3_goesReckoning at h
  refine lv_aload_n hx hb dX3_goesReckoning_0 rfl (lv_at hl 0 rfl) ?_
  refine va_get (D := (dC, dI)) (ci := 7) (v := .ref a_t_isBroth) (C := RX3) (T := TX3) (N := 3) hx hb hta inX3w hown hK (rk hR0 hNA hS) 0 rfl rfl 0 (by decide) (hta _ lk_X3_9) (fun _ h9 => h9) rfl dX3_goesReckoning_1 ?_
  refine lv_iload_n hx hb dX3_goesReckoning_4 rfl (lv_at hl 3 rfl) ?_
  obtain ⟨hc, h⟩ := gc_some h
  refine va_zald hx hb hK hP 0 1 rfl rfl (inb_in hc) dX3_goesReckoning_5 ?_
  refine lv_aload_n hx hb dX3_goesReckoning_6 rfl (lv_at hl 0 rfl) ?_
  refine va_get (D := (dC, dI)) (ci := 7) (v := .ref a_t_isBroth) (C := RX3) (T := TX3) (N := 3) hx hb hta inX3w hown hK (rk hR0 hNA hS) 0 rfl rfl 0 (by decide) (hta _ lk_X3_9) (fun _ h9 => h9) rfl dX3_goesReckoning_7 ?_
  refine lv_iload hx hb dX3_goesReckoning_10 (lv_at hl 4 rfl) ?_
  obtain ⟨hc, h⟩ := gc_some h
  refine va_zald hx hb hK hP 0 1 rfl rfl (inb_in hc) dX3_goesReckoning_12 ?_
  refine lv_icmp_eq (tgt := 18) hx hb dX3_goesReckoning_13 (by decide) (fun c0 => ?_) (fun c0 => ?_)
  · have h := (if_pos c0).symm.trans h
    refine lv_aload_n hx hb dX3_goesReckoning_18 rfl (lv_at hl 0 rfl) ?_
    refine va_get (D := (dC, dI)) (ci := 7) (v := .ref a_t_isBroth) (C := RX3) (T := TX3) (N := 3) hx hb hta inX3w hown hK (rk hR0 hNA hS) 0 rfl rfl 0 (by decide) (hta _ lk_X3_9) (fun _ h9 => h9) rfl dX3_goesReckoning_19 ?_
    refine lv_iload_n hx hb dX3_goesReckoning_22 rfl (lv_at hl 3 rfl) ?_
    obtain ⟨hc, h⟩ := gc_some h
    refine va_zald hx hb hK hP 0 1 rfl rfl (inb_in hc) dX3_goesReckoning_23 ?_
    refine lv_if_eq (tgt := 50) hx hb dX3_goesReckoning_24 (by decide) (fun c0 => ?_) (fun c0 => ?_)
    · have h := (if_pos c0).symm.trans h
      refine lv_aload_n hx hb dX3_goesReckoning_50 rfl (lv_at hl 0 rfl) ?_
      refine lv_iload_n hx hb dX3_goesReckoning_51 rfl (lv_at hl 2 rfl) ?_
      refine lv_iload_n hx hb dX3_goesReckoning_52 rfl (lv_at hl 1 rfl) ?_
      refine lv_aload_n hx hb dX3_goesReckoning_53 rfl (lv_at hl 0 rfl) ?_
      refine va_get (D := (dC, dI)) (ci := 7) (v := .ref a_t_many) (C := RX3) (T := TX3) (N := 3) hx hb hta inX3w hown hK (rk hR0 hNA hS) 0 rfl rfl 1 (by decide) (hta _ lk_X3_15) (fun _ h9 => h9) rfl dX3_goesReckoning_54 ?_
      refine lv_iload_n hx hb dX3_goesReckoning_57 rfl (lv_at hl 3 rfl) ?_
      obtain ⟨hc, h⟩ := gc_some h
      refine va_iald hx hb hK hP 1 0 rfl rfl (inb_in hc) dX3_goesReckoning_58 ?_
      refine lv_i2l hx hb dX3_goesReckoning_59 rfl ?_
      refine lv_aload_n hx hb dX3_goesReckoning_60 rfl (lv_at hl 0 rfl) ?_
      refine va_get (D := (dC, dI)) (ci := 7) (v := .ref a_t_many) (C := RX3) (T := TX3) (N := 3) hx hb hta inX3w hown hK (rk hR0 hNA hS) 0 rfl rfl 1 (by decide) (hta _ lk_X3_15) (fun _ h9 => h9) rfl dX3_goesReckoning_61 ?_
      refine lv_iload hx hb dX3_goesReckoning_64 (lv_at hl 4 rfl) ?_
      obtain ⟨hc, h⟩ := gc_some h
      refine va_iald hx hb hK hP 1 0 rfl rfl (inb_in hc) dX3_goesReckoning_66 ?_
      refine lv_i2l hx hb dX3_goesReckoning_67 rfl ?_
      obtain ⟨r1, hq, h⟩ := gb_some h
      refine crL (va_runS (As := [.int p1, .long ((t_many p3.toNatClampNeg).toInt64), .long ((t_many p4.toNatClampNeg).toInt64)]) (rest := [.int p2, .ref a_t]) ⟨hx, hb, hml, hown, hta⟩ (c_X5_ofDrams l dC dI cT hq) (cS hta lm_X3_104 md_X5_ofDrams ⟨(Nat.le_of_ble_eq_true rfl), (Nat.le_of_ble_eq_true rfl)⟩) ⟨fbK, fun U hU hW => ⟨rfl, hU, va_K.moved hW.alike hK⟩⟩ rfl rfl hl.1 rfl (lv_room (Nat.le_of_ble_eq_true rfl)) dX3_goesReckoning_68 ⟨(Nat.le_of_ble_eq_true rfl), (Nat.le_of_ble_eq_true rfl)⟩) hS hA (fun locs hS => ?_)
      obtain ⟨r2, hq, h⟩ := gb_some h
      refine cxI (X2 := [(a_t_isBroth, .inl (cT 1, 24, .inl r2.2.1)), (a_t_many, .inl (cT 0, 24, .inl r2.2.2)), (a_t_much, .inl (cT 4, 24, .inr (.inr (.inl t_much))))]) (va_runV (As := [.int p2, .long r1]) (rest := []) ⟨hx, hb, hml, hown, hta⟩ (c_X3_givesDrams l dC dI cT hq (hP.sub (ws' := [(a_t_isBroth, .inl (cT 1, 24, .inl t_isBroth)), (a_t_many, .inl (cT 0, 24, .inl t_many))]) [0, 1] rfl) ((va_P.app hP (rk hR0 hNA hS)).sub (ws' := [(a_t, .inr (7, [.ref a_t_isBroth, .ref a_t_many, .ref a_t_much]))]) [3] rfl) (ds hD [0, 1] (by decide) rfl) (nac hP hD [0, 1] rfl (va_free hD hS hA [0, 1] rfl) hNA [.inl 0] rfl rfl)) (cV hta lm_X3_61 md_X3_givesDrams ⟨(Nat.le_of_ble_eq_true rfl), (Nat.le_of_ble_eq_true rfl)⟩) ⟨fbK, va_recv hK (rk hR0 hNA hS) (ci := 7) (q0 := 0) rfl rfl, fun U hU hW => ⟨rfl, hU, va_K.moved hW.alike hK⟩⟩ rfl rfl hl.1 rfl (lv_room (Nat.le_of_ble_eq_true rfl)) dX3_goesReckoning_71 ⟨(Nat.le_of_ble_eq_true rfl), (Nat.le_of_ble_eq_true rfl)⟩) hS hA hP hD [0, 1] rfl [.inl 0, .inl 1, .inr 2] rfl rfl rfl (fun H locs hP hD hS => ?_)
      obtain ⟨hc, h⟩ := gc_some h
      have ho := Option.some.inj h
      exact W.zret (ty := .boolean) (v := r2.1) hx hb hr (bo_n hc) (fun t ht hW => ⟨⟨r2.1, (), rfl, by rw [← ho], by show va_P (dC, dI) vwCl _ t.heap; rw [ht, ← ho]; exact hP⟩, hS.F ht⟩) hS.2.2 dX3_goesReckoning_74
    · have h := (if_neg c0).symm.trans h
      refine lv_aload_n hx hb dX3_goesReckoning_27 rfl (lv_at hl 0 rfl) ?_
      refine lv_iload_n hx hb dX3_goesReckoning_28 rfl (lv_at hl 2 rfl) ?_
      refine lv_iload_n hx hb dX3_goesReckoning_29 rfl (lv_at hl 1 rfl) ?_
      refine lv_aload_n hx hb dX3_goesReckoning_30 rfl (lv_at hl 0 rfl) ?_
      refine va_get (D := (dC, dI)) (ci := 7) (v := .ref a_t_much) (C := RX3) (T := TX3) (N := 3) hx hb hta inX3w hown hK (rk hR0 hNA hS) 0 rfl rfl 2 (by decide) (hta _ lk_X3_19) (fun _ h9 => h9) rfl dX3_goesReckoning_31 ?_
      refine lv_iload_n hx hb dX3_goesReckoning_34 rfl (lv_at hl 3 rfl) ?_
      obtain ⟨hc, h⟩ := gc_some h
      refine va_fald hx hb hK hP 2 4 rfl rfl (inb_in hc) dX3_goesReckoning_35 ?_
      refine lv_aload_n hx hb dX3_goesReckoning_36 rfl (lv_at hl 0 rfl) ?_
      refine va_get (D := (dC, dI)) (ci := 7) (v := .ref a_t_much) (C := RX3) (T := TX3) (N := 3) hx hb hta inX3w hown hK (rk hR0 hNA hS) 0 rfl rfl 2 (by decide) (hta _ lk_X3_19) (fun _ h9 => h9) rfl dX3_goesReckoning_37 ?_
      refine lv_iload hx hb dX3_goesReckoning_40 (lv_at hl 4 rfl) ?_
      obtain ⟨hc, h⟩ := gc_some h
      refine va_fald hx hb hK hP 2 4 rfl rfl (inb_in hc) dX3_goesReckoning_42 ?_
      obtain ⟨r3, hq, h⟩ := gb_some h
      refine crF (va_runS (As := [.int p1, .float (t_much p3.toNatClampNeg), .float (t_much p4.toNatClampNeg)]) (rest := [.int p2, .ref a_t]) ⟨hx, hb, hml, hown, hta⟩ (c_X5_ofBroth l dC dI cT hq) (cS hta lm_X3_100 md_X5_ofBroth ⟨(Nat.le_of_ble_eq_true rfl), (Nat.le_of_ble_eq_true rfl)⟩) ⟨fbK, fun U hU hW => ⟨rfl, hU, va_K.moved hW.alike hK⟩⟩ rfl rfl hl.1 rfl (lv_room (Nat.le_of_ble_eq_true rfl)) dX3_goesReckoning_43 ⟨(Nat.le_of_ble_eq_true rfl), (Nat.le_of_ble_eq_true rfl)⟩) hS hA (fun locs hS => ?_)
      obtain ⟨r4, hq, h⟩ := gb_some h
      refine cxI (X2 := [(a_t_isBroth, .inl (cT 1, 24, .inl r4.2.1)), (a_t_many, .inl (cT 0, 24, .inl t_many)), (a_t_much, .inl (cT 4, 24, .inr (.inr (.inl r4.2.2))))]) (va_runV (As := [.int p2, .float r3]) (rest := []) ⟨hx, hb, hml, hown, hta⟩ (c_X3_givesBroth l dC dI cT hq (hP.sub (ws' := [(a_t_isBroth, .inl (cT 1, 24, .inl t_isBroth)), (a_t_much, .inl (cT 4, 24, .inr (.inr (.inl t_much))))]) [0, 2] rfl) ((va_P.app hP (rk hR0 hNA hS)).sub (ws' := [(a_t, .inr (7, [.ref a_t_isBroth, .ref a_t_many, .ref a_t_much]))]) [3] rfl) (ds hD [0, 2] (by decide) rfl) (nac hP hD [0, 2] rfl (va_free hD hS hA [0, 2] rfl) hNA [.inl 0] rfl rfl)) (cV hta lm_X3_57 md_X3_givesBroth ⟨(Nat.le_of_ble_eq_true rfl), (Nat.le_of_ble_eq_true rfl)⟩) ⟨fbK, va_recv hK (rk hR0 hNA hS) (ci := 7) (q0 := 0) rfl rfl, fun U hU hW => ⟨rfl, hU, va_K.moved hW.alike hK⟩⟩ rfl rfl hl.1 rfl (lv_room (Nat.le_of_ble_eq_true rfl)) dX3_goesReckoning_46 ⟨(Nat.le_of_ble_eq_true rfl), (Nat.le_of_ble_eq_true rfl)⟩) hS hA hP hD [0, 2] rfl [.inl 0, .inr 1, .inl 1] rfl rfl rfl (fun H locs hP hD hS => ?_)
      obtain ⟨hc, h⟩ := gc_some h
      have ho := Option.some.inj h
      exact W.zret (ty := .boolean) (v := r4.1) hx hb hr (bo_n hc) (fun t ht hW => ⟨⟨r4.1, (), rfl, by rw [← ho], by show va_P (dC, dI) vwCl _ t.heap; rw [ht, ← ho]; exact hP⟩, hS.F ht⟩) hS.2.2 dX3_goesReckoning_49
  · have h := (if_neg c0).symm.trans h
    refine lv_iconst (v := 0) hx hb dX3_goesReckoning_16 (by decide) ?_
    have ho := Option.some.inj h
    exact W.zret (ty := .boolean) (v := 0) hx hb hr rfl (fun t ht hW => ⟨⟨0, (), rfl, by rw [← ho], by show va_P (dC, dI) vwCl _ t.heap; rw [ht, ← ho]; exact hP⟩, hS.F ht⟩) hS.2.2 dX3_goesReckoning_17
set_option maxHeartbeats 4000000 in
set_option maxRecDepth 100000 in
theorem c_X3_goesPart (l : Launch) (dC : Nat → ClassId) (dI : Nat → Nat → Nat) (cT : Nat → ClassId) (n : Nat) : ∀ {Hh : Heap} {a_t : Nat} {a_p1 : Nat} {a_p2 : Nat} {a_p1_kinds : Nat} {a_p1_values : Nat} {a_p1_parts : Nat} {a_t_isBroth : Nat} {a_t_much : Nat} {a_t_many : Nat} {a_p1_lastParts : Nat} {a_p2_isBroth : Nat} {a_p2_contents : Nat} {a_p2_contents_many : Nat} {a_p2_contents_much : Nat} {a_p1_text : Nat} {a_p1_firsts : Nat} {a_p2_low : Nat} {a_p2_high : Nat} {a_p2_storesIn : Nat} {a_p2_texts : Nat} {a_p2_cooked : Nat} {p1_tokens : Int32} {p1_kinds : Nat → Int32} {p1_values : Nat → Int32} {p1_parts : Nat → Int32} {t_isBroth : Nat → Int32} {t_much : Nat → UInt32} {t_many : Nat → Int32} {p1_lastParts : Nat → Int32} {p2_isBroth : Nat → Int32} {p2_contents_many : Nat → Int32} {p2_contents_much : Nat → UInt32} {p3 : Int32} {p4 : Int32} {p1_stores : Int32} {p1_mostSpoons : Int32} {p2_cauldrons : Int32} {p2_spells : Int32} {p2_cookedSoFar : Int32} {p2_storesSoFar : Int32} {o : Int32 × (Nat → Int32) × (Nat → UInt32) × (Nat → Int32)} (h : g_X3_goesPart n p1_tokens p1_kinds p1_values p1_parts t_isBroth t_much t_many p1_lastParts p2_isBroth p2_contents_many p2_contents_much p3 p4 = some o) (hP0 : va_P (dC, dI) vwCl [(a_t_isBroth, .inl (cT 1, 24, .inl t_isBroth)), (a_t_much, .inl (cT 4, 24, .inr (.inr (.inl t_much)))), (a_t_many, .inl (cT 0, 24, .inl t_many))] Hh) (hR0 : va_P (dC, dI) vwCl [(a_t, .inr (7, [.ref a_t_isBroth, .ref a_t_many, .ref a_t_much])), (a_p1, .inr (11, [.ref a_p1_text, .int p1_tokens, .int p1_stores, .int p1_mostSpoons, .ref a_p1_firsts, .ref a_p1_kinds, .ref a_p1_values, .ref a_p1_parts, .ref a_p1_lastParts])), (a_p2, .inr (4, [.int p2_cauldrons, .ref a_p2_isBroth, .ref a_p2_low, .ref a_p2_high, .ref a_p2_contents, .ref a_p2_storesIn, .int p2_spells, .ref a_p2_texts, .ref a_p2_cooked, .int p2_cookedSoFar, .int p2_storesSoFar])), (a_p1_kinds, .inl (cT 0, 24, .inl p1_kinds)), (a_p1_values, .inl (cT 0, 24, .inl p1_values)), (a_p1_parts, .inl (cT 0, 24, .inl p1_parts)), (a_p1_lastParts, .inl (cT 0, 24, .inl p1_lastParts)), (a_p2_isBroth, .inl (cT 1, 6, .inl p2_isBroth)), (a_p2_contents, .inr (5, [.ref a_p2_contents_many, .ref a_p2_contents_much])), (a_p2_contents_many, .inl (cT 0, 6, .inl p2_contents_many)), (a_p2_contents_much, .inl (cT 4, 6, .inr (.inr (.inl p2_contents_much))))] Hh) (hD0 : va_D (fun _ => True) [(a_t_isBroth, .inl (cT 1, 24, .inl t_isBroth)), (a_t_much, .inl (cT 4, 24, .inr (.inr (.inl t_much)))), (a_t_many, .inl (cT 0, 24, .inl t_many))]) (hN0 : ∀ (k : Nat) (q : Nat × va_E), ([(a_t, .inr (7, [.ref a_t_isBroth, .ref a_t_many, .ref a_t_much])), (a_p1, .inr (11, [.ref a_p1_text, .int p1_tokens, .int p1_stores, .int p1_mostSpoons, .ref a_p1_firsts, .ref a_p1_kinds, .ref a_p1_values, .ref a_p1_parts, .ref a_p1_lastParts])), (a_p2, .inr (4, [.int p2_cauldrons, .ref a_p2_isBroth, .ref a_p2_low, .ref a_p2_high, .ref a_p2_contents, .ref a_p2_storesIn, .int p2_spells, .ref a_p2_texts, .ref a_p2_cooked, .int p2_cookedSoFar, .int p2_storesSoFar])), (a_p1_kinds, .inl (cT 0, 24, .inl p1_kinds)), (a_p1_values, .inl (cT 0, 24, .inl p1_values)), (a_p1_parts, .inl (cT 0, 24, .inl p1_parts)), (a_p1_lastParts, .inl (cT 0, 24, .inl p1_lastParts)), (a_p2_isBroth, .inl (cT 1, 6, .inl p2_isBroth)), (a_p2_contents, .inr (5, [.ref a_p2_contents_many, .ref a_p2_contents_much])), (a_p2_contents_many, .inl (cT 0, 6, .inl p2_contents_many)), (a_p2_contents_much, .inl (cT 4, 6, .inr (.inr (.inl p2_contents_much))))] : va_W)[k]? = some q → ¬ va_A [(a_t_isBroth, .inl (cT 1, 24, .inl t_isBroth)), (a_t_much, .inl (cT 4, 24, .inr (.inr (.inl t_much)))), (a_t_many, .inl (cT 0, 24, .inl t_many))] Hh.size q.1), Met l yX3_goesPart (wA yX3_goesPart cX3_goesPart 9 (some .boolean)) ({ frames := n + 3, cells := 0, slots := 0, locals := n * 28 + 70 } : Room) (PK dC dI cT [.ref a_t, .ref a_p1, .ref a_p2, .int p3, .int p4] Hh) (va_Qi (fun x (_ : Unit) => x = o.1) (fun _ t => va_P (dC, dI) vwCl [(a_t_isBroth, .inl (cT 1, 24, .inl o.2.1)), (a_t_much, .inl (cT 4, 24, .inr (.inr (.inl o.2.2.1)))), (a_t_many, .inl (cT 0, 24, .inl o.2.2.2))] t.heap) (va_A [(a_t_isBroth, .inl (cT 1, 24, .inl t_isBroth)), (a_t_much, .inl (cT 4, 24, .inr (.inr (.inl t_much)))), (a_t_many, .inl (cT 0, 24, .inl t_many))] Hh.size)) 0 0 (va_A [(a_t_isBroth, .inl (cT 1, 24, .inl t_isBroth)), (a_t_much, .inl (cT 4, 24, .inr (.inr (.inl t_much)))), (a_t_many, .inl (cT 0, 24, .inl t_many))] Hh.size) := by
  induction n with
  | zero =>
    intro Hh a_t a_p1 a_p2 a_p1_kinds a_p1_values a_p1_parts a_t_isBroth a_t_much a_t_many a_p1_lastParts a_p2_isBroth a_p2_contents a_p2_contents_many a_p2_contents_much a_p1_text a_p1_firsts a_p2_low a_p2_high a_p2_storesIn a_p2_texts a_p2_cooked p1_tokens p1_kinds p1_values p1_parts t_isBroth t_much t_many p1_lastParts p2_isBroth p2_contents_many p2_contents_much p3 p4 p1_stores p1_mostSpoons p2_cauldrons p2_spells p2_cookedSoFar p2_storesSoFar o h hP0 hR0 hD0 hN0
    simp [g_X3_goesPart] at h
  | succ n ih =>
    intro Hh a_t a_p1 a_p2 a_p1_kinds a_p1_values a_p1_parts a_t_isBroth a_t_much a_t_many a_p1_lastParts a_p2_isBroth a_p2_contents a_p2_contents_many a_p2_contents_much a_p1_text a_p1_firsts a_p2_low a_p2_high a_p2_storesIn a_p2_texts a_p2_cooked p1_tokens p1_kinds p1_values p1_parts t_isBroth t_much t_many p1_lastParts p2_isBroth p2_contents_many p2_contents_much p3 p4 p1_stores p1_mostSpoons p2_cauldrons p2_spells p2_cookedSoFar p2_storesSoFar o h hP0 hR0 hD0 hN0
    rw [g_X3_goesPart] at h
    refine Met.ofW (cc := cX3_goesPart) (maxL := 9) (ret := (some .boolean)) (by decide) rfl ?_
    intro p e s m args below meth c s₁ B hml hv
    show W p l e ({ frames := n + 1 + 3, cells := 0, slots := 0, locals := (n + 1) * 28 + 70 } : Room) s m args below meth c s.heap [] 0 0 _ _
    obtain ⟨rfl, hH, hK⟩ := hv
    subst hH
    have hx := B.exec
    have hb := B.bytes
    have hr := B.returns
    have hta : ∀ w ∈ ALLW, w.before [.ref a_t, .ref a_p1, .ref a_p2, .int p3, .int p4].toArray s = true := fun w hw => atoms_spec (ws := wA yX3_goesPart cX3_goesPart 9 (some .boolean)) B.pre w (List.mem_cons_of_mem _ hw)
    have hown : s.vm.findClass RX3 = some m.cls := findClass_of_methodNamed B.named
    have hlocks := B.notSynchronized
    have hD := hD0.self (sz := s.heap.size)
    have hNA := hN0
    generalize hAe : va_A [(a_t_isBroth, .inl (cT 1, 24, .inl t_isBroth)), (a_t_much, .inl (cT 4, 24, .inr (.inr (.inl t_much)))), (a_t_many, .inl (cT 0, 24, .inl t_many))] s.heap.size = A at hD hNA ⊢
    have hP := hP0
    have hA : ∀ q : Nat, s.heap.size ≤ q → A q := fun q h => by rw [← hAe]; exact Or.inr h
    have hS : va_S A s.heap s.heap [] := va_S.rf
    have hl := lv_entry [.ref a_t, .ref a_p1, .ref a_p2, .int p3, .int p4] (n := 9) (Nat.le_of_ble_eq_true rfl)
    rw [lg_entry_eq]
    generalize (lg_sl [.ref a_t, .ref a_p1, .ref a_p2, .int p3, .int p4] ++ List.replicate (9 - (lg_sl [.ref a_t, .ref a_p1, .ref a_p2, .int p3, .int p4]).length) Slot.unset).toArray = ls at hl ⊢
    have hl : lv_has ls 9 [(0, .ref a_t), (1, .ref a_p1), (2, .ref a_p2), (3, .int p3), (4, .int p4)] := hl
    refine lv_iload_n hx hb dX3_goesPart_0 rfl (lv_at hl 3 rfl) ?_
    refine lv_if_lt (tgt := 19) hx hb dX3_goesPart_1 (by decide) (fun c0 => ?_) (fun c0 => ?_)
    · have h := (if_pos c0).symm.trans h
      refine lv_iconst (v := 0) hx hb dX3_goesPart_19 (by decide) ?_
      have ho := Option.some.inj h
      exact W.zret (ty := .boolean) (v := 0) hx hb hr rfl (fun t ht hW => ⟨⟨0, (), rfl, by rw [← ho], by show va_P (dC, dI) vwCl _ t.heap; rw [ht, ← ho]; exact hP⟩, hS.F ht⟩) hS.2.2 dX3_goesPart_20
    · have h := (if_neg c0).symm.trans h
      refine lv_iload_n hx hb dX3_goesPart_4 rfl (lv_at hl 3 rfl) ?_
      refine lv_aload_n hx hb dX3_goesPart_5 rfl (lv_at hl 1 rfl) ?_
      refine va_get (D := (dC, dI)) (ci := 11) (v := .int p1_tokens) (C := RX8) (T := TX8) (N := 9) hx hb hta inX8w hown hK (rk hR0 hNA hS) 1 rfl rfl 1 (by decide) (hta _ lk_X3_23) (fun _ h9 => h9) rfl dX3_goesPart_6 ?_
      refine lv_icmp_ge (tgt := 19) hx hb dX3_goesPart_9 (by decide) (fun c0 => ?_) (fun c0 => ?_)
      · have h := (if_pos c0).symm.trans h
        refine lv_iconst (v := 0) hx hb dX3_goesPart_19 (by decide) ?_
        have ho := Option.some.inj h
        exact W.zret (ty := .boolean) (v := 0) hx hb hr rfl (fun t ht hW => ⟨⟨0, (), rfl, by rw [← ho], by show va_P (dC, dI) vwCl _ t.heap; rw [ht, ← ho]; exact hP⟩, hS.F ht⟩) hS.2.2 dX3_goesPart_20
      · have h := (if_neg c0).symm.trans h
        refine lv_iload hx hb dX3_goesPart_12 (lv_at hl 4 rfl) ?_
        refine lv_bipush (v := 24) hx hb dX3_goesPart_14 (by decide) ?_
        refine lv_icmp_le (tgt := 21) hx hb dX3_goesPart_16 (by decide) (fun c0 => ?_) (fun c0 => ?_)
        · have h := (if_pos c0).symm.trans h
          refine lv_aload_n hx hb dX3_goesPart_21 rfl (lv_at hl 1 rfl) ?_
          refine va_get (D := (dC, dI)) (ci := 11) (v := .ref a_p1_kinds) (C := RX8) (T := TX8) (N := 9) hx hb hta inX8w hown hK (rk hR0 hNA hS) 1 rfl rfl 5 (by decide) (hta _ lk_X3_29) (fun _ h9 => h9) rfl dX3_goesPart_22 ?_
          refine lv_iload_n hx hb dX3_goesPart_25 rfl (lv_at hl 3 rfl) ?_
          obtain ⟨hc, h⟩ := gc_some h
          refine va_iald hx hb hK (rk hR0 hNA hS) 3 0 rfl rfl (inb_in hc) dX3_goesPart_26 ?_
          refine lv_topi (fun v1 e_v1 => ?_)
          have h := gl_use e_v1 h
          refine lv_istore (lv' := [(5, .int v1), (0, .ref a_t), (1, .ref a_p1), (2, .ref a_p2), (3, .int p3), (4, .int p4)]) hx hb dX3_goesPart_27 hl (by decide) rfl (fun ls hl => ?_)
          refine lv_aload_n hx hb dX3_goesPart_29 rfl (lv_at hl 2 rfl) ?_
          refine va_get (D := (dC, dI)) (ci := 11) (v := .ref a_p1_values) (C := RX8) (T := TX8) (N := 9) hx hb hta inX8w hown hK (rk hR0 hNA hS) 1 rfl rfl 6 (by decide) (hta _ lk_X3_49) (fun _ h9 => h9) rfl dX3_goesPart_30 ?_
          refine lv_iload_n hx hb dX3_goesPart_33 rfl (lv_at hl 4 rfl) ?_
          obtain ⟨hc, h⟩ := gc_some h
          refine va_iald hx hb hK (rk hR0 hNA hS) 4 0 rfl rfl (inb_in hc) dX3_goesPart_34 ?_
          refine lv_topi (fun v2 e_v2 => ?_)
          have h := gl_use e_v2 h
          refine lv_istore (lv' := [(6, .int v2), (5, .int v1), (0, .ref a_t), (1, .ref a_p1), (2, .ref a_p2), (3, .int p3), (4, .int p4)]) hx hb dX3_goesPart_35 hl (by decide) rfl (fun ls hl => ?_)
          refine lv_iload hx hb dX3_goesPart_37 (lv_at hl 1 rfl) ?_
          refine lv_if_ne (tgt := 52) hx hb dX3_goesPart_39 (by decide) (fun c0 => ?_) (fun c0 => ?_)
          · have h := (if_neg c0).symm.trans h
            refine lv_iload hx hb dX3_goesPart_52 (lv_at hl 1 rfl) ?_
            refine lv_iconst (v := 1) hx hb dX3_goesPart_54 (by decide) ?_
            refine lv_icmp_ne (tgt := 67) hx hb dX3_goesPart_55 (by decide) (fun c0 => ?_) (fun c0 => ?_)
            · have h := (if_neg c0).symm.trans h
              refine lv_aload_n hx hb dX3_goesPart_67 rfl (lv_at hl 3 rfl) ?_
              refine va_get (D := (dC, dI)) (ci := 11) (v := .ref a_p1_parts) (C := RX8) (T := TX8) (N := 9) hx hb hta inX8w hown hK (rk hR0 hNA hS) 1 rfl rfl 7 (by decide) (hta _ lk_X3_46) (fun _ h9 => h9) rfl dX3_goesPart_68 ?_
              refine lv_iload_n hx hb dX3_goesPart_71 rfl (lv_at hl 5 rfl) ?_
              obtain ⟨hc, h⟩ := gc_some h
              refine va_iald hx hb hK (rk hR0 hNA hS) 5 0 rfl rfl (inb_in hc) dX3_goesPart_72 ?_
              refine lv_topi (fun v3 e_v3 => ?_)
              have h := gl_use e_v3 h
              refine lv_istore (lv' := [(7, .int v3), (6, .int v2), (5, .int v1), (0, .ref a_t), (1, .ref a_p1), (2, .ref a_p2), (3, .int p3), (4, .int p4)]) hx hb dX3_goesPart_73 hl (by decide) rfl (fun ls hl => ?_)
              refine lv_iload hx hb dX3_goesPart_75 (lv_at hl 2 rfl) ?_
              refine lv_bipush (v := 7) hx hb dX3_goesPart_77 (by decide) ?_
              refine lv_icmp_eq (tgt := 97) hx hb dX3_goesPart_79 (by decide) (fun c0 => ?_) (fun c0 => ?_)
              · have h := (if_pos c0).symm.trans h
                refine lv_iconst (v := 0) hx hb dX3_goesPart_97 (by decide) ?_
                have ho := Option.some.inj h
                exact W.zret (ty := .boolean) (v := 0) hx hb hr rfl (fun t ht hW => ⟨⟨0, (), rfl, by rw [← ho], by show va_P (dC, dI) vwCl _ t.heap; rw [ht, ← ho]; exact hP⟩, hS.F ht⟩) hS.2.2 dX3_goesPart_98
              · have h := (if_neg c0).symm.trans h
                refine lv_aload_n hx hb dX3_goesPart_82 rfl (lv_at hl 3 rfl) ?_
                refine lv_aload_n hx hb dX3_goesPart_83 rfl (lv_at hl 4 rfl) ?_
                refine lv_aload_n hx hb dX3_goesPart_84 rfl (lv_at hl 5 rfl) ?_
                refine lv_iload hx hb dX3_goesPart_85 (lv_at hl 0 rfl) ?_
                refine lv_iload hx hb dX3_goesPart_87 (lv_at hl 7 rfl) ?_
                refine lv_iconst (v := 1) hx hb dX3_goesPart_89 (by decide) ?_
                refine lv_iadd hx hb dX3_goesPart_90 ?_
                obtain ⟨r4, hq, h⟩ := gb_some h
                refine cxI (X2 := [(a_t_isBroth, .inl (cT 1, 24, .inl r4.2.1)), (a_t_much, .inl (cT 4, 24, .inr (.inr (.inl r4.2.2.1)))), (a_t_many, .inl (cT 0, 24, .inl r4.2.2.2))]) (va_runV (As := [.ref a_p1, .ref a_p2, .int v3, .int (p4 + 1)]) (rest := []) ⟨hx, hb, hml, hown, hta⟩ (ih hq (hP.sub (ws' := [(a_t_isBroth, .inl (cT 1, 24, .inl t_isBroth)), (a_t_much, .inl (cT 4, 24, .inr (.inr (.inl t_much)))), (a_t_many, .inl (cT 0, 24, .inl t_many))]) [0, 1, 2] rfl) ((va_P.app hP (rk hR0 hNA hS)).sub (ws' := [(a_t, .inr (7, [.ref a_t_isBroth, .ref a_t_many, .ref a_t_much])), (a_p1, .inr (11, [.ref a_p1_text, .int p1_tokens, .int p1_stores, .int p1_mostSpoons, .ref a_p1_firsts, .ref a_p1_kinds, .ref a_p1_values, .ref a_p1_parts, .ref a_p1_lastParts])), (a_p2, .inr (4, [.int p2_cauldrons, .ref a_p2_isBroth, .ref a_p2_low, .ref a_p2_high, .ref a_p2_contents, .ref a_p2_storesIn, .int p2_spells, .ref a_p2_texts, .ref a_p2_cooked, .int p2_cookedSoFar, .int p2_storesSoFar])), (a_p1_kinds, .inl (cT 0, 24, .inl p1_kinds)), (a_p1_values, .inl (cT 0, 24, .inl p1_values)), (a_p1_parts, .inl (cT 0, 24, .inl p1_parts)), (a_p1_lastParts, .inl (cT 0, 24, .inl p1_lastParts)), (a_p2_isBroth, .inl (cT 1, 6, .inl p2_isBroth)), (a_p2_contents, .inr (5, [.ref a_p2_contents_many, .ref a_p2_contents_much])), (a_p2_contents_many, .inl (cT 0, 6, .inl p2_contents_many)), (a_p2_contents_much, .inl (cT 4, 6, .inr (.inr (.inl p2_contents_much))))]) [3, 4, 5, 6, 7, 8, 9, 10, 11, 12, 13] rfl) (ds hD [0, 1, 2] (by decide) rfl) (nac hP hD [0, 1, 2] rfl (va_free hD hS hA [0, 1, 2] rfl) hNA [.inl 0, .inl 1, .inl 2, .inl 3, .inl 4, .inl 5, .inl 6, .inl 7, .inl 8, .inl 9, .inl 10] rfl rfl)) (cV hta lm_X3_52 md_X3_goesPart ⟨(by dsimp only; omega), (by dsimp only; omega)⟩) ⟨fbK, va_recv hK (rk hR0 hNA hS) (ci := 7) (q0 := 0) rfl rfl, fun U hU hW => ⟨rfl, hU, va_K.moved hW.alike hK⟩⟩ rfl rfl hl.1 rfl (lv_room (Nat.le_of_ble_eq_true rfl)) dX3_goesPart_91 ⟨(by dsimp only; omega), (by dsimp only; omega)⟩) hS hA hP hD [0, 1, 2] rfl [.inl 0, .inl 1, .inl 2] rfl rfl rfl (fun H locs hP hD hS => ?_)
                refine lv_if_ne (tgt := 99) hx hb dX3_goesPart_94 (by decide) (fun c0 => ?_) (fun c0 => ?_)
                · have h := (if_neg c0).symm.trans h
                  refine lv_iload hx hb dX3_goesPart_99 (lv_at hl 2 rfl) ?_
                  refine lv_iconst (v := 5) hx hb dX3_goesPart_101 (by decide) ?_
                  refine lv_icmp_eq (tgt := 112) hx hb dX3_goesPart_102 (by decide) (fun c0 => ?_) (fun c0 => ?_)
                  · have h := (if_pos c0).symm.trans h
                    refine lv_aload_n hx hb dX3_goesPart_112 rfl (lv_at hl 3 rfl) ?_
                    refine lv_iload_n hx hb dX3_goesPart_113 rfl (lv_at hl 6 rfl) ?_
                    refine lv_iload hx hb dX3_goesPart_114 (lv_at hl 0 rfl) ?_
                    refine lv_iload hx hb dX3_goesPart_116 (lv_at hl 2 rfl) ?_
                    refine lv_iconst (v := 5) hx hb dX3_goesPart_118 (by decide) ?_
                    refine lv_icmp_ne (tgt := 126) hx hb dX3_goesPart_119 (by decide) (fun c0 => ?_) (fun c0 => ?_)
                    · have h := (if_neg c0).symm.trans h
                      refine lv_iconst (v := 0) hx hb dX3_goesPart_126 (by decide) ?_
                      obtain ⟨r5, hq, h⟩ := gb_some h
                      refine cxI (X2 := [(a_t_isBroth, .inl (cT 1, 24, .inl r5.2.1)), (a_t_much, .inl (cT 4, 24, .inr (.inr (.inl r5.2.2.1)))), (a_t_many, .inl (cT 0, 24, .inl r5.2.2.2))]) (va_runV (As := [.int p3, .int v3, .int 0]) (rest := []) ⟨hx, hb, hml, hown, hta⟩ (c_X3_goesCast l dC dI cT hq (hP.sub (ws' := [(a_t_isBroth, .inl (cT 1, 24, .inl r4.2.1)), (a_t_much, .inl (cT 4, 24, .inr (.inr (.inl r4.2.2.1)))), (a_t_many, .inl (cT 0, 24, .inl r4.2.2.2))]) [0, 1, 2] rfl) ((va_P.app hP (rk hR0 hNA hS)).sub (ws' := [(a_t, .inr (7, [.ref a_t_isBroth, .ref a_t_many, .ref a_t_much]))]) [3] rfl) (ds hD [0, 1, 2] (by decide) rfl) (nac hP hD [0, 1, 2] rfl (va_free hD hS hA [0, 1, 2] rfl) hNA [.inl 0] rfl rfl)) (cV hta lm_X3_71 md_X3_goesCast ⟨(by dsimp only; omega), (by dsimp only; omega)⟩) ⟨fbK, va_recv hK (rk hR0 hNA hS) (ci := 7) (q0 := 0) rfl rfl, fun U hU hW => ⟨rfl, hU, va_K.moved hW.alike hK⟩⟩ rfl rfl hl.1 rfl (lv_room (Nat.le_of_ble_eq_true rfl)) dX3_goesPart_127 ⟨(by dsimp only; omega), (by dsimp only; omega)⟩) hS hA hP hD [0, 1, 2] rfl [.inl 0, .inl 1, .inl 2] rfl rfl rfl (fun H locs hP hD hS => ?_)
                      obtain ⟨hc, h⟩ := gc_some h
                      have ho := Option.some.inj h
                      exact W.zret (ty := .boolean) (v := r5.1) hx hb hr (bo_n hc) (fun t ht hW => ⟨⟨r5.1, (), rfl, by rw [← ho], by show va_P (dC, dI) vwCl _ t.heap; rw [ht, ← ho]; exact hP⟩, hS.F ht⟩) hS.2.2 dX3_goesPart_130
                    · have h := (if_pos c0).symm.trans h
                      refine lv_iconst (v := 1) hx hb dX3_goesPart_122 (by decide) ?_
                      refine lv_goto (tgt := 127) hx hb dX3_goesPart_123 (by decide) ?_
                      obtain ⟨r6, hq, h⟩ := gb_some h
                      refine cxI (X2 := [(a_t_isBroth, .inl (cT 1, 24, .inl r6.2.1)), (a_t_much, .inl (cT 4, 24, .inr (.inr (.inl r6.2.2.1)))), (a_t_many, .inl (cT 0, 24, .inl r6.2.2.2))]) (va_runV (As := [.int p3, .int v3, .int 1]) (rest := []) ⟨hx, hb, hml, hown, hta⟩ (c_X3_goesCast l dC dI cT hq (hP.sub (ws' := [(a_t_isBroth, .inl (cT 1, 24, .inl r4.2.1)), (a_t_much, .inl (cT 4, 24, .inr (.inr (.inl r4.2.2.1)))), (a_t_many, .inl (cT 0, 24, .inl r4.2.2.2))]) [0, 1, 2] rfl) ((va_P.app hP (rk hR0 hNA hS)).sub (ws' := [(a_t, .inr (7, [.ref a_t_isBroth, .ref a_t_many, .ref a_t_much]))]) [3] rfl) (ds hD [0, 1, 2] (by decide) rfl) (nac hP hD [0, 1, 2] rfl (va_free hD hS hA [0, 1, 2] rfl) hNA [.inl 0] rfl rfl)) (cV hta lm_X3_71 md_X3_goesCast ⟨(by dsimp only; omega), (by dsimp only; omega)⟩) ⟨fbK, va_recv hK (rk hR0 hNA hS) (ci := 7) (q0 := 0) rfl rfl, fun U hU hW => ⟨rfl, hU, va_K.moved hW.alike hK⟩⟩ rfl rfl hl.1 rfl (lv_room (Nat.le_of_ble_eq_true rfl)) dX3_goesPart_127 ⟨(by dsimp only; omega), (by dsimp only; omega)⟩) hS hA hP hD [0, 1, 2] rfl [.inl 0, .inl 1, .inl 2] rfl rfl rfl (fun H locs hP hD hS => ?_)
                      obtain ⟨hc, h⟩ := gc_some h
                      have ho := Option.some.inj h
                      exact W.zret (ty := .boolean) (v := r6.1) hx hb hr (bo_n hc) (fun t ht hW => ⟨⟨r6.1, (), rfl, by rw [← ho], by show va_P (dC, dI) vwCl _ t.heap; rw [ht, ← ho]; exact hP⟩, hS.F ht⟩) hS.2.2 dX3_goesPart_130
                  · have h := (if_neg c0).symm.trans h
                    refine lv_iload hx hb dX3_goesPart_105 (lv_at hl 2 rfl) ?_
                    refine lv_bipush (v := 6) hx hb dX3_goesPart_107 (by decide) ?_
                    refine lv_icmp_ne (tgt := 131) hx hb dX3_goesPart_109 (by decide) (fun c0 => ?_) (fun c0 => ?_)
                    · have h := (if_neg c0).symm.trans h
                      refine lv_aload_n hx hb dX3_goesPart_131 rfl (lv_at hl 4 rfl) ?_
                      refine va_get (D := (dC, dI)) (ci := 11) (v := .ref a_p1_lastParts) (C := RX8) (T := TX8) (N := 9) hx hb hta inX8w hown hK (rk hR0 hNA hS) 1 rfl rfl 8 (by decide) (hta _ lk_X3_75) (fun _ h9 => h9) rfl dX3_goesPart_132 ?_
                      refine lv_iload_n hx hb dX3_goesPart_135 rfl (lv_at hl 6 rfl) ?_
                      obtain ⟨hc, h⟩ := gc_some h
                      refine va_iald hx hb hK (rk hR0 hNA hS) 6 0 rfl rfl (inb_in hc) dX3_goesPart_136 ?_
                      refine lv_topi (fun v7 e_v7 => ?_)
                      have h := gl_use e_v7 h
                      refine lv_istore (lv' := [(8, .int v7), (7, .int v3), (6, .int v2), (5, .int v1), (0, .ref a_t), (1, .ref a_p1), (2, .ref a_p2), (3, .int p3), (4, .int p4)]) hx hb dX3_goesPart_137 hl (by decide) rfl (fun ls hl => ?_)
                      refine lv_aload_n hx hb dX3_goesPart_139 rfl (lv_at hl 4 rfl) ?_
                      refine lv_aload_n hx hb dX3_goesPart_140 rfl (lv_at hl 5 rfl) ?_
                      refine lv_aload_n hx hb dX3_goesPart_141 rfl (lv_at hl 6 rfl) ?_
                      refine lv_iload hx hb dX3_goesPart_142 (lv_at hl 0 rfl) ?_
                      refine lv_iload hx hb dX3_goesPart_144 (lv_at hl 8 rfl) ?_
                      refine lv_iconst (v := 1) hx hb dX3_goesPart_146 (by decide) ?_
                      refine lv_iadd hx hb dX3_goesPart_147 ?_
                      obtain ⟨r8, hq, h⟩ := gb_some h
                      refine cxI (X2 := [(a_t_isBroth, .inl (cT 1, 24, .inl r8.2.1)), (a_t_much, .inl (cT 4, 24, .inr (.inr (.inl r8.2.2.1)))), (a_t_many, .inl (cT 0, 24, .inl r8.2.2.2))]) (va_runV (As := [.ref a_p1, .ref a_p2, .int v7, .int (p4 + 1)]) (rest := []) ⟨hx, hb, hml, hown, hta⟩ (ih hq (hP.sub (ws' := [(a_t_isBroth, .inl (cT 1, 24, .inl r4.2.1)), (a_t_much, .inl (cT 4, 24, .inr (.inr (.inl r4.2.2.1)))), (a_t_many, .inl (cT 0, 24, .inl r4.2.2.2))]) [0, 1, 2] rfl) ((va_P.app hP (rk hR0 hNA hS)).sub (ws' := [(a_t, .inr (7, [.ref a_t_isBroth, .ref a_t_many, .ref a_t_much])), (a_p1, .inr (11, [.ref a_p1_text, .int p1_tokens, .int p1_stores, .int p1_mostSpoons, .ref a_p1_firsts, .ref a_p1_kinds, .ref a_p1_values, .ref a_p1_parts, .ref a_p1_lastParts])), (a_p2, .inr (4, [.int p2_cauldrons, .ref a_p2_isBroth, .ref a_p2_low, .ref a_p2_high, .ref a_p2_contents, .ref a_p2_storesIn, .int p2_spells, .ref a_p2_texts, .ref a_p2_cooked, .int p2_cookedSoFar, .int p2_storesSoFar])), (a_p1_kinds, .inl (cT 0, 24, .inl p1_kinds)), (a_p1_values, .inl (cT 0, 24, .inl p1_values)), (a_p1_parts, .inl (cT 0, 24, .inl p1_parts)), (a_p1_lastParts, .inl (cT 0, 24, .inl p1_lastParts)), (a_p2_isBroth, .inl (cT 1, 6, .inl p2_isBroth)), (a_p2_contents, .inr (5, [.ref a_p2_contents_many, .ref a_p2_contents_much])), (a_p2_contents_many, .inl (cT 0, 6, .inl p2_contents_many)), (a_p2_contents_much, .inl (cT 4, 6, .inr (.inr (.inl p2_contents_much))))]) [3, 4, 5, 6, 7, 8, 9, 10, 11, 12, 13] rfl) (ds hD [0, 1, 2] (by decide) rfl) (nac hP hD [0, 1, 2] rfl (va_free hD hS hA [0, 1, 2] rfl) hNA [.inl 0, .inl 1, .inl 2, .inl 3, .inl 4, .inl 5, .inl 6, .inl 7, .inl 8, .inl 9, .inl 10] rfl rfl)) (cV hta lm_X3_52 md_X3_goesPart ⟨(by dsimp only; omega), (by dsimp only; omega)⟩) ⟨fbK, va_recv hK (rk hR0 hNA hS) (ci := 7) (q0 := 0) rfl rfl, fun U hU hW => ⟨rfl, hU, va_K.moved hW.alike hK⟩⟩ rfl rfl hl.1 rfl (lv_room (Nat.le_of_ble_eq_true rfl)) dX3_goesPart_148 ⟨(by dsimp only; omega), (by dsimp only; omega)⟩) hS hA hP hD [0, 1, 2] rfl [.inl 0, .inl 1, .inl 2] rfl rfl rfl (fun H locs hP hD hS => ?_)
                      refine lv_if_eq (tgt := 172) hx hb dX3_goesPart_151 (by decide) (fun c0 => ?_) (fun c0 => ?_)
                      · have h := (if_pos c0).symm.trans h
                        refine lv_iconst (v := 0) hx hb dX3_goesPart_172 (by decide) ?_
                        have ho := Option.some.inj h
                        exact W.zret (ty := .boolean) (v := 0) hx hb hr rfl (fun t ht hW => ⟨⟨0, (), rfl, by rw [← ho], by show va_P (dC, dI) vwCl _ t.heap; rw [ht, ← ho]; exact hP⟩, hS.F ht⟩) hS.2.2 dX3_goesPart_173
                      · have h := (if_neg c0).symm.trans h
                        refine lv_aload_n hx hb dX3_goesPart_154 rfl (lv_at hl 4 rfl) ?_
                        refine lv_iload hx hb dX3_goesPart_155 (lv_at hl 3 rfl) ?_
                        refine lv_iload_n hx hb dX3_goesPart_157 rfl (lv_at hl 7 rfl) ?_
                        refine lv_iload hx hb dX3_goesPart_158 (lv_at hl 1 rfl) ?_
                        refine lv_iload hx hb dX3_goesPart_160 (lv_at hl 0 rfl) ?_
                        obtain ⟨r9, hq, h⟩ := gb_some h
                        refine cxI (X2 := [(a_t_isBroth, .inl (cT 1, 24, .inl r9.2.1)), (a_t_much, .inl (cT 4, 24, .inr (.inr (.inl r9.2.2.2)))), (a_t_many, .inl (cT 0, 24, .inl r9.2.2.1))]) (va_runV (As := [.int v1, .int p3, .int v3, .int v7]) (rest := []) ⟨hx, hb, hml, hown, hta⟩ (c_X3_goesReckoning l dC dI cT hq (hP.sub (ws' := [(a_t_isBroth, .inl (cT 1, 24, .inl r8.2.1)), (a_t_many, .inl (cT 0, 24, .inl r8.2.2.2)), (a_t_much, .inl (cT 4, 24, .inr (.inr (.inl r8.2.2.1))))]) [0, 2, 1] rfl) ((va_P.app hP (rk hR0 hNA hS)).sub (ws' := [(a_t, .inr (7, [.ref a_t_isBroth, .ref a_t_many, .ref a_t_much]))]) [3] rfl) (ds hD [0, 2, 1] (by decide) rfl) (nac hP hD [0, 2, 1] rfl (va_free hD hS hA [0, 2, 1] rfl) hNA [.inl 0] rfl rfl)) (cV hta lm_X3_78 md_X3_goesReckoning ⟨(by dsimp only; omega), (by dsimp only; omega)⟩) ⟨fbK, va_recv hK (rk hR0 hNA hS) (ci := 7) (q0 := 0) rfl rfl, fun U hU hW => ⟨rfl, hU, va_K.moved hW.alike hK⟩⟩ rfl rfl hl.1 rfl (lv_room (Nat.le_of_ble_eq_true rfl)) dX3_goesPart_162 ⟨(by dsimp only; omega), (by dsimp only; omega)⟩) hS hA hP hD [0, 2, 1] rfl [.inl 0, .inl 2, .inl 1] rfl rfl rfl (fun H locs hP hD hS => ?_)
                        refine lv_if_eq (tgt := 172) hx hb dX3_goesPart_165 (by decide) (fun c0 => ?_) (fun c0 => ?_)
                        · have h := (if_pos c0).symm.trans h
                          refine lv_iconst (v := 0) hx hb dX3_goesPart_172 (by decide) ?_
                          have ho := Option.some.inj h
                          exact W.zret (ty := .boolean) (v := 0) hx hb hr rfl (fun t ht hW => ⟨⟨0, (), rfl, by rw [← ho], by show va_P (dC, dI) vwCl _ t.heap; rw [ht, ← ho]; exact hP⟩, hS.F ht⟩) hS.2.2 dX3_goesPart_173
                        · have h := (if_neg c0).symm.trans h
                          refine lv_iconst (v := 1) hx hb dX3_goesPart_168 (by decide) ?_
                          refine lv_goto (tgt := 173) hx hb dX3_goesPart_169 (by decide) ?_
                          have ho := Option.some.inj h
                          exact W.zret (ty := .boolean) (v := 1) hx hb hr rfl (fun t ht hW => ⟨⟨1, (), rfl, by rw [← ho], by show va_P (dC, dI) vwCl _ t.heap; rw [ht, ← ho]; exact hP⟩, hS.F ht⟩) hS.2.2 dX3_goesPart_173
                    · have h := (if_pos c0).symm.trans h
                      refine lv_aload_n hx hb dX3_goesPart_112 rfl (lv_at hl 3 rfl) ?_
                      refine lv_iload_n hx hb dX3_goesPart_113 rfl (lv_at hl 6 rfl) ?_
                      refine lv_iload hx hb dX3_goesPart_114 (lv_at hl 0 rfl) ?_
                      refine lv_iload hx hb dX3_goesPart_116 (lv_at hl 2 rfl) ?_
                      refine lv_iconst (v := 5) hx hb dX3_goesPart_118 (by decide) ?_
                      refine lv_icmp_ne (tgt := 126) hx hb dX3_goesPart_119 (by decide) (fun c0 => ?_) (fun c0 => ?_)
                      · have h := (if_neg c0).symm.trans h
                        refine lv_iconst (v := 0) hx hb dX3_goesPart_126 (by decide) ?_
                        obtain ⟨r10, hq, h⟩ := gb_some h
                        refine cxI (X2 := [(a_t_isBroth, .inl (cT 1, 24, .inl r10.2.1)), (a_t_much, .inl (cT 4, 24, .inr (.inr (.inl r10.2.2.1)))), (a_t_many, .inl (cT 0, 24, .inl r10.2.2.2))]) (va_runV (As := [.int p3, .int v3, .int 0]) (rest := []) ⟨hx, hb, hml, hown, hta⟩ (c_X3_goesCast l dC dI cT hq (hP.sub (ws' := [(a_t_isBroth, .inl (cT 1, 24, .inl r4.2.1)), (a_t_much, .inl (cT 4, 24, .inr (.inr (.inl r4.2.2.1)))), (a_t_many, .inl (cT 0, 24, .inl r4.2.2.2))]) [0, 1, 2] rfl) ((va_P.app hP (rk hR0 hNA hS)).sub (ws' := [(a_t, .inr (7, [.ref a_t_isBroth, .ref a_t_many, .ref a_t_much]))]) [3] rfl) (ds hD [0, 1, 2] (by decide) rfl) (nac hP hD [0, 1, 2] rfl (va_free hD hS hA [0, 1, 2] rfl) hNA [.inl 0] rfl rfl)) (cV hta lm_X3_71 md_X3_goesCast ⟨(by dsimp only; omega), (by dsimp only; omega)⟩) ⟨fbK, va_recv hK (rk hR0 hNA hS) (ci := 7) (q0 := 0) rfl rfl, fun U hU hW => ⟨rfl, hU, va_K.moved hW.alike hK⟩⟩ rfl rfl hl.1 rfl (lv_room (Nat.le_of_ble_eq_true rfl)) dX3_goesPart_127 ⟨(by dsimp only; omega), (by dsimp only; omega)⟩) hS hA hP hD [0, 1, 2] rfl [.inl 0, .inl 1, .inl 2] rfl rfl rfl (fun H locs hP hD hS => ?_)
                        obtain ⟨hc, h⟩ := gc_some h
                        have ho := Option.some.inj h
                        exact W.zret (ty := .boolean) (v := r10.1) hx hb hr (bo_n hc) (fun t ht hW => ⟨⟨r10.1, (), rfl, by rw [← ho], by show va_P (dC, dI) vwCl _ t.heap; rw [ht, ← ho]; exact hP⟩, hS.F ht⟩) hS.2.2 dX3_goesPart_130
                      · have h := (if_pos c0).symm.trans h
                        refine lv_iconst (v := 1) hx hb dX3_goesPart_122 (by decide) ?_
                        refine lv_goto (tgt := 127) hx hb dX3_goesPart_123 (by decide) ?_
                        obtain ⟨r11, hq, h⟩ := gb_some h
                        refine cxI (X2 := [(a_t_isBroth, .inl (cT 1, 24, .inl r11.2.1)), (a_t_much, .inl (cT 4, 24, .inr (.inr (.inl r11.2.2.1)))), (a_t_many, .inl (cT 0, 24, .inl r11.2.2.2))]) (va_runV (As := [.int p3, .int v3, .int 1]) (rest := []) ⟨hx, hb, hml, hown, hta⟩ (c_X3_goesCast l dC dI cT hq (hP.sub (ws' := [(a_t_isBroth, .inl (cT 1, 24, .inl r4.2.1)), (a_t_much, .inl (cT 4, 24, .inr (.inr (.inl r4.2.2.1)))), (a_t_many, .inl (cT 0, 24, .inl r4.2.2.2))]) [0, 1, 2] rfl) ((va_P.app hP (rk hR0 hNA hS)).sub (ws' := [(a_t, .inr (7, [.ref a_t_isBroth, .ref a_t_many, .ref a_t_much]))]) [3] rfl) (ds hD [0, 1, 2] (by decide) rfl) (nac hP hD [0, 1, 2] rfl (va_free hD hS hA [0, 1, 2] rfl) hNA [.inl 0] rfl rfl)) (cV hta lm_X3_71 md_X3_goesCast ⟨(by dsimp only; omega), (by dsimp only; omega)⟩) ⟨fbK, va_recv hK (rk hR0 hNA hS) (ci := 7) (q0 := 0) rfl rfl, fun U hU hW => ⟨rfl, hU, va_K.moved hW.alike hK⟩⟩ rfl rfl hl.1 rfl (lv_room (Nat.le_of_ble_eq_true rfl)) dX3_goesPart_127 ⟨(by dsimp only; omega), (by dsimp only; omega)⟩) hS hA hP hD [0, 1, 2] rfl [.inl 0, .inl 1, .inl 2] rfl rfl rfl (fun H locs hP hD hS => ?_)
                        obtain ⟨hc, h⟩ := gc_some h
                        have ho := Option.some.inj h
                        exact W.zret (ty := .boolean) (v := r11.1) hx hb hr (bo_n hc) (fun t ht hW => ⟨⟨r11.1, (), rfl, by rw [← ho], by show va_P (dC, dI) vwCl _ t.heap; rw [ht, ← ho]; exact hP⟩, hS.F ht⟩) hS.2.2 dX3_goesPart_130
                · have h := (if_pos c0).symm.trans h
                  refine lv_iconst (v := 0) hx hb dX3_goesPart_97 (by decide) ?_
                  have ho := Option.some.inj h
                  exact W.zret (ty := .boolean) (v := 0) hx hb hr rfl (fun t ht hW => ⟨⟨0, (), rfl, by rw [← ho], by show va_P (dC, dI) vwCl _ t.heap; rw [ht, ← ho]; exact hP⟩, hS.F ht⟩) hS.2.2 dX3_goesPart_98
            · have h := (if_pos c0).symm.trans h
              refine lv_aload_n hx hb dX3_goesPart_58 rfl (lv_at hl 2 rfl) ?_
              refine lv_iload_n hx hb dX3_goesPart_59 rfl (lv_at hl 5 rfl) ?_
              refine lv_iload hx hb dX3_goesPart_60 (lv_at hl 0 rfl) ?_
              refine lv_i2l hx hb dX3_goesPart_62 rfl ?_
              obtain ⟨r12, hq, h⟩ := gb_some h
              refine cxI (X2 := [(a_t_isBroth, .inl (cT 1, 24, .inl r12.2.1)), (a_t_much, .inl (cT 4, 24, .inr (.inr (.inl t_much)))), (a_t_many, .inl (cT 0, 24, .inl r12.2.2))]) (va_runV (As := [.int p3, .long v2.toInt64]) (rest := []) ⟨hx, hb, hml, hown, hta⟩ (c_X3_givesDrams l dC dI cT hq (hP.sub (ws' := [(a_t_isBroth, .inl (cT 1, 24, .inl t_isBroth)), (a_t_many, .inl (cT 0, 24, .inl t_many))]) [0, 2] rfl) ((va_P.app hP (rk hR0 hNA hS)).sub (ws' := [(a_t, .inr (7, [.ref a_t_isBroth, .ref a_t_many, .ref a_t_much]))]) [3] rfl) (ds hD [0, 2] (by decide) rfl) (nac hP hD [0, 2] rfl (va_free hD hS hA [0, 2] rfl) hNA [.inl 0] rfl rfl)) (cV hta lm_X3_61 md_X3_givesDrams ⟨(by dsimp only; omega), (by dsimp only; omega)⟩) ⟨fbK, va_recv hK (rk hR0 hNA hS) (ci := 7) (q0 := 0) rfl rfl, fun U hU hW => ⟨rfl, hU, va_K.moved hW.alike hK⟩⟩ rfl rfl hl.1 rfl (lv_room (Nat.le_of_ble_eq_true rfl)) dX3_goesPart_63 ⟨(by dsimp only; omega), (by dsimp only; omega)⟩) hS hA hP hD [0, 2] rfl [.inl 0, .inr 1, .inl 1] rfl rfl rfl (fun H locs hP hD hS => ?_)
              obtain ⟨hc, h⟩ := gc_some h
              have ho := Option.some.inj h
              exact W.zret (ty := .boolean) (v := r12.1) hx hb hr (bo_n hc) (fun t ht hW => ⟨⟨r12.1, (), rfl, by rw [← ho], by show va_P (dC, dI) vwCl _ t.heap; rw [ht, ← ho]; exact hP⟩, hS.F ht⟩) hS.2.2 dX3_goesPart_66
          · have h := (if_pos c0).symm.trans h
            refine lv_aload_n hx hb dX3_goesPart_42 rfl (lv_at hl 2 rfl) ?_
            refine lv_aload_n hx hb dX3_goesPart_43 rfl (lv_at hl 3 rfl) ?_
            refine lv_aload_n hx hb dX3_goesPart_44 rfl (lv_at hl 4 rfl) ?_
            refine lv_iload_n hx hb dX3_goesPart_45 rfl (lv_at hl 5 rfl) ?_
            refine lv_iload hx hb dX3_goesPart_46 (lv_at hl 0 rfl) ?_
            obtain ⟨r13, hq, h⟩ := gb_some h
            refine cxI (X2 := [(a_t_isBroth, .inl (cT 1, 24, .inl r13.2.2.2)), (a_t_much, .inl (cT 4, 24, .inr (.inr (.inl r13.2.2.1)))), (a_t_many, .inl (cT 0, 24, .inl r13.2.1))]) (va_runV (As := [.ref a_p1, .ref a_p2, .int p3, .int v2]) (rest := []) ⟨hx, hb, hml, hown, hta⟩ (c_X3_goesTake l dC dI cT hq (hP.sub (ws' := [(a_t_many, .inl (cT 0, 24, .inl t_many)), (a_t_much, .inl (cT 4, 24, .inr (.inr (.inl t_much)))), (a_t_isBroth, .inl (cT 1, 24, .inl t_isBroth))]) [2, 1, 0] rfl) ((va_P.app hP (rk hR0 hNA hS)).sub (ws' := [(a_t, .inr (7, [.ref a_t_isBroth, .ref a_t_many, .ref a_t_much])), (a_p1, .inr (11, [.ref a_p1_text, .int p1_tokens, .int p1_stores, .int p1_mostSpoons, .ref a_p1_firsts, .ref a_p1_kinds, .ref a_p1_values, .ref a_p1_parts, .ref a_p1_lastParts])), (a_p2, .inr (4, [.int p2_cauldrons, .ref a_p2_isBroth, .ref a_p2_low, .ref a_p2_high, .ref a_p2_contents, .ref a_p2_storesIn, .int p2_spells, .ref a_p2_texts, .ref a_p2_cooked, .int p2_cookedSoFar, .int p2_storesSoFar])), (a_p1_kinds, .inl (cT 0, 24, .inl p1_kinds)), (a_p1_values, .inl (cT 0, 24, .inl p1_values)), (a_p2_isBroth, .inl (cT 1, 6, .inl p2_isBroth)), (a_p2_contents, .inr (5, [.ref a_p2_contents_many, .ref a_p2_contents_much])), (a_p2_contents_many, .inl (cT 0, 6, .inl p2_contents_many)), (a_p2_contents_much, .inl (cT 4, 6, .inr (.inr (.inl p2_contents_much))))]) [3, 4, 5, 6, 7, 10, 11, 12, 13] rfl) (ds hD [2, 1, 0] (by decide) rfl) (nac hP hD [2, 1, 0] rfl (va_free hD hS hA [2, 1, 0] rfl) hNA [.inl 0, .inl 1, .inl 2, .inl 3, .inl 4, .inl 7, .inl 8, .inl 9, .inl 10] rfl rfl)) (cV hta lm_X3_68 md_X3_goesTake ⟨(by dsimp only; omega), (by dsimp only; omega)⟩) ⟨fbK, va_recv hK (rk hR0 hNA hS) (ci := 7) (q0 := 0) rfl rfl, fun U hU hW => ⟨rfl, hU, va_K.moved hW.alike hK⟩⟩ rfl rfl hl.1 rfl (lv_room (Nat.le_of_ble_eq_true rfl)) dX3_goesPart_48 ⟨(by dsimp only; omega), (by dsimp only; omega)⟩) hS hA hP hD [2, 1, 0] rfl [.inl 2, .inl 1, .inl 0] rfl rfl rfl (fun H locs hP hD hS => ?_)
            obtain ⟨hc, h⟩ := gc_some h
            have ho := Option.some.inj h
            exact W.zret (ty := .boolean) (v := r13.1) hx hb hr (bo_n hc) (fun t ht hW => ⟨⟨r13.1, (), rfl, by rw [← ho], by show va_P (dC, dI) vwCl _ t.heap; rw [ht, ← ho]; exact hP⟩, hS.F ht⟩) hS.2.2 dX3_goesPart_51
        · have h := (if_neg c0).symm.trans h
          refine lv_iconst (v := 0) hx hb dX3_goesPart_19 (by decide) ?_
          have ho := Option.some.inj h
          exact W.zret (ty := .boolean) (v := 0) hx hb hr rfl (fun t ht hW => ⟨⟨0, (), rfl, by rw [← ho], by show va_P (dC, dI) vwCl _ t.heap; rw [ht, ← ho]; exact hP⟩, hS.F ht⟩) hS.2.2 dX3_goesPart_20
set_option maxHeartbeats 4000000 in
set_option maxRecDepth 100000 in
theorem c_X3_goesStore (l : Launch) (dC : Nat → ClassId) (dI : Nat → Nat → Nat) (cT : Nat → ClassId) {Hh : Heap} {a_t : Nat} {a_p1 : Nat} {a_p2 : Nat} {a_p1_parts : Nat} {a_p1_values : Nat} {a_p1_kinds : Nat} {a_t_isBroth : Nat} {a_t_much : Nat} {a_t_many : Nat} {a_p1_lastParts : Nat} {a_p2_isBroth : Nat} {a_p2_contents : Nat} {a_p2_contents_many : Nat} {a_p2_contents_much : Nat} {a_p2_low : Nat} {a_p2_high : Nat} {a_p1_text : Nat} {a_p1_firsts : Nat} {a_p2_storesIn : Nat} {a_p2_texts : Nat} {a_p2_cooked : Nat} {p1_tokens : Int32} {p1_parts : Nat → Int32} {p1_values : Nat → Int32} {p1_kinds : Nat → Int32} {t_isBroth : Nat → Int32} {t_much : Nat → UInt32} {t_many : Nat → Int32} {p1_lastParts : Nat → Int32} {p2_isBroth : Nat → Int32} {p2_contents_many : Nat → Int32} {p2_contents_much : Nat → UInt32} {p2_low : Nat → Int32} {p2_high : Nat → Int32} {p3 : Int32} {p1_stores : Int32} {p1_mostSpoons : Int32} {p2_cauldrons : Int32} {p2_spells : Int32} {p2_cookedSoFar : Int32} {p2_storesSoFar : Int32} {o : Int32 × (Nat → Int32) × (Nat → UInt32) × (Nat → Int32)} (h : g_X3_goesStore p1_tokens p1_parts p1_values p1_kinds t_isBroth t_much t_many p1_lastParts p2_isBroth p2_contents_many p2_contents_much p2_low p2_high p3 = some o) (hP0 : va_P (dC, dI) vwCl [(a_t_isBroth, .inl (cT 1, 24, .inl t_isBroth)), (a_t_much, .inl (cT 4, 24, .inr (.inr (.inl t_much)))), (a_t_many, .inl (cT 0, 24, .inl t_many))] Hh) (hR0 : va_P (dC, dI) vwCl [(a_t, .inr (7, [.ref a_t_isBroth, .ref a_t_many, .ref a_t_much])), (a_p1, .inr (11, [.ref a_p1_text, .int p1_tokens, .int p1_stores, .int p1_mostSpoons, .ref a_p1_firsts, .ref a_p1_kinds, .ref a_p1_values, .ref a_p1_parts, .ref a_p1_lastParts])), (a_p2, .inr (4, [.int p2_cauldrons, .ref a_p2_isBroth, .ref a_p2_low, .ref a_p2_high, .ref a_p2_contents, .ref a_p2_storesIn, .int p2_spells, .ref a_p2_texts, .ref a_p2_cooked, .int p2_cookedSoFar, .int p2_storesSoFar])), (a_p1_parts, .inl (cT 0, 24, .inl p1_parts)), (a_p1_values, .inl (cT 0, 24, .inl p1_values)), (a_p1_kinds, .inl (cT 0, 24, .inl p1_kinds)), (a_p1_lastParts, .inl (cT 0, 24, .inl p1_lastParts)), (a_p2_isBroth, .inl (cT 1, 6, .inl p2_isBroth)), (a_p2_contents, .inr (5, [.ref a_p2_contents_many, .ref a_p2_contents_much])), (a_p2_contents_many, .inl (cT 0, 6, .inl p2_contents_many)), (a_p2_contents_much, .inl (cT 4, 6, .inr (.inr (.inl p2_contents_much)))), (a_p2_low, .inl (cT 0, 6, .inl p2_low)), (a_p2_high, .inl (cT 0, 6, .inl p2_high))] Hh) (hD0 : va_D (fun _ => True) [(a_t_isBroth, .inl (cT 1, 24, .inl t_isBroth)), (a_t_much, .inl (cT 4, 24, .inr (.inr (.inl t_much)))), (a_t_many, .inl (cT 0, 24, .inl t_many))]) (hN0 : ∀ (k : Nat) (q : Nat × va_E), ([(a_t, .inr (7, [.ref a_t_isBroth, .ref a_t_many, .ref a_t_much])), (a_p1, .inr (11, [.ref a_p1_text, .int p1_tokens, .int p1_stores, .int p1_mostSpoons, .ref a_p1_firsts, .ref a_p1_kinds, .ref a_p1_values, .ref a_p1_parts, .ref a_p1_lastParts])), (a_p2, .inr (4, [.int p2_cauldrons, .ref a_p2_isBroth, .ref a_p2_low, .ref a_p2_high, .ref a_p2_contents, .ref a_p2_storesIn, .int p2_spells, .ref a_p2_texts, .ref a_p2_cooked, .int p2_cookedSoFar, .int p2_storesSoFar])), (a_p1_parts, .inl (cT 0, 24, .inl p1_parts)), (a_p1_values, .inl (cT 0, 24, .inl p1_values)), (a_p1_kinds, .inl (cT 0, 24, .inl p1_kinds)), (a_p1_lastParts, .inl (cT 0, 24, .inl p1_lastParts)), (a_p2_isBroth, .inl (cT 1, 6, .inl p2_isBroth)), (a_p2_contents, .inr (5, [.ref a_p2_contents_many, .ref a_p2_contents_much])), (a_p2_contents_many, .inl (cT 0, 6, .inl p2_contents_many)), (a_p2_contents_much, .inl (cT 4, 6, .inr (.inr (.inl p2_contents_much)))), (a_p2_low, .inl (cT 0, 6, .inl p2_low)), (a_p2_high, .inl (cT 0, 6, .inl p2_high))] : va_W)[k]? = some q → ¬ va_A [(a_t_isBroth, .inl (cT 1, 24, .inl t_isBroth)), (a_t_much, .inl (cT 4, 24, .inr (.inr (.inl t_much)))), (a_t_many, .inl (cT 0, 24, .inl t_many))] Hh.size q.1) : Met l yX3_goesStore (wA yX3_goesStore cX3_goesStore 6 (some .boolean)) ({ frames := 30, cells := 0, slots := 0, locals := 826 } : Room) (PK dC dI cT [.ref a_t, .ref a_p1, .ref a_p2, .int p3] Hh) (va_Qi (fun x (_ : Unit) => x = o.1) (fun _ t => va_P (dC, dI) vwCl [(a_t_isBroth, .inl (cT 1, 24, .inl o.2.1)), (a_t_much, .inl (cT 4, 24, .inr (.inr (.inl o.2.2.1)))), (a_t_many, .inl (cT 0, 24, .inl o.2.2.2))] t.heap) (va_A [(a_t_isBroth, .inl (cT 1, 24, .inl t_isBroth)), (a_t_much, .inl (cT 4, 24, .inr (.inr (.inl t_much)))), (a_t_many, .inl (cT 0, 24, .inl t_many))] Hh.size)) 0 0 (va_A [(a_t_isBroth, .inl (cT 1, 24, .inl t_isBroth)), (a_t_much, .inl (cT 4, 24, .inr (.inr (.inl t_much)))), (a_t_many, .inl (cT 0, 24, .inl t_many))] Hh.size) := by
  refine Met.ofW (cc := cX3_goesStore) (maxL := 6) (ret := (some .boolean)) (by decide) rfl ?_
  intro p e s m args below meth c s₁ B hml hv
  obtain ⟨rfl, hH, hK⟩ := hv
  subst hH
  have hx := B.exec
  have hb := B.bytes
  have hr := B.returns
  have hta : ∀ w ∈ ALLW, w.before [.ref a_t, .ref a_p1, .ref a_p2, .int p3].toArray s = true := fun w hw => atoms_spec (ws := wA yX3_goesStore cX3_goesStore 6 (some .boolean)) B.pre w (List.mem_cons_of_mem _ hw)
  have hown : s.vm.findClass RX3 = some m.cls := findClass_of_methodNamed B.named
  have hlocks := B.notSynchronized
  have hD := hD0.self (sz := s.heap.size)
  have hNA := hN0
  generalize hAe : va_A [(a_t_isBroth, .inl (cT 1, 24, .inl t_isBroth)), (a_t_much, .inl (cT 4, 24, .inr (.inr (.inl t_much)))), (a_t_many, .inl (cT 0, 24, .inl t_many))] s.heap.size = A at hD hNA ⊢
  have hP := hP0
  have hA : ∀ q : Nat, s.heap.size ≤ q → A q := fun q h => by rw [← hAe]; exact Or.inr h
  have hS : va_S A s.heap s.heap [] := va_S.rf
  have hl := lv_entry [.ref a_t, .ref a_p1, .ref a_p2, .int p3] (n := 6) (Nat.le_of_ble_eq_true rfl)
  rw [lg_entry_eq]
  generalize (lg_sl [.ref a_t, .ref a_p1, .ref a_p2, .int p3] ++ List.replicate (6 - (lg_sl [.ref a_t, .ref a_p1, .ref a_p2, .int p3]).length) Slot.unset).toArray = ls at hl ⊢
  have hl : lv_has ls 6 [(0, .ref a_t), (1, .ref a_p1), (2, .ref a_p2), (3, .int p3)] := hl
  unfold g_X3_goesStore at h
  refine lv_aload_n hx hb dX3_goesStore_0 rfl (lv_at hl 1 rfl) ?_
  refine va_get (D := (dC, dI)) (ci := 11) (v := .ref a_p1_parts) (C := RX8) (T := TX8) (N := 9) hx hb hta inX8w hown hK (rk hR0 hNA hS) 1 rfl rfl 7 (by decide) (hta _ lk_X3_46) (fun _ h9 => h9) rfl dX3_goesStore_1 ?_
  refine lv_iload_n hx hb dX3_goesStore_4 rfl (lv_at hl 3 rfl) ?_
  obtain ⟨hc, h⟩ := gc_some h
  refine va_iald hx hb hK (rk hR0 hNA hS) 3 0 rfl rfl (inb_in hc) dX3_goesStore_5 ?_
  refine lv_topi (fun v1 e_v1 => ?_)
  have h := gl_use e_v1 h
  refine lv_istore (lv' := [(4, .int v1), (0, .ref a_t), (1, .ref a_p1), (2, .ref a_p2), (3, .int p3)]) hx hb dX3_goesStore_6 hl (by decide) rfl (fun ls hl => ?_)
  refine lv_aload_n hx hb dX3_goesStore_8 rfl (lv_at hl 2 rfl) ?_
  refine va_get (D := (dC, dI)) (ci := 11) (v := .ref a_p1_values) (C := RX8) (T := TX8) (N := 9) hx hb hta inX8w hown hK (rk hR0 hNA hS) 1 rfl rfl 6 (by decide) (hta _ lk_X3_49) (fun _ h9 => h9) rfl dX3_goesStore_9 ?_
  refine lv_iload_n hx hb dX3_goesStore_12 rfl (lv_at hl 4 rfl) ?_
  obtain ⟨hc, h⟩ := gc_some h
  refine va_iald hx hb hK (rk hR0 hNA hS) 4 0 rfl rfl (inb_in hc) dX3_goesStore_13 ?_
  refine lv_topi (fun v2 e_v2 => ?_)
  have h := gl_use e_v2 h
  refine lv_istore (lv' := [(5, .int v2), (4, .int v1), (0, .ref a_t), (1, .ref a_p1), (2, .ref a_p2), (3, .int p3)]) hx hb dX3_goesStore_14 hl (by decide) rfl (fun ls hl => ?_)
  refine lv_aload_n hx hb dX3_goesStore_16 rfl (lv_at hl 2 rfl) ?_
  refine lv_aload_n hx hb dX3_goesStore_17 rfl (lv_at hl 3 rfl) ?_
  refine lv_aload_n hx hb dX3_goesStore_18 rfl (lv_at hl 4 rfl) ?_
  refine lv_iload hx hb dX3_goesStore_19 (lv_at hl 1 rfl) ?_
  refine lv_iconst (v := 1) hx hb dX3_goesStore_21 (by decide) ?_
  obtain ⟨r3, hq, h⟩ := gb_some h
  refine cxI (X2 := [(a_t_isBroth, .inl (cT 1, 24, .inl r3.2.1)), (a_t_much, .inl (cT 4, 24, .inr (.inr (.inl r3.2.2.1)))), (a_t_many, .inl (cT 0, 24, .inl r3.2.2.2))]) (va_runV (As := [.ref a_p1, .ref a_p2, .int v1, .int 1]) (rest := []) ⟨hx, hb, hml, hown, hta⟩ (c_X3_goesPart l dC dI cT 26 hq (hP.sub (ws' := [(a_t_isBroth, .inl (cT 1, 24, .inl t_isBroth)), (a_t_much, .inl (cT 4, 24, .inr (.inr (.inl t_much)))), (a_t_many, .inl (cT 0, 24, .inl t_many))]) [0, 1, 2] rfl) ((va_P.app hP (rk hR0 hNA hS)).sub (ws' := [(a_t, .inr (7, [.ref a_t_isBroth, .ref a_t_many, .ref a_t_much])), (a_p1, .inr (11, [.ref a_p1_text, .int p1_tokens, .int p1_stores, .int p1_mostSpoons, .ref a_p1_firsts, .ref a_p1_kinds, .ref a_p1_values, .ref a_p1_parts, .ref a_p1_lastParts])), (a_p2, .inr (4, [.int p2_cauldrons, .ref a_p2_isBroth, .ref a_p2_low, .ref a_p2_high, .ref a_p2_contents, .ref a_p2_storesIn, .int p2_spells, .ref a_p2_texts, .ref a_p2_cooked, .int p2_cookedSoFar, .int p2_storesSoFar])), (a_p1_kinds, .inl (cT 0, 24, .inl p1_kinds)), (a_p1_values, .inl (cT 0, 24, .inl p1_values)), (a_p1_parts, .inl (cT 0, 24, .inl p1_parts)), (a_p1_lastParts, .inl (cT 0, 24, .inl p1_lastParts)), (a_p2_isBroth, .inl (cT 1, 6, .inl p2_isBroth)), (a_p2_contents, .inr (5, [.ref a_p2_contents_many, .ref a_p2_contents_much])), (a_p2_contents_many, .inl (cT 0, 6, .inl p2_contents_many)), (a_p2_contents_much, .inl (cT 4, 6, .inr (.inr (.inl p2_contents_much))))]) [3, 4, 5, 8, 7, 6, 9, 10, 11, 12, 13] rfl) (ds hD [0, 1, 2] (by decide) rfl) (nac hP hD [0, 1, 2] rfl (va_free hD hS hA [0, 1, 2] rfl) hNA [.inl 0, .inl 1, .inl 2, .inl 5, .inl 4, .inl 3, .inl 6, .inl 7, .inl 8, .inl 9, .inl 10] rfl rfl)) (cV hta lm_X3_52 md_X3_goesPart ⟨(Nat.le_of_ble_eq_true rfl), (Nat.le_of_ble_eq_true rfl)⟩) ⟨fbK, va_recv hK (rk hR0 hNA hS) (ci := 7) (q0 := 0) rfl rfl, fun U hU hW => ⟨rfl, hU, va_K.moved hW.alike hK⟩⟩ rfl rfl hl.1 rfl (lv_room (Nat.le_of_ble_eq_true rfl)) dX3_goesStore_22 ⟨(Nat.le_of_ble_eq_true rfl), (Nat.le_of_ble_eq_true rfl)⟩) hS hA hP hD [0, 1, 2] rfl [.inl 0, .inl 1, .inl 2] rfl rfl rfl (fun H locs hP hD hS => ?_)
  refine lv_if_eq (tgt := 40) hx hb dX3_goesStore_25 (by decide) (fun c0 => ?_) (fun c0 => ?_)
  · have h := (if_pos c0).symm.trans h
    refine lv_iconst (v := 0) hx hb dX3_goesStore_40 (by decide) ?_
    have ho := Option.some.inj h
    exact W.zret (ty := .boolean) (v := 0) hx hb hr rfl (fun t ht hW => ⟨⟨0, (), rfl, by rw [← ho], by show va_P (dC, dI) vwCl _ t.heap; rw [ht, ← ho]; exact hP⟩, hS.F ht⟩) hS.2.2 dX3_goesStore_41
  · have h := (if_neg c0).symm.trans h
    refine lv_iload hx hb dX3_goesStore_28 (lv_at hl 0 rfl) ?_
    refine lv_if_lt (tgt := 40) hx hb dX3_goesStore_30 (by decide) (fun c0 => ?_) (fun c0 => ?_)
    · have h := (if_pos c0).symm.trans h
      refine lv_iconst (v := 0) hx hb dX3_goesStore_40 (by decide) ?_
      have ho := Option.some.inj h
      exact W.zret (ty := .boolean) (v := 0) hx hb hr rfl (fun t ht hW => ⟨⟨0, (), rfl, by rw [← ho], by show va_P (dC, dI) vwCl _ t.heap; rw [ht, ← ho]; exact hP⟩, hS.F ht⟩) hS.2.2 dX3_goesStore_41
    · have h := (if_neg c0).symm.trans h
      refine lv_iload hx hb dX3_goesStore_33 (lv_at hl 0 rfl) ?_
      refine lv_bipush (v := 6) hx hb dX3_goesStore_35 (by decide) ?_
      refine lv_icmp_lt (tgt := 42) hx hb dX3_goesStore_37 (by decide) (fun c0 => ?_) (fun c0 => ?_)
      · have h := (if_pos c0).symm.trans h
        refine lv_aload_n hx hb dX3_goesStore_42 rfl (lv_at hl 2 rfl) ?_
        refine va_get (D := (dC, dI)) (ci := 7) (v := .ref a_t_isBroth) (C := RX3) (T := TX3) (N := 3) hx hb hta inX3w hown hK (rk hR0 hNA hS) 0 rfl rfl 0 (by decide) (hta _ lk_X3_9) (fun _ h9 => h9) rfl dX3_goesStore_43 ?_
        refine lv_iload hx hb dX3_goesStore_46 (lv_at hl 1 rfl) ?_
        obtain ⟨hc, h⟩ := gc_some h
        refine va_zald hx hb hK hP 0 1 rfl rfl (inb_in hc) dX3_goesStore_48 ?_
        refine lv_aload_n hx hb dX3_goesStore_49 rfl (lv_at hl 4 rfl) ?_
        refine va_get (D := (dC, dI)) (ci := 4) (v := .ref a_p2_isBroth) (C := RX0) (T := TX0) (N := 11) hx hb hta inX0w hown hK (rk hR0 hNA hS) 2 rfl rfl 1 (by decide) (hta _ lk_X3_56) (fun _ h9 => h9) rfl dX3_goesStore_50 ?_
        refine lv_iload hx hb dX3_goesStore_53 (lv_at hl 0 rfl) ?_
        obtain ⟨hc, h⟩ := gc_some h
        refine va_zald hx hb hK (rk hR0 hNA hS) 7 1 rfl rfl (inb_in hc) dX3_goesStore_55 ?_
        refine lv_icmp_eq (tgt := 61) hx hb dX3_goesStore_56 (by decide) (fun c0 => ?_) (fun c0 => ?_)
        · have h := (if_pos c0).symm.trans h
          refine lv_aload_n hx hb dX3_goesStore_61 rfl (lv_at hl 2 rfl) ?_
          refine va_get (D := (dC, dI)) (ci := 7) (v := .ref a_t_isBroth) (C := RX3) (T := TX3) (N := 3) hx hb hta inX3w hown hK (rk hR0 hNA hS) 0 rfl rfl 0 (by decide) (hta _ lk_X3_9) (fun _ h9 => h9) rfl dX3_goesStore_62 ?_
          refine lv_iload hx hb dX3_goesStore_65 (lv_at hl 1 rfl) ?_
          obtain ⟨hc, h⟩ := gc_some h
          refine va_zald hx hb hK hP 0 1 rfl rfl (inb_in hc) dX3_goesStore_67 ?_
          refine lv_if_eq (tgt := 84) hx hb dX3_goesStore_68 (by decide) (fun c0 => ?_) (fun c0 => ?_)
          · have h := (if_pos c0).symm.trans h
            refine lv_aload_n hx hb dX3_goesStore_84 rfl (lv_at hl 2 rfl) ?_
            refine lv_iload_n hx hb dX3_goesStore_85 rfl (lv_at hl 5 rfl) ?_
            refine lv_aload_n hx hb dX3_goesStore_86 rfl (lv_at hl 2 rfl) ?_
            refine va_get (D := (dC, dI)) (ci := 7) (v := .ref a_t_many) (C := RX3) (T := TX3) (N := 3) hx hb hta inX3w hown hK (rk hR0 hNA hS) 0 rfl rfl 1 (by decide) (hta _ lk_X3_15) (fun _ h9 => h9) rfl dX3_goesStore_87 ?_
            refine lv_iload hx hb dX3_goesStore_90 (lv_at hl 1 rfl) ?_
            obtain ⟨hc, h⟩ := gc_some h
            refine va_iald hx hb hK hP 2 0 rfl rfl (inb_in hc) dX3_goesStore_92 ?_
            refine lv_i2l hx hb dX3_goesStore_93 rfl ?_
            obtain ⟨r4, hq, h⟩ := gb_some h
            refine cxI (X2 := [(a_t_isBroth, .inl (cT 1, 24, .inl r4.2.1)), (a_t_much, .inl (cT 4, 24, .inr (.inr (.inl r3.2.2.1)))), (a_t_many, .inl (cT 0, 24, .inl r4.2.2))]) (va_runV (As := [.int p3, .long ((r3.2.2.2 v1.toNatClampNeg).toInt64)]) (rest := []) ⟨hx, hb, hml, hown, hta⟩ (c_X3_givesDrams l dC dI cT hq (hP.sub (ws' := [(a_t_isBroth, .inl (cT 1, 24, .inl r3.2.1)), (a_t_many, .inl (cT 0, 24, .inl r3.2.2.2))]) [0, 2] rfl) ((va_P.app hP (rk hR0 hNA hS)).sub (ws' := [(a_t, .inr (7, [.ref a_t_isBroth, .ref a_t_many, .ref a_t_much]))]) [3] rfl) (ds hD [0, 2] (by decide) rfl) (nac hP hD [0, 2] rfl (va_free hD hS hA [0, 2] rfl) hNA [.inl 0] rfl rfl)) (cV hta lm_X3_61 md_X3_givesDrams ⟨(Nat.le_of_ble_eq_true rfl), (Nat.le_of_ble_eq_true rfl)⟩) ⟨fbK, va_recv hK (rk hR0 hNA hS) (ci := 7) (q0 := 0) rfl rfl, fun U hU hW => ⟨rfl, hU, va_K.moved hW.alike hK⟩⟩ rfl rfl hl.1 rfl (lv_room (Nat.le_of_ble_eq_true rfl)) dX3_goesStore_94 ⟨(Nat.le_of_ble_eq_true rfl), (Nat.le_of_ble_eq_true rfl)⟩) hS hA hP hD [0, 2] rfl [.inl 0, .inr 1, .inl 1] rfl rfl rfl (fun H locs hP hD hS => ?_)
            refine lv_if_eq (tgt := 121) hx hb dX3_goesStore_97 (by decide) (fun c0 => ?_) (fun c0 => ?_)
            · have h := (if_pos c0).symm.trans h
              refine lv_iconst (v := 0) hx hb dX3_goesStore_121 (by decide) ?_
              have ho := Option.some.inj h
              exact W.zret (ty := .boolean) (v := 0) hx hb hr rfl (fun t ht hW => ⟨⟨0, (), rfl, by rw [← ho], by show va_P (dC, dI) vwCl _ t.heap; rw [ht, ← ho]; exact hP⟩, hS.F ht⟩) hS.2.2 dX3_goesStore_122
            · have h := (if_neg c0).symm.trans h
              refine lv_aload_n hx hb dX3_goesStore_100 rfl (lv_at hl 4 rfl) ?_
              refine lv_iload hx hb dX3_goesStore_101 (lv_at hl 0 rfl) ?_
              refine lv_aload_n hx hb dX3_goesStore_103 rfl (lv_at hl 2 rfl) ?_
              refine va_get (D := (dC, dI)) (ci := 7) (v := .ref a_t_many) (C := RX3) (T := TX3) (N := 3) hx hb hta inX3w hown hK (rk hR0 hNA hS) 0 rfl rfl 1 (by decide) (hta _ lk_X3_15) (fun _ h9 => h9) rfl dX3_goesStore_104 ?_
              refine lv_iload hx hb dX3_goesStore_107 (lv_at hl 1 rfl) ?_
              obtain ⟨hc, h⟩ := gc_some h
              refine va_iald hx hb hK hP 2 0 rfl rfl (inb_in hc) dX3_goesStore_109 ?_
              refine lv_i2l hx hb dX3_goesStore_110 rfl ?_
              obtain ⟨r5, hq, h⟩ := gb_some h
              refine crI (va_runV (As := [.int v2, .long ((r4.2.2 v1.toNatClampNeg).toInt64)]) (rest := []) ⟨hx, hb, hml, hown, hta⟩ (c_X0_holds l dC dI cT hq ((rk hR0 hNA hS).sub (ws' := [(a_p2, .inr (4, [.int p2_cauldrons, .ref a_p2_isBroth, .ref a_p2_low, .ref a_p2_high, .ref a_p2_contents, .ref a_p2_storesIn, .int p2_spells, .ref a_p2_texts, .ref a_p2_cooked, .int p2_cookedSoFar, .int p2_storesSoFar])), (a_p2_low, .inl (cT 0, 6, .inl p2_low)), (a_p2_high, .inl (cT 0, 6, .inl p2_high))]) [2, 11, 12] rfl)) (cV hta lm_X3_65 md_X0_holds ⟨(Nat.le_of_ble_eq_true rfl), (Nat.le_of_ble_eq_true rfl)⟩) ⟨fbK, va_recv hK (rk hR0 hNA hS) (ci := 4) (q0 := 2) rfl rfl, fun U hU hW => ⟨rfl, hU, va_K.moved hW.alike hK⟩⟩ rfl rfl hl.1 rfl (lv_room (Nat.le_of_ble_eq_true rfl)) dX3_goesStore_111 ⟨(Nat.le_of_ble_eq_true rfl), (Nat.le_of_ble_eq_true rfl)⟩) hS hA (fun locs hS => ?_)
              refine lv_if_eq (tgt := 121) hx hb dX3_goesStore_114 (by decide) (fun c0 => ?_) (fun c0 => ?_)
              · have h := (if_pos c0).symm.trans h
                refine lv_iconst (v := 0) hx hb dX3_goesStore_121 (by decide) ?_
                have ho := Option.some.inj h
                exact W.zret (ty := .boolean) (v := 0) hx hb hr rfl (fun t ht hW => ⟨⟨0, (), rfl, by rw [← ho], by show va_P (dC, dI) vwCl _ t.heap; rw [ht, ← ho]; exact hP⟩, hS.F ht⟩) hS.2.2 dX3_goesStore_122
              · have h := (if_neg c0).symm.trans h
                refine lv_iconst (v := 1) hx hb dX3_goesStore_117 (by decide) ?_
                refine lv_goto (tgt := 122) hx hb dX3_goesStore_118 (by decide) ?_
                have ho := Option.some.inj h
                exact W.zret (ty := .boolean) (v := 1) hx hb hr rfl (fun t ht hW => ⟨⟨1, (), rfl, by rw [← ho], by show va_P (dC, dI) vwCl _ t.heap; rw [ht, ← ho]; exact hP⟩, hS.F ht⟩) hS.2.2 dX3_goesStore_122
          · have h := (if_neg c0).symm.trans h
            refine lv_aload_n hx hb dX3_goesStore_71 rfl (lv_at hl 2 rfl) ?_
            refine lv_iload_n hx hb dX3_goesStore_72 rfl (lv_at hl 5 rfl) ?_
            refine lv_aload_n hx hb dX3_goesStore_73 rfl (lv_at hl 2 rfl) ?_
            refine va_get (D := (dC, dI)) (ci := 7) (v := .ref a_t_much) (C := RX3) (T := TX3) (N := 3) hx hb hta inX3w hown hK (rk hR0 hNA hS) 0 rfl rfl 2 (by decide) (hta _ lk_X3_19) (fun _ h9 => h9) rfl dX3_goesStore_74 ?_
            refine lv_iload hx hb dX3_goesStore_77 (lv_at hl 1 rfl) ?_
            obtain ⟨hc, h⟩ := gc_some h
            refine va_fald hx hb hK hP 1 4 rfl rfl (inb_in hc) dX3_goesStore_79 ?_
            obtain ⟨r6, hq, h⟩ := gb_some h
            refine cxI (X2 := [(a_t_isBroth, .inl (cT 1, 24, .inl r6.2.1)), (a_t_much, .inl (cT 4, 24, .inr (.inr (.inl r6.2.2)))), (a_t_many, .inl (cT 0, 24, .inl r3.2.2.2))]) (va_runV (As := [.int p3, .float (r3.2.2.1 v1.toNatClampNeg)]) (rest := []) ⟨hx, hb, hml, hown, hta⟩ (c_X3_givesBroth l dC dI cT hq (hP.sub (ws' := [(a_t_isBroth, .inl (cT 1, 24, .inl r3.2.1)), (a_t_much, .inl (cT 4, 24, .inr (.inr (.inl r3.2.2.1))))]) [0, 1] rfl) ((va_P.app hP (rk hR0 hNA hS)).sub (ws' := [(a_t, .inr (7, [.ref a_t_isBroth, .ref a_t_many, .ref a_t_much]))]) [3] rfl) (ds hD [0, 1] (by decide) rfl) (nac hP hD [0, 1] rfl (va_free hD hS hA [0, 1] rfl) hNA [.inl 0] rfl rfl)) (cV hta lm_X3_57 md_X3_givesBroth ⟨(Nat.le_of_ble_eq_true rfl), (Nat.le_of_ble_eq_true rfl)⟩) ⟨fbK, va_recv hK (rk hR0 hNA hS) (ci := 7) (q0 := 0) rfl rfl, fun U hU hW => ⟨rfl, hU, va_K.moved hW.alike hK⟩⟩ rfl rfl hl.1 rfl (lv_room (Nat.le_of_ble_eq_true rfl)) dX3_goesStore_80 ⟨(Nat.le_of_ble_eq_true rfl), (Nat.le_of_ble_eq_true rfl)⟩) hS hA hP hD [0, 1] rfl [.inl 0, .inl 1, .inr 2] rfl rfl rfl (fun H locs hP hD hS => ?_)
            obtain ⟨hc, h⟩ := gc_some h
            have ho := Option.some.inj h
            exact W.zret (ty := .boolean) (v := r6.1) hx hb hr (bo_n hc) (fun t ht hW => ⟨⟨r6.1, (), rfl, by rw [← ho], by show va_P (dC, dI) vwCl _ t.heap; rw [ht, ← ho]; exact hP⟩, hS.F ht⟩) hS.2.2 dX3_goesStore_83
        · have h := (if_neg c0).symm.trans h
          refine lv_iconst (v := 0) hx hb dX3_goesStore_59 (by decide) ?_
          have ho := Option.some.inj h
          exact W.zret (ty := .boolean) (v := 0) hx hb hr rfl (fun t ht hW => ⟨⟨0, (), rfl, by rw [← ho], by show va_P (dC, dI) vwCl _ t.heap; rw [ht, ← ho]; exact hP⟩, hS.F ht⟩) hS.2.2 dX3_goesStore_60
      · have h := (if_neg c0).symm.trans h
        refine lv_iconst (v := 0) hx hb dX3_goesStore_40 (by decide) ?_
        have ho := Option.some.inj h
        exact W.zret (ty := .boolean) (v := 0) hx hb hr rfl (fun t ht hW => ⟨⟨0, (), rfl, by rw [← ho], by show va_P (dC, dI) vwCl _ t.heap; rw [ht, ← ho]; exact hP⟩, hS.F ht⟩) hS.2.2 dX3_goesStore_41
set_option maxHeartbeats 4000000 in
set_option maxRecDepth 100000 in
theorem c_X3_goesWell (l : Launch) (dC : Nat → ClassId) (dI : Nat → Nat → Nat) (cT : Nat → ClassId) {Hh : Heap} {a_t : Nat} {a_p1 : Nat} {a_p2 : Nat} {a_p1_kinds : Nat} {a_p1_parts : Nat} {a_p1_values : Nat} {a_t_isBroth : Nat} {a_t_much : Nat} {a_t_many : Nat} {a_p1_lastParts : Nat} {a_p2_isBroth : Nat} {a_p2_contents : Nat} {a_p2_contents_many : Nat} {a_p2_contents_much : Nat} {a_p2_low : Nat} {a_p2_high : Nat} {a_p1_text : Nat} {a_p1_firsts : Nat} {a_p2_storesIn : Nat} {a_p2_texts : Nat} {a_p2_cooked : Nat} {p1_tokens : Int32} {p1_kinds : Nat → Int32} {p1_parts : Nat → Int32} {p1_values : Nat → Int32} {t_isBroth : Nat → Int32} {t_much : Nat → UInt32} {t_many : Nat → Int32} {p1_lastParts : Nat → Int32} {p2_isBroth : Nat → Int32} {p2_contents_many : Nat → Int32} {p2_contents_much : Nat → UInt32} {p2_low : Nat → Int32} {p2_high : Nat → Int32} {p1_stores : Int32} {p1_mostSpoons : Int32} {p2_cauldrons : Int32} {p2_spells : Int32} {p2_cookedSoFar : Int32} {p2_storesSoFar : Int32} {o : Int32 × (Nat → Int32) × (Nat → UInt32) × (Nat → Int32)} (h : g_X3_goesWell p1_tokens p1_kinds p1_parts p1_values t_isBroth t_much t_many p1_lastParts p2_isBroth p2_contents_many p2_contents_much p2_low p2_high = some o) (hP0 : va_P (dC, dI) vwCl [(a_t_isBroth, .inl (cT 1, 24, .inl t_isBroth)), (a_t_much, .inl (cT 4, 24, .inr (.inr (.inl t_much)))), (a_t_many, .inl (cT 0, 24, .inl t_many))] Hh) (hR0 : va_P (dC, dI) vwCl [(a_t, .inr (7, [.ref a_t_isBroth, .ref a_t_many, .ref a_t_much])), (a_p1, .inr (11, [.ref a_p1_text, .int p1_tokens, .int p1_stores, .int p1_mostSpoons, .ref a_p1_firsts, .ref a_p1_kinds, .ref a_p1_values, .ref a_p1_parts, .ref a_p1_lastParts])), (a_p2, .inr (4, [.int p2_cauldrons, .ref a_p2_isBroth, .ref a_p2_low, .ref a_p2_high, .ref a_p2_contents, .ref a_p2_storesIn, .int p2_spells, .ref a_p2_texts, .ref a_p2_cooked, .int p2_cookedSoFar, .int p2_storesSoFar])), (a_p1_kinds, .inl (cT 0, 24, .inl p1_kinds)), (a_p1_parts, .inl (cT 0, 24, .inl p1_parts)), (a_p1_values, .inl (cT 0, 24, .inl p1_values)), (a_p1_lastParts, .inl (cT 0, 24, .inl p1_lastParts)), (a_p2_isBroth, .inl (cT 1, 6, .inl p2_isBroth)), (a_p2_contents, .inr (5, [.ref a_p2_contents_many, .ref a_p2_contents_much])), (a_p2_contents_many, .inl (cT 0, 6, .inl p2_contents_many)), (a_p2_contents_much, .inl (cT 4, 6, .inr (.inr (.inl p2_contents_much)))), (a_p2_low, .inl (cT 0, 6, .inl p2_low)), (a_p2_high, .inl (cT 0, 6, .inl p2_high))] Hh) (hD0 : va_D (fun _ => True) [(a_t_isBroth, .inl (cT 1, 24, .inl t_isBroth)), (a_t_much, .inl (cT 4, 24, .inr (.inr (.inl t_much)))), (a_t_many, .inl (cT 0, 24, .inl t_many))]) (hN0 : ∀ (k : Nat) (q : Nat × va_E), ([(a_t, .inr (7, [.ref a_t_isBroth, .ref a_t_many, .ref a_t_much])), (a_p1, .inr (11, [.ref a_p1_text, .int p1_tokens, .int p1_stores, .int p1_mostSpoons, .ref a_p1_firsts, .ref a_p1_kinds, .ref a_p1_values, .ref a_p1_parts, .ref a_p1_lastParts])), (a_p2, .inr (4, [.int p2_cauldrons, .ref a_p2_isBroth, .ref a_p2_low, .ref a_p2_high, .ref a_p2_contents, .ref a_p2_storesIn, .int p2_spells, .ref a_p2_texts, .ref a_p2_cooked, .int p2_cookedSoFar, .int p2_storesSoFar])), (a_p1_kinds, .inl (cT 0, 24, .inl p1_kinds)), (a_p1_parts, .inl (cT 0, 24, .inl p1_parts)), (a_p1_values, .inl (cT 0, 24, .inl p1_values)), (a_p1_lastParts, .inl (cT 0, 24, .inl p1_lastParts)), (a_p2_isBroth, .inl (cT 1, 6, .inl p2_isBroth)), (a_p2_contents, .inr (5, [.ref a_p2_contents_many, .ref a_p2_contents_much])), (a_p2_contents_many, .inl (cT 0, 6, .inl p2_contents_many)), (a_p2_contents_much, .inl (cT 4, 6, .inr (.inr (.inl p2_contents_much)))), (a_p2_low, .inl (cT 0, 6, .inl p2_low)), (a_p2_high, .inl (cT 0, 6, .inl p2_high))] : va_W)[k]? = some q → ¬ va_A [(a_t_isBroth, .inl (cT 1, 24, .inl t_isBroth)), (a_t_much, .inl (cT 4, 24, .inr (.inr (.inl t_much)))), (a_t_many, .inl (cT 0, 24, .inl t_many))] Hh.size q.1) : Met l yX3_goesWell (wA yX3_goesWell cX3_goesWell 4 (some .boolean)) ({ frames := 31, cells := 0, slots := 0, locals := 851 } : Room) (PK dC dI cT [.ref a_t, .ref a_p1, .ref a_p2] Hh) (va_Qi (fun x (_ : Unit) => x = o.1) (fun _ t => va_P (dC, dI) vwCl [(a_t_isBroth, .inl (cT 1, 24, .inl o.2.1)), (a_t_much, .inl (cT 4, 24, .inr (.inr (.inl o.2.2.1)))), (a_t_many, .inl (cT 0, 24, .inl o.2.2.2))] t.heap) (va_A [(a_t_isBroth, .inl (cT 1, 24, .inl t_isBroth)), (a_t_much, .inl (cT 4, 24, .inr (.inr (.inl t_much)))), (a_t_many, .inl (cT 0, 24, .inl t_many))] Hh.size)) 0 0 (va_A [(a_t_isBroth, .inl (cT 1, 24, .inl t_isBroth)), (a_t_much, .inl (cT 4, 24, .inr (.inr (.inl t_much)))), (a_t_many, .inl (cT 0, 24, .inl t_many))] Hh.size) := by
  refine Met.ofW (cc := cX3_goesWell) (maxL := 4) (ret := (some .boolean)) (by decide) rfl ?_
  intro p e s m args below meth c s₁ B hml hv
  obtain ⟨rfl, hH, hK⟩ := hv
  subst hH
  have hx := B.exec
  have hb := B.bytes
  have hr := B.returns
  have hta : ∀ w ∈ ALLW, w.before [.ref a_t, .ref a_p1, .ref a_p2].toArray s = true := fun w hw => atoms_spec (ws := wA yX3_goesWell cX3_goesWell 4 (some .boolean)) B.pre w (List.mem_cons_of_mem _ hw)
  have hown : s.vm.findClass RX3 = some m.cls := findClass_of_methodNamed B.named
  have hlocks := B.notSynchronized
  have hD := hD0.self (sz := s.heap.size)
  have hNA := hN0
  generalize hAe : va_A [(a_t_isBroth, .inl (cT 1, 24, .inl t_isBroth)), (a_t_much, .inl (cT 4, 24, .inr (.inr (.inl t_much)))), (a_t_many, .inl (cT 0, 24, .inl t_many))] s.heap.size = A at hD hNA ⊢
  have hP := hP0
  have hA : ∀ q : Nat, s.heap.size ≤ q → A q := fun q h => by rw [← hAe]; exact Or.inr h
  have hS : va_S A s.heap s.heap [] := va_S.rf
  have hl := lv_entry [.ref a_t, .ref a_p1, .ref a_p2] (n := 4) (Nat.le_of_ble_eq_true rfl)
  rw [lg_entry_eq]
  generalize (lg_sl [.ref a_t, .ref a_p1, .ref a_p2] ++ List.replicate (4 - (lg_sl [.ref a_t, .ref a_p1, .ref a_p2]).length) Slot.unset).toArray = ls at hl ⊢
  have hl : lv_has ls 4 [(0, .ref a_t), (1, .ref a_p1), (2, .ref a_p2)] := hl
  obtain ⟨Q, hQ⟩ : ∃ Q, Q = MQ below (va_Qi (fun x (_ : Unit) => x = o.1) (fun _ t => va_P (dC, dI) vwCl [(a_t_isBroth, .inl (cT 1, 24, .inl o.2.1)), (a_t_much, .inl (cT 4, 24, .inr (.inr (.inl o.2.2.1)))), (a_t_many, .inl (cT 0, 24, .inl o.2.2.2))] t.heap) A) [.ref a_t, .ref a_p1, .ref a_p2].toArray s 0 0 A := ⟨_, rfl⟩
  rw [← hQ]
  have wB_2 : ∀ (n_2 : Nat), ∀ (t_isBroth_2 : Nat → Int32) (t_many_2 : Nat → Int32) (t_much_2 : Nat → UInt32) (x3_2 : Int32) (H : Heap) (locs : List Loc) (ls : Array Slot), g_X3_goesWell_b2 p1_tokens p1_kinds p1_parts p1_values p1_lastParts p2_isBroth p2_contents_many p2_contents_much p2_low p2_high n_2 t_isBroth_2 t_many_2 t_much_2 x3_2 = some o → va_P (dC, dI) vwCl [(a_t_isBroth, .inl (cT 1, 24, .inl t_isBroth_2)), (a_t_much, .inl (cT 4, 24, .inr (.inr (.inl t_much_2)))), (a_t_many, .inl (cT 0, 24, .inl t_many_2))] H → va_D A [(a_t_isBroth, .inl (cT 1, 24, .inl t_isBroth_2)), (a_t_much, .inl (cT 4, 24, .inr (.inr (.inl t_much_2)))), (a_t_many, .inl (cT 0, 24, .inl t_many_2))] → va_S A s.heap H locs → lv_has ls 4 [(0, .ref a_t), (1, .ref a_p1), (2, .ref a_p2), (3, .int x3_2)] → W p l e ({ frames := 31, cells := 0, slots := 0, locals := 851 } : Room) s m [.ref a_t, .ref a_p1, .ref a_p2].toArray below meth c H locs 0 0 Q (F0 m 2 ls []) := by
    intro n_2
    induction n_2 with
    | zero =>
      intro t_isBroth_2 t_many_2 t_much_2 x3_2 H locs ls h hP hD hS hl
      simp [g_X3_goesWell_b2] at h
    | succ n_2 ih_2 =>
      have wB_33 : ∀ (t_isBroth_33 : Nat → Int32) (t_many_33 : Nat → Int32) (t_much_33 : Nat → UInt32) (x3_33 : Int32) (H : Heap) (locs : List Loc) (ls : Array Slot), g_X3_goesWell_b33 p1_tokens p1_kinds p1_parts p1_values p1_lastParts p2_isBroth p2_contents_many p2_contents_much p2_low p2_high (g_X3_goesWell_b2 p1_tokens p1_kinds p1_parts p1_values p1_lastParts p2_isBroth p2_contents_many p2_contents_much p2_low p2_high n_2) t_isBroth_33 t_many_33 t_much_33 x3_33 = some o → va_P (dC, dI) vwCl [(a_t_isBroth, .inl (cT 1, 24, .inl t_isBroth_33)), (a_t_much, .inl (cT 4, 24, .inr (.inr (.inl t_much_33)))), (a_t_many, .inl (cT 0, 24, .inl t_many_33))] H → va_D A [(a_t_isBroth, .inl (cT 1, 24, .inl t_isBroth_33)), (a_t_much, .inl (cT 4, 24, .inr (.inr (.inl t_much_33)))), (a_t_many, .inl (cT 0, 24, .inl t_many_33))] → va_S A s.heap H locs → lv_has ls 4 [(0, .ref a_t), (1, .ref a_p1), (2, .ref a_p2), (3, .int x3_33)] → W p l e ({ frames := 31, cells := 0, slots := 0, locals := 851 } : Room) s m [.ref a_t, .ref a_p1, .ref a_p2].toArray below meth c H locs 0 0 Q (F0 m 33 ls []) := by
        intro t_isBroth_33 t_many_33 t_much_33 x3_33 H locs ls h hP hD hS hl
        unfold g_X3_goesWell_b33 at h
        obtain ⟨v1, e_v1⟩ : ∃ y : Int32, y = x3_33 + 1 := ⟨_, rfl⟩
        have h := gl_use e_v1 h
        refine lv_iinc (v := v1) (lv' := [(3, .int v1), (0, .ref a_t), (1, .ref a_p1), (2, .ref a_p2)]) hx hb dX3_goesWell_33 hl (k := 3) rfl (by rw [e_v1]; rfl) (by decide) rfl (fun ls hl => ?_)
        refine lv_goto (tgt := 2) hx hb dX3_goesWell_36 (by decide) ?_
        exact ih_2 t_isBroth_33 t_many_33 t_much_33 v1 _ _ _ h hP hD hS (lv_sub hl [1, 2, 3, 0] rfl)
      intro t_isBroth_2 t_many_2 t_much_2 x3_2 H locs ls h hP hD hS hl
      rw [g_X3_goesWell_b2] at h
      refine lv_iload_n hx hb dX3_goesWell_2 rfl (lv_at hl 3 rfl) ?_
      refine lv_aload_n hx hb dX3_goesWell_3 rfl (lv_at hl 1 rfl) ?_
      refine va_get (D := (dC, dI)) (ci := 11) (v := .int p1_tokens) (C := RX8) (T := TX8) (N := 9) hx hb hta inX8w hown hK (rk hR0 hNA hS) 1 rfl rfl 1 (by decide) (hta _ lk_X3_23) (fun _ h9 => h9) rfl dX3_goesWell_4 ?_
      refine lv_icmp_ge (tgt := 39) hx hb dX3_goesWell_7 (by decide) (fun c0 => ?_) (fun c0 => ?_)
      · have h := (if_pos c0).symm.trans h
        refine lv_iconst (v := 1) hx hb dX3_goesWell_39 (by decide) ?_
        have ho := Option.some.inj h
        rw [hQ]
        exact W.zret (ty := .boolean) (v := 1) hx hb hr rfl (fun t ht hW => ⟨⟨1, (), rfl, by rw [← ho], by show va_P (dC, dI) vwCl _ t.heap; rw [ht, ← ho]; exact hP⟩, hS.F ht⟩) hS.2.2 dX3_goesWell_40
      · have h := (if_neg c0).symm.trans h
        refine lv_aload_n hx hb dX3_goesWell_10 rfl (lv_at hl 1 rfl) ?_
        refine va_get (D := (dC, dI)) (ci := 11) (v := .ref a_p1_kinds) (C := RX8) (T := TX8) (N := 9) hx hb hta inX8w hown hK (rk hR0 hNA hS) 1 rfl rfl 5 (by decide) (hta _ lk_X3_29) (fun _ h9 => h9) rfl dX3_goesWell_11 ?_
        refine lv_iload_n hx hb dX3_goesWell_14 rfl (lv_at hl 3 rfl) ?_
        obtain ⟨hc, h⟩ := gc_some h
        refine va_iald hx hb hK (rk hR0 hNA hS) 3 0 rfl rfl (inb_in hc) dX3_goesWell_15 ?_
        refine lv_bipush (v := 7) hx hb dX3_goesWell_16 (by decide) ?_
        refine lv_icmp_ne (tgt := 33) hx hb dX3_goesWell_18 (by decide) (fun c0 => ?_) (fun c0 => ?_)
        · have h := (if_neg c0).symm.trans h
          exact wB_33 t_isBroth_2 t_many_2 t_much_2 x3_2 _ _ _ h hP hD hS (lv_sub hl [0, 1, 2, 3] rfl)
        · have h := (if_pos c0).symm.trans h
          refine lv_aload_n hx hb dX3_goesWell_21 rfl (lv_at hl 0 rfl) ?_
          refine lv_aload_n hx hb dX3_goesWell_22 rfl (lv_at hl 1 rfl) ?_
          refine lv_aload_n hx hb dX3_goesWell_23 rfl (lv_at hl 2 rfl) ?_
          refine lv_iload_n hx hb dX3_goesWell_24 rfl (lv_at hl 3 rfl) ?_
          obtain ⟨r2, hq, h⟩ := gb_some h
          refine cxI (X2 := [(a_t_isBroth, .inl (cT 1, 24, .inl r2.2.1)), (a_t_much, .inl (cT 4, 24, .inr (.inr (.inl r2.2.2.1)))), (a_t_many, .inl (cT 0, 24, .inl r2.2.2.2))]) (va_runV (As := [.ref a_p1, .ref a_p2, .int x3_2]) (rest := []) ⟨hx, hb, hml, hown, hta⟩ (c_X3_goesStore l dC dI cT hq (hP.sub (ws' := [(a_t_isBroth, .inl (cT 1, 24, .inl t_isBroth_2)), (a_t_much, .inl (cT 4, 24, .inr (.inr (.inl t_much_2)))), (a_t_many, .inl (cT 0, 24, .inl t_many_2))]) [0, 1, 2] rfl) ((va_P.app hP (rk hR0 hNA hS)).sub (ws' := [(a_t, .inr (7, [.ref a_t_isBroth, .ref a_t_many, .ref a_t_much])), (a_p1, .inr (11, [.ref a_p1_text, .int p1_tokens, .int p1_stores, .int p1_mostSpoons, .ref a_p1_firsts, .ref a_p1_kinds, .ref a_p1_values, .ref a_p1_parts, .ref a_p1_lastParts])), (a_p2, .inr (4, [.int p2_cauldrons, .ref a_p2_isBroth, .ref a_p2_low, .ref a_p2_high, .ref a_p2_contents, .ref a_p2_storesIn, .int p2_spells, .ref a_p2_texts, .ref a_p2_cooked, .int p2_cookedSoFar, .int p2_storesSoFar])), (a_p1_parts, .inl (cT 0, 24, .inl p1_parts)), (a_p1_values, .inl (cT 0, 24, .inl p1_values)), (a_p1_kinds, .inl (cT 0, 24, .inl p1_kinds)), (a_p1_lastParts, .inl (cT 0, 24, .inl p1_lastParts)), (a_p2_isBroth, .inl (cT 1, 6, .inl p2_isBroth)), (a_p2_contents, .inr (5, [.ref a_p2_contents_many, .ref a_p2_contents_much])), (a_p2_contents_many, .inl (cT 0, 6, .inl p2_contents_many)), (a_p2_contents_much, .inl (cT 4, 6, .inr (.inr (.inl p2_contents_much)))), (a_p2_low, .inl (cT 0, 6, .inl p2_low)), (a_p2_high, .inl (cT 0, 6, .inl p2_high))]) [3, 4, 5, 7, 8, 6, 9, 10, 11, 12, 13, 14, 15] rfl) (ds hD [0, 1, 2] (by decide) rfl) (nac hP hD [0, 1, 2] rfl (va_free hD hS hA [0, 1, 2] rfl) hNA [.inl 0, .inl 1, .inl 2, .inl 4, .inl 5, .inl 3, .inl 6, .inl 7, .inl 8, .inl 9, .inl 10, .inl 11, .inl 12] rfl rfl)) (cV hta lm_X3_32 md_X3_goesStore ⟨(Nat.le_of_ble_eq_true rfl), (Nat.le_of_ble_eq_true rfl)⟩) ⟨fbK, va_recv hK (rk hR0 hNA hS) (ci := 7) (q0 := 0) rfl rfl, fun U hU hW => ⟨rfl, hU, va_K.moved hW.alike hK⟩⟩ rfl rfl hl.1 rfl (lv_room (Nat.le_of_ble_eq_true rfl)) dX3_goesWell_25 ⟨(Nat.le_of_ble_eq_true rfl), (Nat.le_of_ble_eq_true rfl)⟩) hS hA hP hD [0, 1, 2] rfl [.inl 0, .inl 1, .inl 2] rfl rfl rfl (fun H locs hP hD hS => ?_)
          refine lv_if_ne (tgt := 33) hx hb dX3_goesWell_28 (by decide) (fun c0 => ?_) (fun c0 => ?_)
          · have h := (if_neg c0).symm.trans h
            exact wB_33 r2.2.1 r2.2.2.2 r2.2.2.1 x3_2 _ _ _ h hP hD hS (lv_sub hl [0, 1, 2, 3] rfl)
          · have h := (if_pos c0).symm.trans h
            refine lv_iconst (v := 0) hx hb dX3_goesWell_31 (by decide) ?_
            have ho := Option.some.inj h
            rw [hQ]
            exact W.zret (ty := .boolean) (v := 0) hx hb hr rfl (fun t ht hW => ⟨⟨0, (), rfl, by rw [← ho], by show va_P (dC, dI) vwCl _ t.heap; rw [ht, ← ho]; exact hP⟩, hS.F ht⟩) hS.2.2 dX3_goesWell_32
  unfold g_X3_goesWell at h
  refine lv_iconst (v := 0) hx hb dX3_goesWell_0 (by decide) ?_
  refine lv_istore_n (lv' := [(3, .int 0), (0, .ref a_t), (1, .ref a_p1), (2, .ref a_p2)]) hx hb dX3_goesWell_1 rfl hl (by decide) rfl (fun ls hl => ?_)
  exact wB_2 100 t_isBroth t_many t_much 0 _ _ _ h hP hD hS (lv_sub hl [1, 2, 3, 0] rfl)
set_option maxHeartbeats 4000000 in
set_option maxRecDepth 100000 in
theorem c_X3_leaves (l : Launch) (dC : Nat → ClassId) (dI : Nat → Nat → Nat) (cT : Nat → ClassId) {Hh : Heap} {a_t : Nat} {a_p1 : Nat} {a_p2 : Nat} {a_p1_kinds : Nat} {a_p1_values : Nat} {a_t_isBroth : Nat} {a_t_many : Nat} {a_t_much : Nat} {a_p2_contents : Nat} {a_p2_isBroth : Nat} {a_p2_contents_many : Nat} {a_p2_contents_much : Nat} {a_p1_text : Nat} {a_p1_firsts : Nat} {a_p1_parts : Nat} {a_p1_lastParts : Nat} {a_p2_low : Nat} {a_p2_high : Nat} {a_p2_storesIn : Nat} {a_p2_texts : Nat} {a_p2_cooked : Nat} {p1_tokens : Int32} {p1_kinds : Nat → Int32} {p1_values : Nat → Int32} {t_isBroth : Nat → Int32} {t_many : Nat → Int32} {t_much : Nat → UInt32} {p2_isBroth : Nat → Int32} {p2_contents_many : Nat → Int32} {p2_contents_much : Nat → UInt32} {p3 : Int32} {p1_stores : Int32} {p1_mostSpoons : Int32} {p2_cauldrons : Int32} {p2_spells : Int32} {p2_cookedSoFar : Int32} {p2_storesSoFar : Int32} {o : Int32} (h : g_X3_leaves p1_tokens p1_kinds p1_values t_isBroth t_many t_much p2_isBroth p2_contents_many p2_contents_much p3 = some o) (hR0 : va_P (dC, dI) vwCl [(a_t, .inr (7, [.ref a_t_isBroth, .ref a_t_many, .ref a_t_much])), (a_p1, .inr (11, [.ref a_p1_text, .int p1_tokens, .int p1_stores, .int p1_mostSpoons, .ref a_p1_firsts, .ref a_p1_kinds, .ref a_p1_values, .ref a_p1_parts, .ref a_p1_lastParts])), (a_p2, .inr (4, [.int p2_cauldrons, .ref a_p2_isBroth, .ref a_p2_low, .ref a_p2_high, .ref a_p2_contents, .ref a_p2_storesIn, .int p2_spells, .ref a_p2_texts, .ref a_p2_cooked, .int p2_cookedSoFar, .int p2_storesSoFar])), (a_p1_kinds, .inl (cT 0, 24, .inl p1_kinds)), (a_p1_values, .inl (cT 0, 24, .inl p1_values)), (a_t_isBroth, .inl (cT 1, 24, .inl t_isBroth)), (a_t_many, .inl (cT 0, 24, .inl t_many)), (a_t_much, .inl (cT 4, 24, .inr (.inr (.inl t_much)))), (a_p2_contents, .inr (5, [.ref a_p2_contents_many, .ref a_p2_contents_much])), (a_p2_isBroth, .inl (cT 1, 6, .inl p2_isBroth)), (a_p2_contents_many, .inl (cT 0, 6, .inl p2_contents_many)), (a_p2_contents_much, .inl (cT 4, 6, .inr (.inr (.inl p2_contents_much))))] Hh) : Met l yX3_leaves (wA yX3_leaves cX3_leaves 5 (some .int)) ({ frames := 2, cells := 0, slots := 0, locals := 45 } : Room) (PK dC dI cT [.ref a_t, .ref a_p1, .ref a_p2, .int p3] Hh) (va_Qi (fun x (_ : Unit) => x = o) (fun _ t => t.heap = Hh) (va_A [] Hh.size)) 0 0 (va_A [] Hh.size) := by
  refine Met.ofW (cc := cX3_leaves) (maxL := 5) (ret := (some .int)) (by decide) rfl ?_
  intro p e s m args below meth c s₁ B hml hv
  obtain ⟨rfl, hH, hK⟩ := hv
  subst hH
  have hx := B.exec
  have hb := B.bytes
  have hr := B.returns
  have hta : ∀ w ∈ ALLW, w.before [.ref a_t, .ref a_p1, .ref a_p2, .int p3].toArray s = true := fun w hw => atoms_spec (ws := wA yX3_leaves cX3_leaves 5 (some .int)) B.pre w (List.mem_cons_of_mem _ hw)
  have hown : s.vm.findClass RX3 = some m.cls := findClass_of_methodNamed B.named
  have hlocks := B.notSynchronized
  generalize hAe : va_A [] s.heap.size = A
  have hA : ∀ q : Nat, s.heap.size ≤ q → A q := fun q h => by rw [← hAe]; exact Or.inr h
  have hS : va_S A s.heap s.heap [] := va_S.rf
  have hl := lv_entry [.ref a_t, .ref a_p1, .ref a_p2, .int p3] (n := 5) (Nat.le_of_ble_eq_true rfl)
  rw [lg_entry_eq]
  generalize (lg_sl [.ref a_t, .ref a_p1, .ref a_p2, .int p3] ++ List.replicate (5 - (lg_sl [.ref a_t, .ref a_p1, .ref a_p2, .int p3]).length) Slot.unset).toArray = ls at hl ⊢
  have hl : lv_has ls 5 [(0, .ref a_t), (1, .ref a_p1), (2, .ref a_p2), (3, .int p3)] := hl
  unfold g_X3_leaves at h
  refine lv_aload_n hx hb dX3_leaves_0 rfl (lv_at hl 1 rfl) ?_
  refine lv_bipush (v := 7) hx hb dX3_leaves_1 (by decide) ?_
  refine lv_iload_n hx hb dX3_leaves_3 rfl (lv_at hl 3 rfl) ?_
  refine lv_aload_n hx hb dX3_leaves_4 rfl (lv_at hl 1 rfl) ?_
  refine va_get (D := (dC, dI)) (ci := 11) (v := .int p1_tokens) (C := RX8) (T := TX8) (N := 9) hx hb hta inX8w hown hK hR0 1 rfl rfl 1 (by decide) (hta _ lk_X3_23) (fun _ h9 => h9) rfl dX3_leaves_5 ?_
  obtain ⟨r1, hq, h⟩ := gb_some h
  refine crI (va_runV (As := [.int 7, .int p3, .int p1_tokens]) (rest := []) ⟨hx, hb, hml, hown, hta⟩ (c_X8_lastAhead l dC dI cT hq (hR0.sub (ws' := [(a_p1, .inr (11, [.ref a_p1_text, .int p1_tokens, .int p1_stores, .int p1_mostSpoons, .ref a_p1_firsts, .ref a_p1_kinds, .ref a_p1_values, .ref a_p1_parts, .ref a_p1_lastParts])), (a_p1_kinds, .inl (cT 0, 24, .inl p1_kinds)), (a_p1_values, .inl (cT 0, 24, .inl p1_values))]) [1, 3, 4] rfl)) (cV hta lm_X3_36 md_X8_lastAhead ⟨(Nat.le_of_ble_eq_true rfl), (Nat.le_of_ble_eq_true rfl)⟩) ⟨fbK, va_recv hK hR0 (ci := 11) (q0 := 1) rfl rfl, fun U hU hW => ⟨rfl, hU, va_K.moved hW.alike hK⟩⟩ rfl rfl hl.1 rfl (lv_room (Nat.le_of_ble_eq_true rfl)) dX3_leaves_8 ⟨(Nat.le_of_ble_eq_true rfl), (Nat.le_of_ble_eq_true rfl)⟩) hS hA (fun locs hS => ?_)
  refine lv_istore (lv' := [(4, .int r1), (0, .ref a_t), (1, .ref a_p1), (2, .ref a_p2), (3, .int p3)]) hx hb dX3_leaves_11 hl (by decide) rfl (fun ls hl => ?_)
  refine lv_iload hx hb dX3_leaves_13 (lv_at hl 0 rfl) ?_
  refine lv_iconst (v := -1) hx hb dX3_leaves_15 (by decide) ?_
  refine lv_icmp_ne (tgt := 25) hx hb dX3_leaves_16 (by decide) (fun c0 => ?_) (fun c0 => ?_)
  · have h := (if_neg c0).symm.trans h
    refine lv_aload_n hx hb dX3_leaves_25 rfl (lv_at hl 1 rfl) ?_
    refine va_get (D := (dC, dI)) (ci := 7) (v := .ref a_t_isBroth) (C := RX3) (T := TX3) (N := 3) hx hb hta inX3w hown hK hR0 0 rfl rfl 0 (by decide) (hta _ lk_X3_9) (fun _ h9 => h9) rfl dX3_leaves_26 ?_
    refine lv_iload hx hb dX3_leaves_29 (lv_at hl 0 rfl) ?_
    obtain ⟨hc, h⟩ := gc_some h
    refine va_zald hx hb hK hR0 5 1 rfl rfl (inb_in hc) dX3_leaves_31 ?_
    refine lv_if_eq (tgt := 46) hx hb dX3_leaves_32 (by decide) (fun c0 => ?_) (fun c0 => ?_)
    · have h := (if_pos c0).symm.trans h
      refine lv_aload_n hx hb dX3_leaves_46 rfl (lv_at hl 1 rfl) ?_
      refine va_get (D := (dC, dI)) (ci := 7) (v := .ref a_t_many) (C := RX3) (T := TX3) (N := 3) hx hb hta inX3w hown hK hR0 0 rfl rfl 1 (by decide) (hta _ lk_X3_15) (fun _ h9 => h9) rfl dX3_leaves_47 ?_
      refine lv_iload hx hb dX3_leaves_50 (lv_at hl 0 rfl) ?_
      obtain ⟨hc, h⟩ := gc_some h
      refine va_iald hx hb hK hR0 6 0 rfl rfl (inb_in hc) dX3_leaves_52 ?_
      refine lv_topi (fun v2 e_v2 => ?_)
      have h := gl_use e_v2 h
      have ho := Option.some.inj h
      exact W.iret (v := v2) hx hb hr (fun t ht hW => ⟨⟨v2, (), rfl, by rw [← ho], ht⟩, hS.F ht⟩) hS.2.2 dX3_leaves_53
    · have h := (if_neg c0).symm.trans h
      refine lv_aload_n hx hb dX3_leaves_35 rfl (lv_at hl 1 rfl) ?_
      refine va_get (D := (dC, dI)) (ci := 7) (v := .ref a_t_much) (C := RX3) (T := TX3) (N := 3) hx hb hta inX3w hown hK hR0 0 rfl rfl 2 (by decide) (hta _ lk_X3_19) (fun _ h9 => h9) rfl dX3_leaves_36 ?_
      refine lv_iload hx hb dX3_leaves_39 (lv_at hl 0 rfl) ?_
      obtain ⟨hc, h⟩ := gc_some h
      refine va_fald hx hb hK hR0 7 4 rfl rfl (inb_in hc) dX3_leaves_41 ?_
      refine lv_f2i hx hb dX3_leaves_42 ?_
      refine lv_goto (tgt := 53) hx hb dX3_leaves_43 (by decide) ?_
      refine lv_topi (fun v3 e_v3 => ?_)
      have h := gl_use e_v3 h
      have ho := Option.some.inj h
      exact W.iret (v := v3) hx hb hr (fun t ht hW => ⟨⟨v3, (), rfl, by rw [← ho], ht⟩, hS.F ht⟩) hS.2.2 dX3_leaves_53
  · have h := (if_pos c0).symm.trans h
    refine lv_aload_n hx hb dX3_leaves_19 rfl (lv_at hl 3 rfl) ?_
    refine lv_iload_n hx hb dX3_leaves_20 rfl (lv_at hl 4 rfl) ?_
    obtain ⟨r4, hq, h⟩ := gb_some h
    refine crI (va_runV (As := [.int p3]) (rest := []) ⟨hx, hb, hml, hown, hta⟩ (c_X0_cutContent l dC dI cT hq (hR0.sub (ws' := [(a_p2, .inr (4, [.int p2_cauldrons, .ref a_p2_isBroth, .ref a_p2_low, .ref a_p2_high, .ref a_p2_contents, .ref a_p2_storesIn, .int p2_spells, .ref a_p2_texts, .ref a_p2_cooked, .int p2_cookedSoFar, .int p2_storesSoFar])), (a_p2_contents, .inr (5, [.ref a_p2_contents_many, .ref a_p2_contents_much])), (a_p2_isBroth, .inl (cT 1, 6, .inl p2_isBroth)), (a_p2_contents_many, .inl (cT 0, 6, .inl p2_contents_many)), (a_p2_contents_much, .inl (cT 4, 6, .inr (.inr (.inl p2_contents_much))))]) [2, 8, 9, 10, 11] rfl)) (cV hta lm_X3_40 md_X0_cutContent ⟨(Nat.le_of_ble_eq_true rfl), (Nat.le_of_ble_eq_true rfl)⟩) ⟨fbK, va_recv hK hR0 (ci := 4) (q0 := 2) rfl rfl, fun U hU hW => ⟨rfl, hU, va_K.moved hW.alike hK⟩⟩ rfl rfl hl.1 rfl (lv_room (Nat.le_of_ble_eq_true rfl)) dX3_leaves_21 ⟨(Nat.le_of_ble_eq_true rfl), (Nat.le_of_ble_eq_true rfl)⟩) hS hA (fun locs hS => ?_)
    have ho := Option.some.inj h
    exact W.iret (v := r4) hx hb hr (fun t ht hW => ⟨⟨r4, (), rfl, by rw [← ho], ht⟩, hS.F ht⟩) hS.2.2 dX3_leaves_24
set_option maxHeartbeats 4000000 in
set_option maxRecDepth 100000 in
theorem c_X10_tellsBroth (l : Launch) (dC : Nat → ClassId) (dI : Nat → Nat → Nat) (cT : Nat → ClassId) {Hh : Heap} {a_t : Nat} {a_t_isBroth : Nat} {a_t_low : Nat} {a_t_high : Nat} {t_isBroth : Nat → Int32} {p1 : Int32} {o : Int32 × (Nat → Int32)} (h : g_X10_tellsBroth t_isBroth p1 = some o) (hP0 : va_P (dC, dI) vwCl [(a_t_isBroth, .inl (cT 1, 24, .inl t_isBroth))] Hh) (hR0 : va_P (dC, dI) vwCl [(a_t, .inr (13, [.ref a_t_isBroth, .ref a_t_low, .ref a_t_high]))] Hh) (hD0 : va_D (fun _ => True) [(a_t_isBroth, .inl (cT 1, 24, .inl t_isBroth))]) (hN0 : ∀ (k : Nat) (q : Nat × va_E), ([(a_t, .inr (13, [.ref a_t_isBroth, .ref a_t_low, .ref a_t_high]))] : va_W)[k]? = some q → ¬ va_A [(a_t_isBroth, .inl (cT 1, 24, .inl t_isBroth))] Hh.size q.1) : Met l yX10_tellsBroth (wA yX10_tellsBroth cX10_tellsBroth 2 (some .boolean)) ({ frames := 0, cells := 0, slots := 0, locals := 0 } : Room) (PK dC dI cT [.ref a_t, .int p1] Hh) (va_Qi (fun x (_ : Unit) => x = o.1) (fun _ t => va_P (dC, dI) vwCl [(a_t_isBroth, .inl (cT 1, 24, .inl o.2))] t.heap) (va_A [(a_t_isBroth, .inl (cT 1, 24, .inl t_isBroth))] Hh.size)) 0 0 (va_A [(a_t_isBroth, .inl (cT 1, 24, .inl t_isBroth))] Hh.size) := by
  refine Met.ofW (cc := cX10_tellsBroth) (maxL := 2) (ret := (some .boolean)) (by decide) rfl ?_
  intro p e s m args below meth c s₁ B hml hv
  obtain ⟨rfl, hH, hK⟩ := hv
  subst hH
  have hx := B.exec
  have hb := B.bytes
  have hr := B.returns
  have hta : ∀ w ∈ ALLW, w.before [.ref a_t, .int p1].toArray s = true := fun w hw => atoms_spec (ws := wA yX10_tellsBroth cX10_tellsBroth 2 (some .boolean)) B.pre w (List.mem_cons_of_mem _ hw)
  have hown : s.vm.findClass RX10 = some m.cls := findClass_of_methodNamed B.named
  have hlocks := B.notSynchronized
  have hD := hD0.self (sz := s.heap.size)
  have hNA := hN0
  generalize hAe : va_A [(a_t_isBroth, .inl (cT 1, 24, .inl t_isBroth))] s.heap.size = A at hD hNA ⊢
  have hP := hP0
  have hA : ∀ q : Nat, s.heap.size ≤ q → A q := fun q h => by rw [← hAe]; exact Or.inr h
  have hS : va_S A s.heap s.heap [] := va_S.rf
  have hl := lv_entry [.ref a_t, .int p1] (n := 2) (Nat.le_of_ble_eq_true rfl)
  rw [lg_entry_eq]
  generalize (lg_sl [.ref a_t, .int p1] ++ List.replicate (2 - (lg_sl [.ref a_t, .int p1]).length) Slot.unset).toArray = ls at hl ⊢
  have hl : lv_has ls 2 [(0, .ref a_t), (1, .int p1)] := hl
  unfold g_X10_tellsBroth at h
  refine lv_aload_n hx hb dX10_tellsBroth_0 rfl (lv_at hl 0 rfl) ?_
  refine va_get (D := (dC, dI)) (ci := 13) (v := .ref a_t_isBroth) (C := RX10) (T := TX10) (N := 3) hx hb hta inX10w hown hK (rk hR0 hNA hS) 0 rfl rfl 0 (by decide) (hta _ lk_X10_9) (fun _ h9 => h9) rfl dX10_tellsBroth_1 ?_
  refine lv_iload_n hx hb dX10_tellsBroth_4 rfl (lv_at hl 1 rfl) ?_
  refine lv_iconst (v := 1) hx hb dX10_tellsBroth_5 (by decide) ?_
  obtain ⟨hc, h⟩ := gc_some h
  refine va_zast hx hb hK hP hD hS 0 1 rfl rfl (inb_in hc) dX10_tellsBroth_6 (fun H locs hP hD hS => ?_)
  have hP : va_P (dC, dI) vwCl [(a_t_isBroth, .inl (cT 1, 24, .inl (upd t_isBroth p1.toNatClampNeg (vp_nar .boolean 1))))] H := hP
  have hD : va_D A [(a_t_isBroth, .inl (cT 1, 24, .inl (upd t_isBroth p1.toNatClampNeg (vp_nar .boolean 1))))] := hD
  refine lv_iconst (v := 1) hx hb dX10_tellsBroth_7 (by decide) ?_
  have ho := Option.some.inj h
  exact W.zret (ty := .boolean) (v := 1) hx hb hr rfl (fun t ht hW => ⟨⟨1, (), rfl, by rw [← ho], by show va_P (dC, dI) vwCl _ t.heap; rw [ht, ← ho]; exact hP⟩, hS.F ht⟩) hS.2.2 dX10_tellsBroth_8
set_option maxHeartbeats 4000000 in
set_option maxRecDepth 100000 in
theorem c_X10_tellsDrams (l : Launch) (dC : Nat → ClassId) (dI : Nat → Nat → Nat) (cT : Nat → ClassId) {Hh : Heap} {a_t : Nat} {a_t_isBroth : Nat} {a_t_low : Nat} {a_t_high : Nat} {t_isBroth : Nat → Int32} {t_low : Nat → Int64} {t_high : Nat → Int64} {p1 : Int32} {p2 : Int64} {p3 : Int64} {o : Int32 × (Nat → Int32) × (Nat → Int64) × (Nat → Int64)} (h : g_X10_tellsDrams t_isBroth t_low t_high p1 p2 p3 = some o) (hP0 : va_P (dC, dI) vwCl [(a_t_isBroth, .inl (cT 1, 24, .inl t_isBroth)), (a_t_low, .inl (cT 3, 24, .inr (.inl t_low))), (a_t_high, .inl (cT 3, 24, .inr (.inl t_high)))] Hh) (hR0 : va_P (dC, dI) vwCl [(a_t, .inr (13, [.ref a_t_isBroth, .ref a_t_low, .ref a_t_high]))] Hh) (hD0 : va_D (fun _ => True) [(a_t_isBroth, .inl (cT 1, 24, .inl t_isBroth)), (a_t_low, .inl (cT 3, 24, .inr (.inl t_low))), (a_t_high, .inl (cT 3, 24, .inr (.inl t_high)))]) (hN0 : ∀ (k : Nat) (q : Nat × va_E), ([(a_t, .inr (13, [.ref a_t_isBroth, .ref a_t_low, .ref a_t_high]))] : va_W)[k]? = some q → ¬ va_A [(a_t_isBroth, .inl (cT 1, 24, .inl t_isBroth)), (a_t_low, .inl (cT 3, 24, .inr (.inl t_low))), (a_t_high, .inl (cT 3, 24, .inr (.inl t_high)))] Hh.size q.1) : Met l yX10_tellsDrams (wA yX10_tellsDrams cX10_tellsDrams 6 (some .boolean)) ({ frames := 1, cells := 0, slots := 0, locals := 21 } : Room) (PK dC dI cT [.ref a_t, .int p1, .long p2, .long p3] Hh) (va_Qi (fun x (_ : Unit) => x = o.1) (fun _ t => va_P (dC, dI) vwCl [(a_t_isBroth, .inl (cT 1, 24, .inl o.2.1)), (a_t_low, .inl (cT 3, 24, .inr (.inl o.2.2.1))), (a_t_high, .inl (cT 3, 24, .inr (.inl o.2.2.2)))] t.heap) (va_A [(a_t_isBroth, .inl (cT 1, 24, .inl t_isBroth)), (a_t_low, .inl (cT 3, 24, .inr (.inl t_low))), (a_t_high, .inl (cT 3, 24, .inr (.inl t_high)))] Hh.size)) 0 0 (va_A [(a_t_isBroth, .inl (cT 1, 24, .inl t_isBroth)), (a_t_low, .inl (cT 3, 24, .inr (.inl t_low))), (a_t_high, .inl (cT 3, 24, .inr (.inl t_high)))] Hh.size) := by
  refine Met.ofW (cc := cX10_tellsDrams) (maxL := 6) (ret := (some .boolean)) (by decide) rfl ?_
  intro p e s m args below meth c s₁ B hml hv
  obtain ⟨rfl, hH, hK⟩ := hv
  subst hH
  have hx := B.exec
  have hb := B.bytes
  have hr := B.returns
  have hta : ∀ w ∈ ALLW, w.before [.ref a_t, .int p1, .long p2, .long p3].toArray s = true := fun w hw => atoms_spec (ws := wA yX10_tellsDrams cX10_tellsDrams 6 (some .boolean)) B.pre w (List.mem_cons_of_mem _ hw)
  have hown : s.vm.findClass RX10 = some m.cls := findClass_of_methodNamed B.named
  have hlocks := B.notSynchronized
  have hD := hD0.self (sz := s.heap.size)
  have hNA := hN0
  generalize hAe : va_A [(a_t_isBroth, .inl (cT 1, 24, .inl t_isBroth)), (a_t_low, .inl (cT 3, 24, .inr (.inl t_low))), (a_t_high, .inl (cT 3, 24, .inr (.inl t_high)))] s.heap.size = A at hD hNA ⊢
  have hP := hP0
  have hA : ∀ q : Nat, s.heap.size ≤ q → A q := fun q h => by rw [← hAe]; exact Or.inr h
  have hS : va_S A s.heap s.heap [] := va_S.rf
  have hl := lv_entry [.ref a_t, .int p1, .long p2, .long p3] (n := 6) (Nat.le_of_ble_eq_true rfl)
  rw [lg_entry_eq]
  generalize (lg_sl [.ref a_t, .int p1, .long p2, .long p3] ++ List.replicate (6 - (lg_sl [.ref a_t, .int p1, .long p2, .long p3]).length) Slot.unset).toArray = ls at hl ⊢
  have hl : lv_has ls 6 [(0, .ref a_t), (1, .int p1), (2, .long p2), (4, .long p3)] := hl
  unfold g_X10_tellsDrams at h
  refine lv_aload_n hx hb dX10_tellsDrams_0 rfl (lv_at hl 0 rfl) ?_
  refine va_get (D := (dC, dI)) (ci := 13) (v := .ref a_t_isBroth) (C := RX10) (T := TX10) (N := 3) hx hb hta inX10w hown hK (rk hR0 hNA hS) 0 rfl rfl 0 (by decide) (hta _ lk_X10_9) (fun _ h9 => h9) rfl dX10_tellsDrams_1 ?_
  refine lv_iload_n hx hb dX10_tellsDrams_4 rfl (lv_at hl 1 rfl) ?_
  refine lv_iconst (v := 0) hx hb dX10_tellsDrams_5 (by decide) ?_
  obtain ⟨hc, h⟩ := gc_some h
  refine va_zast hx hb hK hP hD hS 0 1 rfl rfl (inb_in hc) dX10_tellsDrams_6 (fun H locs hP hD hS => ?_)
  have hP : va_P (dC, dI) vwCl [(a_t_isBroth, .inl (cT 1, 24, .inl (upd t_isBroth p1.toNatClampNeg (vp_nar .boolean 0)))), (a_t_low, .inl (cT 3, 24, .inr (.inl t_low))), (a_t_high, .inl (cT 3, 24, .inr (.inl t_high)))] H := hP
  have hD : va_D A [(a_t_isBroth, .inl (cT 1, 24, .inl (upd t_isBroth p1.toNatClampNeg (vp_nar .boolean 0)))), (a_t_low, .inl (cT 3, 24, .inr (.inl t_low))), (a_t_high, .inl (cT 3, 24, .inr (.inl t_high)))] := hD
  refine lv_aload_n hx hb dX10_tellsDrams_7 rfl (lv_at hl 0 rfl) ?_
  refine va_get (D := (dC, dI)) (ci := 13) (v := .ref a_t_low) (C := RX10) (T := TX10) (N := 3) hx hb hta inX10w hown hK (rk hR0 hNA hS) 0 rfl rfl 1 (by decide) (hta _ lk_X10_15) (fun _ h9 => h9) rfl dX10_tellsDrams_8 ?_
  refine lv_iload_n hx hb dX10_tellsDrams_11 rfl (lv_at hl 1 rfl) ?_
  refine lv_lload_n hx hb dX10_tellsDrams_12 rfl (lv_at hl 2 rfl) ?_
  obtain ⟨hc, h⟩ := gc_some h
  refine va_last hx hb hK hP hD hS 1 3 rfl rfl (inb_in hc) dX10_tellsDrams_13 (fun H locs hP hD hS => ?_)
  have hP : va_P (dC, dI) vwCl [(a_t_isBroth, .inl (cT 1, 24, .inl (upd t_isBroth p1.toNatClampNeg (vp_nar .boolean 0)))), (a_t_low, .inl (cT 3, 24, .inr (.inl (vp_updL t_low p1.toNatClampNeg p2)))), (a_t_high, .inl (cT 3, 24, .inr (.inl t_high)))] H := hP
  have hD : va_D A [(a_t_isBroth, .inl (cT 1, 24, .inl (upd t_isBroth p1.toNatClampNeg (vp_nar .boolean 0)))), (a_t_low, .inl (cT 3, 24, .inr (.inl (vp_updL t_low p1.toNatClampNeg p2)))), (a_t_high, .inl (cT 3, 24, .inr (.inl t_high)))] := hD
  refine lv_aload_n hx hb dX10_tellsDrams_14 rfl (lv_at hl 0 rfl) ?_
  refine va_get (D := (dC, dI)) (ci := 13) (v := .ref a_t_high) (C := RX10) (T := TX10) (N := 3) hx hb hta inX10w hown hK (rk hR0 hNA hS) 0 rfl rfl 2 (by decide) (hta _ lk_X10_19) (fun _ h9 => h9) rfl dX10_tellsDrams_15 ?_
  refine lv_iload_n hx hb dX10_tellsDrams_18 rfl (lv_at hl 1 rfl) ?_
  refine lv_lload hx hb dX10_tellsDrams_19 (lv_at hl 3 rfl) ?_
  obtain ⟨hc, h⟩ := gc_some h
  refine va_last hx hb hK hP hD hS 2 3 rfl rfl (inb_in hc) dX10_tellsDrams_21 (fun H locs hP hD hS => ?_)
  have hP : va_P (dC, dI) vwCl [(a_t_isBroth, .inl (cT 1, 24, .inl (upd t_isBroth p1.toNatClampNeg (vp_nar .boolean 0)))), (a_t_low, .inl (cT 3, 24, .inr (.inl (vp_updL t_low p1.toNatClampNeg p2)))), (a_t_high, .inl (cT 3, 24, .inr (.inl (vp_updL t_high p1.toNatClampNeg p3))))] H := hP
  have hD : va_D A [(a_t_isBroth, .inl (cT 1, 24, .inl (upd t_isBroth p1.toNatClampNeg (vp_nar .boolean 0)))), (a_t_low, .inl (cT 3, 24, .inr (.inl (vp_updL t_low p1.toNatClampNeg p2)))), (a_t_high, .inl (cT 3, 24, .inr (.inl (vp_updL t_high p1.toNatClampNeg p3))))] := hD
  refine lv_lload_n hx hb dX10_tellsDrams_22 rfl (lv_at hl 2 rfl) ?_
  obtain ⟨r1, hq, h⟩ := gb_some h
  refine crI (va_runS (As := [.long p2]) (rest := []) ⟨hx, hb, hml, hown, hta⟩ (c_X5_excess l dC dI cT hq) (cS hta lm_X10_89 md_X5_excess ⟨(Nat.le_of_ble_eq_true rfl), (Nat.le_of_ble_eq_true rfl)⟩) ⟨fbK, fun U hU hW => ⟨rfl, hU, va_K.moved hW.alike hK⟩⟩ rfl rfl hl.1 rfl (lv_room (Nat.le_of_ble_eq_true rfl)) dX10_tellsDrams_23 ⟨(Nat.le_of_ble_eq_true rfl), (Nat.le_of_ble_eq_true rfl)⟩) hS hA (fun locs hS => ?_)
  refine lv_if_ne (tgt := 41) hx hb dX10_tellsDrams_26 (by decide) (fun c0 => ?_) (fun c0 => ?_)
  · have h := (if_neg c0).symm.trans h
    refine lv_iconst (v := 0) hx hb dX10_tellsDrams_41 (by decide) ?_
    have ho := Option.some.inj h
    exact W.zret (ty := .boolean) (v := 0) hx hb hr rfl (fun t ht hW => ⟨⟨0, (), rfl, by rw [← ho], by show va_P (dC, dI) vwCl _ t.heap; rw [ht, ← ho]; exact hP⟩, hS.F ht⟩) hS.2.2 dX10_tellsDrams_42
  · have h := (if_pos c0).symm.trans h
    refine lv_lload hx hb dX10_tellsDrams_29 (lv_at hl 3 rfl) ?_
    obtain ⟨r2, hq, h⟩ := gb_some h
    refine crI (va_runS (As := [.long p3]) (rest := []) ⟨hx, hb, hml, hown, hta⟩ (c_X5_excess l dC dI cT hq) (cS hta lm_X10_89 md_X5_excess ⟨(Nat.le_of_ble_eq_true rfl), (Nat.le_of_ble_eq_true rfl)⟩) ⟨fbK, fun U hU hW => ⟨rfl, hU, va_K.moved hW.alike hK⟩⟩ rfl rfl hl.1 rfl (lv_room (Nat.le_of_ble_eq_true rfl)) dX10_tellsDrams_31 ⟨(Nat.le_of_ble_eq_true rfl), (Nat.le_of_ble_eq_true rfl)⟩) hS hA (fun locs hS => ?_)
    refine lv_if_ne (tgt := 41) hx hb dX10_tellsDrams_34 (by decide) (fun c0 => ?_) (fun c0 => ?_)
    · have h := (if_neg c0).symm.trans h
      refine lv_iconst (v := 0) hx hb dX10_tellsDrams_41 (by decide) ?_
      have ho := Option.some.inj h
      exact W.zret (ty := .boolean) (v := 0) hx hb hr rfl (fun t ht hW => ⟨⟨0, (), rfl, by rw [← ho], by show va_P (dC, dI) vwCl _ t.heap; rw [ht, ← ho]; exact hP⟩, hS.F ht⟩) hS.2.2 dX10_tellsDrams_42
    · have h := (if_pos c0).symm.trans h
      refine lv_iconst (v := 1) hx hb dX10_tellsDrams_37 (by decide) ?_
      refine lv_goto (tgt := 42) hx hb dX10_tellsDrams_38 (by decide) ?_
      have ho := Option.some.inj h
      exact W.zret (ty := .boolean) (v := 1) hx hb hr rfl (fun t ht hW => ⟨⟨1, (), rfl, by rw [← ho], by show va_P (dC, dI) vwCl _ t.heap; rw [ht, ← ho]; exact hP⟩, hS.F ht⟩) hS.2.2 dX10_tellsDrams_42
set_option maxHeartbeats 4000000 in
set_option maxRecDepth 100000 in
theorem c_X10_passesTake (l : Launch) (dC : Nat → ClassId) (dI : Nat → Nat → Nat) (cT : Nat → ClassId) {Hh : Heap} {a_t : Nat} {a_p1 : Nat} {a_p1_isBroth : Nat} {a_p1_low : Nat} {a_p1_high : Nat} {a_t_isBroth : Nat} {a_t_low : Nat} {a_t_high : Nat} {a_p1_contents : Nat} {a_p1_storesIn : Nat} {a_p1_texts : Nat} {a_p1_cooked : Nat} {p1_isBroth : Nat → Int32} {p1_low : Nat → Int32} {p1_high : Nat → Int32} {t_isBroth : Nat → Int32} {t_low : Nat → Int64} {t_high : Nat → Int64} {p2 : Int32} {p3 : Int32} {p1_cauldrons : Int32} {p1_spells : Int32} {p1_cookedSoFar : Int32} {p1_storesSoFar : Int32} {o : Int32 × (Nat → Int32) × (Nat → Int64) × (Nat → Int64)} (h : g_X10_passesTake p1_isBroth p1_low p1_high t_isBroth t_low t_high p2 p3 = some o) (hP0 : va_P (dC, dI) vwCl [(a_t_isBroth, .inl (cT 1, 24, .inl t_isBroth)), (a_t_low, .inl (cT 3, 24, .inr (.inl t_low))), (a_t_high, .inl (cT 3, 24, .inr (.inl t_high)))] Hh) (hR0 : va_P (dC, dI) vwCl [(a_t, .inr (13, [.ref a_t_isBroth, .ref a_t_low, .ref a_t_high])), (a_p1, .inr (4, [.int p1_cauldrons, .ref a_p1_isBroth, .ref a_p1_low, .ref a_p1_high, .ref a_p1_contents, .ref a_p1_storesIn, .int p1_spells, .ref a_p1_texts, .ref a_p1_cooked, .int p1_cookedSoFar, .int p1_storesSoFar])), (a_p1_isBroth, .inl (cT 1, 6, .inl p1_isBroth)), (a_p1_low, .inl (cT 0, 6, .inl p1_low)), (a_p1_high, .inl (cT 0, 6, .inl p1_high))] Hh) (hD0 : va_D (fun _ => True) [(a_t_isBroth, .inl (cT 1, 24, .inl t_isBroth)), (a_t_low, .inl (cT 3, 24, .inr (.inl t_low))), (a_t_high, .inl (cT 3, 24, .inr (.inl t_high)))]) (hN0 : ∀ (k : Nat) (q : Nat × va_E), ([(a_t, .inr (13, [.ref a_t_isBroth, .ref a_t_low, .ref a_t_high])), (a_p1, .inr (4, [.int p1_cauldrons, .ref a_p1_isBroth, .ref a_p1_low, .ref a_p1_high, .ref a_p1_contents, .ref a_p1_storesIn, .int p1_spells, .ref a_p1_texts, .ref a_p1_cooked, .int p1_cookedSoFar, .int p1_storesSoFar])), (a_p1_isBroth, .inl (cT 1, 6, .inl p1_isBroth)), (a_p1_low, .inl (cT 0, 6, .inl p1_low)), (a_p1_high, .inl (cT 0, 6, .inl p1_high))] : va_W)[k]? = some q → ¬ va_A [(a_t_isBroth, .inl (cT 1, 24, .inl t_isBroth)), (a_t_low, .inl (cT 3, 24, .inr (.inl t_low))), (a_t_high, .inl (cT 3, 24, .inr (.inl t_high)))] Hh.size q.1) : Met l yX10_passesTake (wA yX10_passesTake cX10_passesTake 4 (some .boolean)) ({ frames := 2, cells := 0, slots := 0, locals := 46 } : Room) (PK dC dI cT [.ref a_t, .ref a_p1, .int p2, .int p3] Hh) (va_Qi (fun x (_ : Unit) => x = o.1) (fun _ t => va_P (dC, dI) vwCl [(a_t_isBroth, .inl (cT 1, 24, .inl o.2.1)), (a_t_low, .inl (cT 3, 24, .inr (.inl o.2.2.1))), (a_t_high, .inl (cT 3, 24, .inr (.inl o.2.2.2)))] t.heap) (va_A [(a_t_isBroth, .inl (cT 1, 24, .inl t_isBroth)), (a_t_low, .inl (cT 3, 24, .inr (.inl t_low))), (a_t_high, .inl (cT 3, 24, .inr (.inl t_high)))] Hh.size)) 0 0 (va_A [(a_t_isBroth, .inl (cT 1, 24, .inl t_isBroth)), (a_t_low, .inl (cT 3, 24, .inr (.inl t_low))), (a_t_high, .inl (cT 3, 24, .inr (.inl t_high)))] Hh.size) := by
  refine Met.ofW (cc := cX10_passesTake) (maxL := 4) (ret := (some .boolean)) (by decide) rfl ?_
  intro p e s m args below meth c s₁ B hml hv
  obtain ⟨rfl, hH, hK⟩ := hv
  subst hH
  have hx := B.exec
  have hb := B.bytes
  have hr := B.returns
  have hta : ∀ w ∈ ALLW, w.before [.ref a_t, .ref a_p1, .int p2, .int p3].toArray s = true := fun w hw => atoms_spec (ws := wA yX10_passesTake cX10_passesTake 4 (some .boolean)) B.pre w (List.mem_cons_of_mem _ hw)
  have hown : s.vm.findClass RX10 = some m.cls := findClass_of_methodNamed B.named
  have hlocks := B.notSynchronized
  have hD := hD0.self (sz := s.heap.size)
  have hNA := hN0
  generalize hAe : va_A [(a_t_isBroth, .inl (cT 1, 24, .inl t_isBroth)), (a_t_low, .inl (cT 3, 24, .inr (.inl t_low))), (a_t_high, .inl (cT 3, 24, .inr (.inl t_high)))] s.heap.size = A at hD hNA ⊢
  have hP := hP0
  have hA : ∀ q : Nat, s.heap.size ≤ q → A q := fun q h => by rw [← hAe]; exact Or.inr h
  have hS : va_S A s.heap s.heap [] := va_S.rf
  have hl := lv_entry [.ref a_t, .ref a_p1, .int p2, .int p3] (n := 4) (Nat.le_of_ble_eq_true rfl)
  rw [lg_entry_eq]
  generalize (lg_sl [.ref a_t, .ref a_p1, .int p2, .int p3] ++ List.replicate (4 - (lg_sl [.ref a_t, .ref a_p1, .int p2, .int p3]).length) Slot.unset).toArray = ls at hl ⊢
  have hl : lv_has ls 4 [(0, .ref a_t), (1, .ref a_p1), (2, .int p2), (3, .int p3)] := hl
  unfold g_X10_passesTake at h
  refine lv_iload_n hx hb dX10_passesTake_0 rfl (lv_at hl 3 rfl) ?_
  refine lv_if_lt (tgt := 10) hx hb dX10_passesTake_1 (by decide) (fun c0 => ?_) (fun c0 => ?_)
  · have h := (if_pos c0).symm.trans h
    refine lv_iconst (v := 0) hx hb dX10_passesTake_10 (by decide) ?_
    have ho := Option.some.inj h
    exact W.zret (ty := .boolean) (v := 0) hx hb hr rfl (fun t ht hW => ⟨⟨0, (), rfl, by rw [← ho], by show va_P (dC, dI) vwCl _ t.heap; rw [ht, ← ho]; exact hP⟩, hS.F ht⟩) hS.2.2 dX10_passesTake_11
  · have h := (if_neg c0).symm.trans h
    refine lv_iload_n hx hb dX10_passesTake_4 rfl (lv_at hl 3 rfl) ?_
    refine lv_bipush (v := 6) hx hb dX10_passesTake_5 (by decide) ?_
    refine lv_icmp_lt (tgt := 12) hx hb dX10_passesTake_7 (by decide) (fun c0 => ?_) (fun c0 => ?_)
    · have h := (if_pos c0).symm.trans h
      refine lv_aload_n hx hb dX10_passesTake_12 rfl (lv_at hl 1 rfl) ?_
      refine va_get (D := (dC, dI)) (ci := 4) (v := .ref a_p1_isBroth) (C := RX0) (T := TX0) (N := 11) hx hb hta inX0w hown hK (rk hR0 hNA hS) 1 rfl rfl 1 (by decide) (hta _ lk_X10_46) (fun _ h9 => h9) rfl dX10_passesTake_13 ?_
      refine lv_iload_n hx hb dX10_passesTake_16 rfl (lv_at hl 3 rfl) ?_
      obtain ⟨hc, h⟩ := gc_some h
      refine va_zald hx hb hK (rk hR0 hNA hS) 2 1 rfl rfl (inb_in hc) dX10_passesTake_17 ?_
      refine lv_if_eq (tgt := 27) hx hb dX10_passesTake_18 (by decide) (fun c0 => ?_) (fun c0 => ?_)
      · have h := (if_pos c0).symm.trans h
        refine lv_aload_n hx hb dX10_passesTake_27 rfl (lv_at hl 0 rfl) ?_
        refine lv_iload_n hx hb dX10_passesTake_28 rfl (lv_at hl 2 rfl) ?_
        refine lv_aload_n hx hb dX10_passesTake_29 rfl (lv_at hl 1 rfl) ?_
        refine va_get (D := (dC, dI)) (ci := 4) (v := .ref a_p1_low) (C := RX0) (T := TX0) (N := 11) hx hb hta inX0w hown hK (rk hR0 hNA hS) 1 rfl rfl 2 (by decide) (hta _ lk_X10_49) (fun _ h9 => h9) rfl dX10_passesTake_30 ?_
        refine lv_iload_n hx hb dX10_passesTake_33 rfl (lv_at hl 3 rfl) ?_
        obtain ⟨hc, h⟩ := gc_some h
        refine va_iald hx hb hK (rk hR0 hNA hS) 3 0 rfl rfl (inb_in hc) dX10_passesTake_34 ?_
        refine lv_i2l hx hb dX10_passesTake_35 rfl ?_
        refine lv_aload_n hx hb dX10_passesTake_36 rfl (lv_at hl 1 rfl) ?_
        refine va_get (D := (dC, dI)) (ci := 4) (v := .ref a_p1_high) (C := RX0) (T := TX0) (N := 11) hx hb hta inX0w hown hK (rk hR0 hNA hS) 1 rfl rfl 3 (by decide) (hta _ lk_X10_51) (fun _ h9 => h9) rfl dX10_passesTake_37 ?_
        refine lv_iload_n hx hb dX10_passesTake_40 rfl (lv_at hl 3 rfl) ?_
        obtain ⟨hc, h⟩ := gc_some h
        refine va_iald hx hb hK (rk hR0 hNA hS) 4 0 rfl rfl (inb_in hc) dX10_passesTake_41 ?_
        refine lv_i2l hx hb dX10_passesTake_42 rfl ?_
        obtain ⟨r1, hq, h⟩ := gb_some h
        refine cxI (X2 := [(a_t_isBroth, .inl (cT 1, 24, .inl r1.2.1)), (a_t_low, .inl (cT 3, 24, .inr (.inl r1.2.2.1))), (a_t_high, .inl (cT 3, 24, .inr (.inl r1.2.2.2)))]) (va_runV (As := [.int p2, .long ((p1_low p3.toNatClampNeg).toInt64), .long ((p1_high p3.toNatClampNeg).toInt64)]) (rest := []) ⟨hx, hb, hml, hown, hta⟩ (c_X10_tellsDrams l dC dI cT hq (hP.sub (ws' := [(a_t_isBroth, .inl (cT 1, 24, .inl t_isBroth)), (a_t_low, .inl (cT 3, 24, .inr (.inl t_low))), (a_t_high, .inl (cT 3, 24, .inr (.inl t_high)))]) [0, 1, 2] rfl) ((va_P.app hP (rk hR0 hNA hS)).sub (ws' := [(a_t, .inr (13, [.ref a_t_isBroth, .ref a_t_low, .ref a_t_high]))]) [3] rfl) (ds hD [0, 1, 2] (by decide) rfl) (nac hP hD [0, 1, 2] rfl (va_free hD hS hA [0, 1, 2] rfl) hNA [.inl 0] rfl rfl)) (cV hta lm_X10_57 md_X10_tellsDrams ⟨(Nat.le_of_ble_eq_true rfl), (Nat.le_of_ble_eq_true rfl)⟩) ⟨fbK, va_recv hK (rk hR0 hNA hS) (ci := 13) (q0 := 0) rfl rfl, fun U hU hW => ⟨rfl, hU, va_K.moved hW.alike hK⟩⟩ rfl rfl hl.1 rfl (lv_room (Nat.le_of_ble_eq_true rfl)) dX10_passesTake_43 ⟨(Nat.le_of_ble_eq_true rfl), (Nat.le_of_ble_eq_true rfl)⟩) hS hA hP hD [0, 1, 2] rfl [.inl 0, .inl 1, .inl 2] rfl rfl rfl (fun H locs hP hD hS => ?_)
        obtain ⟨hc, h⟩ := gc_some h
        have ho := Option.some.inj h
        exact W.zret (ty := .boolean) (v := r1.1) hx hb hr (bo_n hc) (fun t ht hW => ⟨⟨r1.1, (), rfl, by rw [← ho], by show va_P (dC, dI) vwCl _ t.heap; rw [ht, ← ho]; exact hP⟩, hS.F ht⟩) hS.2.2 dX10_passesTake_46
      · have h := (if_neg c0).symm.trans h
        refine lv_aload_n hx hb dX10_passesTake_21 rfl (lv_at hl 0 rfl) ?_
        refine lv_iload_n hx hb dX10_passesTake_22 rfl (lv_at hl 2 rfl) ?_
        obtain ⟨r2, hq, h⟩ := gb_some h
        refine cxI (X2 := [(a_t_isBroth, .inl (cT 1, 24, .inl r2.2)), (a_t_low, .inl (cT 3, 24, .inr (.inl t_low))), (a_t_high, .inl (cT 3, 24, .inr (.inl t_high)))]) (va_runV (As := [.int p2]) (rest := []) ⟨hx, hb, hml, hown, hta⟩ (c_X10_tellsBroth l dC dI cT hq (hP.sub (ws' := [(a_t_isBroth, .inl (cT 1, 24, .inl t_isBroth))]) [0] rfl) ((va_P.app hP (rk hR0 hNA hS)).sub (ws' := [(a_t, .inr (13, [.ref a_t_isBroth, .ref a_t_low, .ref a_t_high]))]) [3] rfl) (ds hD [0] (by decide) rfl) (nac hP hD [0] rfl (va_free hD hS hA [0] rfl) hNA [.inl 0] rfl rfl)) (cV hta lm_X10_72 md_X10_tellsBroth ⟨(Nat.le_of_ble_eq_true rfl), (Nat.le_of_ble_eq_true rfl)⟩) ⟨fbK, va_recv hK (rk hR0 hNA hS) (ci := 13) (q0 := 0) rfl rfl, fun U hU hW => ⟨rfl, hU, va_K.moved hW.alike hK⟩⟩ rfl rfl hl.1 rfl (lv_room (Nat.le_of_ble_eq_true rfl)) dX10_passesTake_23 ⟨(Nat.le_of_ble_eq_true rfl), (Nat.le_of_ble_eq_true rfl)⟩) hS hA hP hD [0] rfl [.inl 0, .inr 1, .inr 2] rfl rfl rfl (fun H locs hP hD hS => ?_)
        obtain ⟨hc, h⟩ := gc_some h
        have ho := Option.some.inj h
        exact W.zret (ty := .boolean) (v := r2.1) hx hb hr (bo_n hc) (fun t ht hW => ⟨⟨r2.1, (), rfl, by rw [← ho], by show va_P (dC, dI) vwCl _ t.heap; rw [ht, ← ho]; exact hP⟩, hS.F ht⟩) hS.2.2 dX10_passesTake_26
    · have h := (if_neg c0).symm.trans h
      refine lv_iconst (v := 0) hx hb dX10_passesTake_10 (by decide) ?_
      have ho := Option.some.inj h
      exact W.zret (ty := .boolean) (v := 0) hx hb hr rfl (fun t ht hW => ⟨⟨0, (), rfl, by rw [← ho], by show va_P (dC, dI) vwCl _ t.heap; rw [ht, ← ho]; exact hP⟩, hS.F ht⟩) hS.2.2 dX10_passesTake_11
set_option maxHeartbeats 4000000 in
set_option maxRecDepth 100000 in
theorem c_X10_passesCast (l : Launch) (dC : Nat → ClassId) (dI : Nat → Nat → Nat) (cT : Nat → ClassId) {Hh : Heap} {a_t : Nat} {a_t_isBroth : Nat} {a_t_low : Nat} {a_t_high : Nat} {t_isBroth : Nat → Int32} {t_low : Nat → Int64} {t_high : Nat → Int64} {p1 : Int32} {p2 : Int32} {p3 : Int32} {o : Int32 × (Nat → Int32) × (Nat → Int64) × (Nat → Int64)} (h : g_X10_passesCast t_isBroth t_low t_high p1 p2 p3 = some o) (hP0 : va_P (dC, dI) vwCl [(a_t_isBroth, .inl (cT 1, 24, .inl t_isBroth)), (a_t_low, .inl (cT 3, 24, .inr (.inl t_low))), (a_t_high, .inl (cT 3, 24, .inr (.inl t_high)))] Hh) (hR0 : va_P (dC, dI) vwCl [(a_t, .inr (13, [.ref a_t_isBroth, .ref a_t_low, .ref a_t_high]))] Hh) (hD0 : va_D (fun _ => True) [(a_t_isBroth, .inl (cT 1, 24, .inl t_isBroth)), (a_t_low, .inl (cT 3, 24, .inr (.inl t_low))), (a_t_high, .inl (cT 3, 24, .inr (.inl t_high)))]) (hN0 : ∀ (k : Nat) (q : Nat × va_E), ([(a_t, .inr (13, [.ref a_t_isBroth, .ref a_t_low, .ref a_t_high]))] : va_W)[k]? = some q → ¬ va_A [(a_t_isBroth, .inl (cT 1, 24, .inl t_isBroth)), (a_t_low, .inl (cT 3, 24, .inr (.inl t_low))), (a_t_high, .inl (cT 3, 24, .inr (.inl t_high)))] Hh.size q.1) : Met l yX10_passesCast (wA yX10_passesCast cX10_passesCast 4 (some .boolean)) ({ frames := 2, cells := 0, slots := 0, locals := 46 } : Room) (PK dC dI cT [.ref a_t, .int p1, .int p2, .int p3] Hh) (va_Qi (fun x (_ : Unit) => x = o.1) (fun _ t => va_P (dC, dI) vwCl [(a_t_isBroth, .inl (cT 1, 24, .inl o.2.1)), (a_t_low, .inl (cT 3, 24, .inr (.inl o.2.2.1))), (a_t_high, .inl (cT 3, 24, .inr (.inl o.2.2.2)))] t.heap) (va_A [(a_t_isBroth, .inl (cT 1, 24, .inl t_isBroth)), (a_t_low, .inl (cT 3, 24, .inr (.inl t_low))), (a_t_high, .inl (cT 3, 24, .inr (.inl t_high)))] Hh.size)) 0 0 (va_A [(a_t_isBroth, .inl (cT 1, 24, .inl t_isBroth)), (a_t_low, .inl (cT 3, 24, .inr (.inl t_low))), (a_t_high, .inl (cT 3, 24, .inr (.inl t_high)))] Hh.size) := by
  refine Met.ofW (cc := cX10_passesCast) (maxL := 4) (ret := (some .boolean)) (by decide) rfl ?_
  intro p e s m args below meth c s₁ B hml hv
  obtain ⟨rfl, hH, hK⟩ := hv
  subst hH
  have hx := B.exec
  have hb := B.bytes
  have hr := B.returns
  have hta : ∀ w ∈ ALLW, w.before [.ref a_t, .int p1, .int p2, .int p3].toArray s = true := fun w hw => atoms_spec (ws := wA yX10_passesCast cX10_passesCast 4 (some .boolean)) B.pre w (List.mem_cons_of_mem _ hw)
  have hown : s.vm.findClass RX10 = some m.cls := findClass_of_methodNamed B.named
  have hlocks := B.notSynchronized
  have hD := hD0.self (sz := s.heap.size)
  have hNA := hN0
  generalize hAe : va_A [(a_t_isBroth, .inl (cT 1, 24, .inl t_isBroth)), (a_t_low, .inl (cT 3, 24, .inr (.inl t_low))), (a_t_high, .inl (cT 3, 24, .inr (.inl t_high)))] s.heap.size = A at hD hNA ⊢
  have hP := hP0
  have hA : ∀ q : Nat, s.heap.size ≤ q → A q := fun q h => by rw [← hAe]; exact Or.inr h
  have hS : va_S A s.heap s.heap [] := va_S.rf
  have hl := lv_entry [.ref a_t, .int p1, .int p2, .int p3] (n := 4) (Nat.le_of_ble_eq_true rfl)
  rw [lg_entry_eq]
  generalize (lg_sl [.ref a_t, .int p1, .int p2, .int p3] ++ List.replicate (4 - (lg_sl [.ref a_t, .int p1, .int p2, .int p3]).length) Slot.unset).toArray = ls at hl ⊢
  have hl : lv_has ls 4 [(0, .ref a_t), (1, .int p1), (2, .int p2), (3, .int p3)] := hl
  unfold g_X10_passesCast at h
  refine lv_aload_n hx hb dX10_passesCast_0 rfl (lv_at hl 0 rfl) ?_
  refine va_get (D := (dC, dI)) (ci := 13) (v := .ref a_t_isBroth) (C := RX10) (T := TX10) (N := 3) hx hb hta inX10w hown hK (rk hR0 hNA hS) 0 rfl rfl 0 (by decide) (hta _ lk_X10_9) (fun _ h9 => h9) rfl dX10_passesCast_1 ?_
  refine lv_iload_n hx hb dX10_passesCast_4 rfl (lv_at hl 2 rfl) ?_
  obtain ⟨hc, h⟩ := gc_some h
  refine va_zald hx hb hK hP 0 1 rfl rfl (inb_in hc) dX10_passesCast_5 ?_
  refine lv_iload_n hx hb dX10_passesCast_6 rfl (lv_at hl 3 rfl) ?_
  refine lv_icmp_ne (tgt := 12) hx hb dX10_passesCast_7 (by decide) (fun c0 => ?_) (fun c0 => ?_)
  · have h := (if_neg c0).symm.trans h
    refine lv_iload_n hx hb dX10_passesCast_12 rfl (lv_at hl 3 rfl) ?_
    refine lv_if_eq (tgt := 24) hx hb dX10_passesCast_13 (by decide) (fun c0 => ?_) (fun c0 => ?_)
    · have h := (if_pos c0).symm.trans h
      refine lv_aload_n hx hb dX10_passesCast_24 rfl (lv_at hl 0 rfl) ?_
      refine lv_iload_n hx hb dX10_passesCast_25 rfl (lv_at hl 1 rfl) ?_
      refine lv_ldc2 (v := -99) hx hb hown (hta _ kc_X10_76) dX10_passesCast_26 ?_
      refine lv_ldc2 (v := 99) hx hb hown (hta _ kc_X10_78) dX10_passesCast_29 ?_
      obtain ⟨r1, hq, h⟩ := gb_some h
      refine cxI (X2 := [(a_t_isBroth, .inl (cT 1, 24, .inl r1.2.1)), (a_t_low, .inl (cT 3, 24, .inr (.inl r1.2.2.1))), (a_t_high, .inl (cT 3, 24, .inr (.inl r1.2.2.2)))]) (va_runV (As := [.int p1, .long (-99 : Int64), .long (99 : Int64)]) (rest := []) ⟨hx, hb, hml, hown, hta⟩ (c_X10_tellsDrams l dC dI cT hq (hP.sub (ws' := [(a_t_isBroth, .inl (cT 1, 24, .inl t_isBroth)), (a_t_low, .inl (cT 3, 24, .inr (.inl t_low))), (a_t_high, .inl (cT 3, 24, .inr (.inl t_high)))]) [0, 1, 2] rfl) ((va_P.app hP (rk hR0 hNA hS)).sub (ws' := [(a_t, .inr (13, [.ref a_t_isBroth, .ref a_t_low, .ref a_t_high]))]) [3] rfl) (ds hD [0, 1, 2] (by decide) rfl) (nac hP hD [0, 1, 2] rfl (va_free hD hS hA [0, 1, 2] rfl) hNA [.inl 0] rfl rfl)) (cV hta lm_X10_57 md_X10_tellsDrams ⟨(Nat.le_of_ble_eq_true rfl), (Nat.le_of_ble_eq_true rfl)⟩) ⟨fbK, va_recv hK (rk hR0 hNA hS) (ci := 13) (q0 := 0) rfl rfl, fun U hU hW => ⟨rfl, hU, va_K.moved hW.alike hK⟩⟩ rfl rfl hl.1 rfl (lv_room (Nat.le_of_ble_eq_true rfl)) dX10_passesCast_32 ⟨(Nat.le_of_ble_eq_true rfl), (Nat.le_of_ble_eq_true rfl)⟩) hS hA hP hD [0, 1, 2] rfl [.inl 0, .inl 1, .inl 2] rfl rfl rfl (fun H locs hP hD hS => ?_)
      obtain ⟨hc, h⟩ := gc_some h
      have ho := Option.some.inj h
      exact W.zret (ty := .boolean) (v := r1.1) hx hb hr (bo_n hc) (fun t ht hW => ⟨⟨r1.1, (), rfl, by rw [← ho], by show va_P (dC, dI) vwCl _ t.heap; rw [ht, ← ho]; exact hP⟩, hS.F ht⟩) hS.2.2 dX10_passesCast_35
    · have h := (if_neg c0).symm.trans h
      refine lv_aload_n hx hb dX10_passesCast_16 rfl (lv_at hl 0 rfl) ?_
      refine lv_iload_n hx hb dX10_passesCast_17 rfl (lv_at hl 1 rfl) ?_
      obtain ⟨r2, hq, h⟩ := gb_some h
      refine cxI (X2 := [(a_t_isBroth, .inl (cT 1, 24, .inl r2.2)), (a_t_low, .inl (cT 3, 24, .inr (.inl t_low))), (a_t_high, .inl (cT 3, 24, .inr (.inl t_high)))]) (va_runV (As := [.int p1]) (rest := []) ⟨hx, hb, hml, hown, hta⟩ (c_X10_tellsBroth l dC dI cT hq (hP.sub (ws' := [(a_t_isBroth, .inl (cT 1, 24, .inl t_isBroth))]) [0] rfl) ((va_P.app hP (rk hR0 hNA hS)).sub (ws' := [(a_t, .inr (13, [.ref a_t_isBroth, .ref a_t_low, .ref a_t_high]))]) [3] rfl) (ds hD [0] (by decide) rfl) (nac hP hD [0] rfl (va_free hD hS hA [0] rfl) hNA [.inl 0] rfl rfl)) (cV hta lm_X10_72 md_X10_tellsBroth ⟨(Nat.le_of_ble_eq_true rfl), (Nat.le_of_ble_eq_true rfl)⟩) ⟨fbK, va_recv hK (rk hR0 hNA hS) (ci := 13) (q0 := 0) rfl rfl, fun U hU hW => ⟨rfl, hU, va_K.moved hW.alike hK⟩⟩ rfl rfl hl.1 rfl (lv_room (Nat.le_of_ble_eq_true rfl)) dX10_passesCast_18 ⟨(Nat.le_of_ble_eq_true rfl), (Nat.le_of_ble_eq_true rfl)⟩) hS hA hP hD [0] rfl [.inl 0, .inr 1, .inr 2] rfl rfl rfl (fun H locs hP hD hS => ?_)
      refine lv_goto (tgt := 35) hx hb dX10_passesCast_21 (by decide) ?_
      obtain ⟨hc, h⟩ := gc_some h
      have ho := Option.some.inj h
      exact W.zret (ty := .boolean) (v := r2.1) hx hb hr (bo_n hc) (fun t ht hW => ⟨⟨r2.1, (), rfl, by rw [← ho], by show va_P (dC, dI) vwCl _ t.heap; rw [ht, ← ho]; exact hP⟩, hS.F ht⟩) hS.2.2 dX10_passesCast_35
  · have h := (if_pos c0).symm.trans h
    refine lv_iconst (v := 0) hx hb dX10_passesCast_10 (by decide) ?_
    have ho := Option.some.inj h
    exact W.zret (ty := .boolean) (v := 0) hx hb hr rfl (fun t ht hW => ⟨⟨0, (), rfl, by rw [← ho], by show va_P (dC, dI) vwCl _ t.heap; rw [ht, ← ho]; exact hP⟩, hS.F ht⟩) hS.2.2 dX10_passesCast_11
set_option maxHeartbeats 4000000 in
set_option maxRecDepth 100000 in
theorem c_X10_passesReckoning (l : Launch) (dC : Nat → ClassId) (dI : Nat → Nat → Nat) (cT : Nat → ClassId) {Hh : Heap} {a_t : Nat} {a_t_isBroth : Nat} {a_t_low : Nat} {a_t_high : Nat} {t_isBroth : Nat → Int32} {t_low : Nat → Int64} {t_high : Nat → Int64} {p1 : Int32} {p2 : Int32} {p3 : Int32} {p4 : Int32} {o : Int32 × (Nat → Int32) × (Nat → Int64) × (Nat → Int64)} (h : g_X10_passesReckoning t_isBroth t_low t_high p1 p2 p3 p4 = some o) (hP0 : va_P (dC, dI) vwCl [(a_t_isBroth, .inl (cT 1, 24, .inl t_isBroth)), (a_t_low, .inl (cT 3, 24, .inr (.inl t_low))), (a_t_high, .inl (cT 3, 24, .inr (.inl t_high)))] Hh) (hR0 : va_P (dC, dI) vwCl [(a_t, .inr (13, [.ref a_t_isBroth, .ref a_t_low, .ref a_t_high]))] Hh) (hD0 : va_D (fun _ => True) [(a_t_isBroth, .inl (cT 1, 24, .inl t_isBroth)), (a_t_low, .inl (cT 3, 24, .inr (.inl t_low))), (a_t_high, .inl (cT 3, 24, .inr (.inl t_high)))]) (hN0 : ∀ (k : Nat) (q : Nat × va_E), ([(a_t, .inr (13, [.ref a_t_isBroth, .ref a_t_low, .ref a_t_high]))] : va_W)[k]? = some q → ¬ va_A [(a_t_isBroth, .inl (cT 1, 24, .inl t_isBroth)), (a_t_low, .inl (cT 3, 24, .inr (.inl t_low))), (a_t_high, .inl (cT 3, 24, .inr (.inl t_high)))] Hh.size q.1) : Met l yX10_passesReckoning (wA yX10_passesReckoning cX10_passesReckoning 5 (some .boolean)) ({ frames := 2, cells := 0, slots := 0, locals := 49 } : Room) (PK dC dI cT [.ref a_t, .int p1, .int p2, .int p3, .int p4] Hh) (va_Qi (fun x (_ : Unit) => x = o.1) (fun _ t => va_P (dC, dI) vwCl [(a_t_isBroth, .inl (cT 1, 24, .inl o.2.1)), (a_t_low, .inl (cT 3, 24, .inr (.inl o.2.2.1))), (a_t_high, .inl (cT 3, 24, .inr (.inl o.2.2.2)))] t.heap) (va_A [(a_t_isBroth, .inl (cT 1, 24, .inl t_isBroth)), (a_t_low, .inl (cT 3, 24, .inr (.inl t_low))), (a_t_high, .inl (cT 3, 24, .inr (.inl t_high)))] Hh.size)) 0 0 (va_A [(a_t_isBroth, .inl (cT 1, 24, .inl t_isBroth)), (a_t_low, .inl (cT 3, 24, .inr (.inl t_low))), (a_t_high, .inl (cT 3, 24, .inr (.inl t_high)))] Hh.size) := by
  refine Met.ofW (cc := cX10_passesReckoning) (maxL := 5) (ret := (some .boolean)) (by decide) rfl ?_
  intro p e s m args below meth c s₁ B hml hv
  obtain ⟨rfl, hH, hK⟩ := hv
  subst hH
  have hx := B.exec
  have hb := B.bytes
  have hr := B.returns
  have hta : ∀ w ∈ ALLW, w.before [.ref a_t, .int p1, .int p2, .int p3, .int p4].toArray s = true := fun w hw => atoms_spec (ws := wA yX10_passesReckoning cX10_passesReckoning 5 (some .boolean)) B.pre w (List.mem_cons_of_mem _ hw)
  have hown : s.vm.findClass RX10 = some m.cls := findClass_of_methodNamed B.named
  have hlocks := B.notSynchronized
  have hD := hD0.self (sz := s.heap.size)
  have hNA := hN0
  generalize hAe : va_A [(a_t_isBroth, .inl (cT 1, 24, .inl t_isBroth)), (a_t_low, .inl (cT 3, 24, .inr (.inl t_low))), (a_t_high, .inl (cT 3, 24, .inr (.inl t_high)))] s.heap.size = A at hD hNA ⊢
  have hP := hP0
  have hA : ∀ q : Nat, s.heap.size ≤ q → A q := fun q h => by rw [← hAe]; exact Or.inr h
  have hS : va_S A s.heap s.heap [] := va_S.rf
  have hl := lv_entry [.ref a_t, .int p1, .int p2, .int p3, .int p4] (n := 5) (Nat.le_of_ble_eq_true rfl)
  rw [lg_entry_eq]
  generalize (lg_sl [.ref a_t, .int p1, .int p2, .int p3, .int p4] ++ List.replicate (5 - (lg_sl [.ref a_t, .int p1, .int p2, .int p3, .int p4]).length) Slot.unset).toArray = ls at hl ⊢
  have hl : lv_has ls 5 [(0, .ref a_t), (1, .int p1), (2, .int p2), (3, .int p3), (4, .int p4)] := hl
  obtain ⟨Q, hQ⟩ : ∃ Q, Q = MQ below (va_Qi (fun x (_ : Unit) => x = o.1) (fun _ t => va_P (dC, dI) vwCl [(a_t_isBroth, .inl (cT 1, 24, .inl o.2.1)), (a_t_low, .inl (cT 3, 24, .inr (.inl o.2.2.1))), (a_t_high, .inl (cT 3, 24, .inr (.inl o.2.2.2)))] t.heap) A) [.ref a_t, .int p1, .int p2, .int p3, .int p4].toArray s 0 0 A := ⟨_, rfl⟩
  rw [← hQ]
  have wB_19 : ∀ (H : Heap) (locs : List Loc) (ls : Array Slot), g_X10_passesReckoning_b19 t_isBroth t_low t_high p2 p3 p4 = some o → va_P (dC, dI) vwCl [(a_t_isBroth, .inl (cT 1, 24, .inl t_isBroth)), (a_t_low, .inl (cT 3, 24, .inr (.inl t_low))), (a_t_high, .inl (cT 3, 24, .inr (.inl t_high)))] H → va_D A [(a_t_isBroth, .inl (cT 1, 24, .inl t_isBroth)), (a_t_low, .inl (cT 3, 24, .inr (.inl t_low))), (a_t_high, .inl (cT 3, 24, .inr (.inl t_high)))] → va_S A s.heap H locs → lv_has ls 5 [(0, .ref a_t), (2, .int p2), (3, .int p3), (4, .int p4)] → W p l e ({ frames := 2, cells := 0, slots := 0, locals := 49 } : Room) s m [.ref a_t, .int p1, .int p2, .int p3, .int p4].toArray below meth c H locs 0 0 Q (F0 m 19 ls []) := by
    intro H locs ls h hP hD hS hl
    unfold g_X10_passesReckoning_b19 at h
    refine lv_aload_n hx hb dX10_passesReckoning_19 rfl (lv_at hl 0 rfl) ?_
    refine va_get (D := (dC, dI)) (ci := 13) (v := .ref a_t_isBroth) (C := RX10) (T := TX10) (N := 3) hx hb hta inX10w hown hK (rk hR0 hNA hS) 0 rfl rfl 0 (by decide) (hta _ lk_X10_9) (fun _ h9 => h9) rfl dX10_passesReckoning_20 ?_
    refine lv_iload_n hx hb dX10_passesReckoning_23 rfl (lv_at hl 2 rfl) ?_
    obtain ⟨hc, h⟩ := gc_some h
    refine va_zald hx hb hK hP 0 1 rfl rfl (inb_in hc) dX10_passesReckoning_24 ?_
    refine lv_if_eq (tgt := 50) hx hb dX10_passesReckoning_25 (by decide) (fun c0 => ?_) (fun c0 => ?_)
    · have h := (if_pos c0).symm.trans h
      refine lv_iconst (v := 0) hx hb dX10_passesReckoning_50 (by decide) ?_
      have ho := Option.some.inj h
      rw [hQ]
      exact W.zret (ty := .boolean) (v := 0) hx hb hr rfl (fun t ht hW => ⟨⟨0, (), rfl, by rw [← ho], by show va_P (dC, dI) vwCl _ t.heap; rw [ht, ← ho]; exact hP⟩, hS.F ht⟩) hS.2.2 dX10_passesReckoning_51
    · have h := (if_neg c0).symm.trans h
      refine lv_aload_n hx hb dX10_passesReckoning_28 rfl (lv_at hl 0 rfl) ?_
      refine va_get (D := (dC, dI)) (ci := 13) (v := .ref a_t_isBroth) (C := RX10) (T := TX10) (N := 3) hx hb hta inX10w hown hK (rk hR0 hNA hS) 0 rfl rfl 0 (by decide) (hta _ lk_X10_9) (fun _ h9 => h9) rfl dX10_passesReckoning_29 ?_
      refine lv_iload hx hb dX10_passesReckoning_32 (lv_at hl 3 rfl) ?_
      obtain ⟨hc, h⟩ := gc_some h
      refine va_zald hx hb hK hP 0 1 rfl rfl (inb_in hc) dX10_passesReckoning_34 ?_
      refine lv_if_eq (tgt := 50) hx hb dX10_passesReckoning_35 (by decide) (fun c0 => ?_) (fun c0 => ?_)
      · have h := (if_pos c0).symm.trans h
        refine lv_iconst (v := 0) hx hb dX10_passesReckoning_50 (by decide) ?_
        have ho := Option.some.inj h
        rw [hQ]
        exact W.zret (ty := .boolean) (v := 0) hx hb hr rfl (fun t ht hW => ⟨⟨0, (), rfl, by rw [← ho], by show va_P (dC, dI) vwCl _ t.heap; rw [ht, ← ho]; exact hP⟩, hS.F ht⟩) hS.2.2 dX10_passesReckoning_51
      · have h := (if_neg c0).symm.trans h
        refine lv_aload_n hx hb dX10_passesReckoning_38 rfl (lv_at hl 0 rfl) ?_
        refine lv_iload_n hx hb dX10_passesReckoning_39 rfl (lv_at hl 1 rfl) ?_
        obtain ⟨r4, hq, h⟩ := gb_some h
        refine cxI (X2 := [(a_t_isBroth, .inl (cT 1, 24, .inl r4.2)), (a_t_low, .inl (cT 3, 24, .inr (.inl t_low))), (a_t_high, .inl (cT 3, 24, .inr (.inl t_high)))]) (va_runV (As := [.int p2]) (rest := []) ⟨hx, hb, hml, hown, hta⟩ (c_X10_tellsBroth l dC dI cT hq (hP.sub (ws' := [(a_t_isBroth, .inl (cT 1, 24, .inl t_isBroth))]) [0] rfl) ((va_P.app hP (rk hR0 hNA hS)).sub (ws' := [(a_t, .inr (13, [.ref a_t_isBroth, .ref a_t_low, .ref a_t_high]))]) [3] rfl) (ds hD [0] (by decide) rfl) (nac hP hD [0] rfl (va_free hD hS hA [0] rfl) hNA [.inl 0] rfl rfl)) (cV hta lm_X10_72 md_X10_tellsBroth ⟨(Nat.le_of_ble_eq_true rfl), (Nat.le_of_ble_eq_true rfl)⟩) ⟨fbK, va_recv hK (rk hR0 hNA hS) (ci := 13) (q0 := 0) rfl rfl, fun U hU hW => ⟨rfl, hU, va_K.moved hW.alike hK⟩⟩ rfl rfl hl.1 rfl (lv_room (Nat.le_of_ble_eq_true rfl)) dX10_passesReckoning_40 ⟨(Nat.le_of_ble_eq_true rfl), (Nat.le_of_ble_eq_true rfl)⟩) hS hA hP hD [0] rfl [.inl 0, .inr 1, .inr 2] rfl rfl rfl (fun H locs hP hD hS => ?_)
        refine lv_if_eq (tgt := 50) hx hb dX10_passesReckoning_43 (by decide) (fun c0 => ?_) (fun c0 => ?_)
        · have h := (if_pos c0).symm.trans h
          refine lv_iconst (v := 0) hx hb dX10_passesReckoning_50 (by decide) ?_
          have ho := Option.some.inj h
          rw [hQ]
          exact W.zret (ty := .boolean) (v := 0) hx hb hr rfl (fun t ht hW => ⟨⟨0, (), rfl, by rw [← ho], by show va_P (dC, dI) vwCl _ t.heap; rw [ht, ← ho]; exact hP⟩, hS.F ht⟩) hS.2.2 dX10_passesReckoning_51
        · have h := (if_neg c0).symm.trans h
          refine lv_iconst (v := 1) hx hb dX10_passesReckoning_46 (by decide) ?_
          refine lv_goto (tgt := 51) hx hb dX10_passesReckoning_47 (by decide) ?_
          have ho := Option.some.inj h
          rw [hQ]
          exact W.zret (ty := .boolean) (v := 1) hx hb hr rfl (fun t ht hW => ⟨⟨1, (), rfl, by rw [← ho], by show va_P (dC, dI) vwCl _ t.heap; rw [ht, ← ho]; exact hP⟩, hS.F ht⟩) hS.2.2 dX10_passesReckoning_51
  unfold g_X10_passesReckoning at h
  refine lv_aload_n hx hb dX10_passesReckoning_0 rfl (lv_at hl 0 rfl) ?_
  refine va_get (D := (dC, dI)) (ci := 13) (v := .ref a_t_isBroth) (C := RX10) (T := TX10) (N := 3) hx hb hta inX10w hown hK (rk hR0 hNA hS) 0 rfl rfl 0 (by decide) (hta _ lk_X10_9) (fun _ h9 => h9) rfl dX10_passesReckoning_1 ?_
  refine lv_iload_n hx hb dX10_passesReckoning_4 rfl (lv_at hl 3 rfl) ?_
  obtain ⟨hc, h⟩ := gc_some h
  refine va_zald hx hb hK hP 0 1 rfl rfl (inb_in hc) dX10_passesReckoning_5 ?_
  refine lv_if_ne (tgt := 19) hx hb dX10_passesReckoning_6 (by decide) (fun c0 => ?_) (fun c0 => ?_)
  · have h := (if_neg c0).symm.trans h
    exact wB_19 _ _ _ h hP hD hS (lv_sub hl [0, 2, 3, 4] rfl)
  · have h := (if_pos c0).symm.trans h
    refine lv_aload_n hx hb dX10_passesReckoning_9 rfl (lv_at hl 0 rfl) ?_
    refine va_get (D := (dC, dI)) (ci := 13) (v := .ref a_t_isBroth) (C := RX10) (T := TX10) (N := 3) hx hb hta inX10w hown hK (rk hR0 hNA hS) 0 rfl rfl 0 (by decide) (hta _ lk_X10_9) (fun _ h9 => h9) rfl dX10_passesReckoning_10 ?_
    refine lv_iload hx hb dX10_passesReckoning_13 (lv_at hl 4 rfl) ?_
    obtain ⟨hc, h⟩ := gc_some h
    refine va_zald hx hb hK hP 0 1 rfl rfl (inb_in hc) dX10_passesReckoning_15 ?_
    refine lv_if_eq (tgt := 52) hx hb dX10_passesReckoning_16 (by decide) (fun c0 => ?_) (fun c0 => ?_)
    · have h := (if_pos c0).symm.trans h
      refine lv_aload_n hx hb dX10_passesReckoning_52 rfl (lv_at hl 0 rfl) ?_
      refine lv_iload_n hx hb dX10_passesReckoning_53 rfl (lv_at hl 2 rfl) ?_
      refine lv_iload_n hx hb dX10_passesReckoning_54 rfl (lv_at hl 1 rfl) ?_
      refine lv_aload_n hx hb dX10_passesReckoning_55 rfl (lv_at hl 0 rfl) ?_
      refine va_get (D := (dC, dI)) (ci := 13) (v := .ref a_t_low) (C := RX10) (T := TX10) (N := 3) hx hb hta inX10w hown hK (rk hR0 hNA hS) 0 rfl rfl 1 (by decide) (hta _ lk_X10_15) (fun _ h9 => h9) rfl dX10_passesReckoning_56 ?_
      refine lv_iload_n hx hb dX10_passesReckoning_59 rfl (lv_at hl 3 rfl) ?_
      obtain ⟨hc, h⟩ := gc_some h
      refine va_lald hx hb hK hP 1 3 rfl rfl (inb_in hc) dX10_passesReckoning_60 ?_
      refine lv_aload_n hx hb dX10_passesReckoning_61 rfl (lv_at hl 0 rfl) ?_
      refine va_get (D := (dC, dI)) (ci := 13) (v := .ref a_t_high) (C := RX10) (T := TX10) (N := 3) hx hb hta inX10w hown hK (rk hR0 hNA hS) 0 rfl rfl 2 (by decide) (hta _ lk_X10_19) (fun _ h9 => h9) rfl dX10_passesReckoning_62 ?_
      refine lv_iload_n hx hb dX10_passesReckoning_65 rfl (lv_at hl 3 rfl) ?_
      obtain ⟨hc, h⟩ := gc_some h
      refine va_lald hx hb hK hP 2 3 rfl rfl (inb_in hc) dX10_passesReckoning_66 ?_
      refine lv_aload_n hx hb dX10_passesReckoning_67 rfl (lv_at hl 0 rfl) ?_
      refine va_get (D := (dC, dI)) (ci := 13) (v := .ref a_t_low) (C := RX10) (T := TX10) (N := 3) hx hb hta inX10w hown hK (rk hR0 hNA hS) 0 rfl rfl 1 (by decide) (hta _ lk_X10_15) (fun _ h9 => h9) rfl dX10_passesReckoning_68 ?_
      refine lv_iload hx hb dX10_passesReckoning_71 (lv_at hl 4 rfl) ?_
      obtain ⟨hc, h⟩ := gc_some h
      refine va_lald hx hb hK hP 1 3 rfl rfl (inb_in hc) dX10_passesReckoning_73 ?_
      refine lv_aload_n hx hb dX10_passesReckoning_74 rfl (lv_at hl 0 rfl) ?_
      refine va_get (D := (dC, dI)) (ci := 13) (v := .ref a_t_high) (C := RX10) (T := TX10) (N := 3) hx hb hta inX10w hown hK (rk hR0 hNA hS) 0 rfl rfl 2 (by decide) (hta _ lk_X10_19) (fun _ h9 => h9) rfl dX10_passesReckoning_75 ?_
      refine lv_iload hx hb dX10_passesReckoning_78 (lv_at hl 4 rfl) ?_
      obtain ⟨hc, h⟩ := gc_some h
      refine va_lald hx hb hK hP 2 3 rfl rfl (inb_in hc) dX10_passesReckoning_80 ?_
      obtain ⟨r1, hq, h⟩ := gb_some h
      refine crL (va_runS (As := [.int p1, .long (t_low p3.toNatClampNeg), .long (t_high p3.toNatClampNeg), .long (t_low p4.toNatClampNeg), .long (t_high p4.toNatClampNeg)]) (rest := [.int p2, .ref a_t]) ⟨hx, hb, hml, hown, hta⟩ (c_X5_lowest l dC dI cT hq) (cS hta lm_X10_80 md_X5_lowest ⟨(Nat.le_of_ble_eq_true rfl), (Nat.le_of_ble_eq_true rfl)⟩) ⟨fbK, fun U hU hW => ⟨rfl, hU, va_K.moved hW.alike hK⟩⟩ rfl rfl hl.1 rfl (lv_room (Nat.le_of_ble_eq_true rfl)) dX10_passesReckoning_81 ⟨(Nat.le_of_ble_eq_true rfl), (Nat.le_of_ble_eq_true rfl)⟩) hS hA (fun locs hS => ?_)
      refine lv_iload_n hx hb dX10_passesReckoning_84 rfl (lv_at hl 1 rfl) ?_
      refine lv_aload_n hx hb dX10_passesReckoning_85 rfl (lv_at hl 0 rfl) ?_
      refine va_get (D := (dC, dI)) (ci := 13) (v := .ref a_t_low) (C := RX10) (T := TX10) (N := 3) hx hb hta inX10w hown hK (rk hR0 hNA hS) 0 rfl rfl 1 (by decide) (hta _ lk_X10_15) (fun _ h9 => h9) rfl dX10_passesReckoning_86 ?_
      refine lv_iload_n hx hb dX10_passesReckoning_89 rfl (lv_at hl 3 rfl) ?_
      obtain ⟨hc, h⟩ := gc_some h
      refine va_lald hx hb hK hP 1 3 rfl rfl (inb_in hc) dX10_passesReckoning_90 ?_
      refine lv_aload_n hx hb dX10_passesReckoning_91 rfl (lv_at hl 0 rfl) ?_
      refine va_get (D := (dC, dI)) (ci := 13) (v := .ref a_t_high) (C := RX10) (T := TX10) (N := 3) hx hb hta inX10w hown hK (rk hR0 hNA hS) 0 rfl rfl 2 (by decide) (hta _ lk_X10_19) (fun _ h9 => h9) rfl dX10_passesReckoning_92 ?_
      refine lv_iload_n hx hb dX10_passesReckoning_95 rfl (lv_at hl 3 rfl) ?_
      obtain ⟨hc, h⟩ := gc_some h
      refine va_lald hx hb hK hP 2 3 rfl rfl (inb_in hc) dX10_passesReckoning_96 ?_
      refine lv_aload_n hx hb dX10_passesReckoning_97 rfl (lv_at hl 0 rfl) ?_
      refine va_get (D := (dC, dI)) (ci := 13) (v := .ref a_t_low) (C := RX10) (T := TX10) (N := 3) hx hb hta inX10w hown hK (rk hR0 hNA hS) 0 rfl rfl 1 (by decide) (hta _ lk_X10_15) (fun _ h9 => h9) rfl dX10_passesReckoning_98 ?_
      refine lv_iload hx hb dX10_passesReckoning_101 (lv_at hl 4 rfl) ?_
      obtain ⟨hc, h⟩ := gc_some h
      refine va_lald hx hb hK hP 1 3 rfl rfl (inb_in hc) dX10_passesReckoning_103 ?_
      refine lv_aload_n hx hb dX10_passesReckoning_104 rfl (lv_at hl 0 rfl) ?_
      refine va_get (D := (dC, dI)) (ci := 13) (v := .ref a_t_high) (C := RX10) (T := TX10) (N := 3) hx hb hta inX10w hown hK (rk hR0 hNA hS) 0 rfl rfl 2 (by decide) (hta _ lk_X10_19) (fun _ h9 => h9) rfl dX10_passesReckoning_105 ?_
      refine lv_iload hx hb dX10_passesReckoning_108 (lv_at hl 4 rfl) ?_
      obtain ⟨hc, h⟩ := gc_some h
      refine va_lald hx hb hK hP 2 3 rfl rfl (inb_in hc) dX10_passesReckoning_110 ?_
      obtain ⟨r2, hq, h⟩ := gb_some h
      refine crL (va_runS (As := [.int p1, .long (t_low p3.toNatClampNeg), .long (t_high p3.toNatClampNeg), .long (t_low p4.toNatClampNeg), .long (t_high p4.toNatClampNeg)]) (rest := [.long r1, .int p2, .ref a_t]) ⟨hx, hb, hml, hown, hta⟩ (c_X5_highest l dC dI cT hq) (cS hta lm_X10_86 md_X5_highest ⟨(Nat.le_of_ble_eq_true rfl), (Nat.le_of_ble_eq_true rfl)⟩) ⟨fbK, fun U hU hW => ⟨rfl, hU, va_K.moved hW.alike hK⟩⟩ rfl rfl hl.1 rfl (lv_room (Nat.le_of_ble_eq_true rfl)) dX10_passesReckoning_111 ⟨(Nat.le_of_ble_eq_true rfl), (Nat.le_of_ble_eq_true rfl)⟩) hS hA (fun locs hS => ?_)
      obtain ⟨r3, hq, h⟩ := gb_some h
      refine cxI (X2 := [(a_t_isBroth, .inl (cT 1, 24, .inl r3.2.1)), (a_t_low, .inl (cT 3, 24, .inr (.inl r3.2.2.1))), (a_t_high, .inl (cT 3, 24, .inr (.inl r3.2.2.2)))]) (va_runV (As := [.int p2, .long r1, .long r2]) (rest := []) ⟨hx, hb, hml, hown, hta⟩ (c_X10_tellsDrams l dC dI cT hq (hP.sub (ws' := [(a_t_isBroth, .inl (cT 1, 24, .inl t_isBroth)), (a_t_low, .inl (cT 3, 24, .inr (.inl t_low))), (a_t_high, .inl (cT 3, 24, .inr (.inl t_high)))]) [0, 1, 2] rfl) ((va_P.app hP (rk hR0 hNA hS)).sub (ws' := [(a_t, .inr (13, [.ref a_t_isBroth, .ref a_t_low, .ref a_t_high]))]) [3] rfl) (ds hD [0, 1, 2] (by decide) rfl) (nac hP hD [0, 1, 2] rfl (va_free hD hS hA [0, 1, 2] rfl) hNA [.inl 0] rfl rfl)) (cV hta lm_X10_57 md_X10_tellsDrams ⟨(Nat.le_of_ble_eq_true rfl), (Nat.le_of_ble_eq_true rfl)⟩) ⟨fbK, va_recv hK (rk hR0 hNA hS) (ci := 13) (q0 := 0) rfl rfl, fun U hU hW => ⟨rfl, hU, va_K.moved hW.alike hK⟩⟩ rfl rfl hl.1 rfl (lv_room (Nat.le_of_ble_eq_true rfl)) dX10_passesReckoning_114 ⟨(Nat.le_of_ble_eq_true rfl), (Nat.le_of_ble_eq_true rfl)⟩) hS hA hP hD [0, 1, 2] rfl [.inl 0, .inl 1, .inl 2] rfl rfl rfl (fun H locs hP hD hS => ?_)
      obtain ⟨hc, h⟩ := gc_some h
      have ho := Option.some.inj h
      rw [hQ]
      exact W.zret (ty := .boolean) (v := r3.1) hx hb hr (bo_n hc) (fun t ht hW => ⟨⟨r3.1, (), rfl, by rw [← ho], by show va_P (dC, dI) vwCl _ t.heap; rw [ht, ← ho]; exact hP⟩, hS.F ht⟩) hS.2.2 dX10_passesReckoning_117
    · have h := (if_neg c0).symm.trans h
      exact wB_19 _ _ _ h hP hD hS (lv_sub hl [0, 2, 3, 4] rfl)
set_option maxHeartbeats 4000000 in
set_option maxRecDepth 100000 in
theorem c_X10_passesPart (l : Launch) (dC : Nat → ClassId) (dI : Nat → Nat → Nat) (cT : Nat → ClassId) (n : Nat) : ∀ {Hh : Heap} {a_t : Nat} {a_p1 : Nat} {a_p2 : Nat} {a_p1_kinds : Nat} {a_p1_values : Nat} {a_p1_parts : Nat} {a_t_isBroth : Nat} {a_t_low : Nat} {a_t_high : Nat} {a_p1_lastParts : Nat} {a_p2_isBroth : Nat} {a_p2_low : Nat} {a_p2_high : Nat} {a_p1_text : Nat} {a_p1_firsts : Nat} {a_p2_contents : Nat} {a_p2_storesIn : Nat} {a_p2_texts : Nat} {a_p2_cooked : Nat} {p1_tokens : Int32} {p1_kinds : Nat → Int32} {p1_values : Nat → Int32} {p1_parts : Nat → Int32} {t_isBroth : Nat → Int32} {t_low : Nat → Int64} {t_high : Nat → Int64} {p1_lastParts : Nat → Int32} {p2_isBroth : Nat → Int32} {p2_low : Nat → Int32} {p2_high : Nat → Int32} {p3 : Int32} {p4 : Int32} {p1_stores : Int32} {p1_mostSpoons : Int32} {p2_cauldrons : Int32} {p2_spells : Int32} {p2_cookedSoFar : Int32} {p2_storesSoFar : Int32} {o : Int32 × (Nat → Int32) × (Nat → Int64) × (Nat → Int64)} (h : g_X10_passesPart n p1_tokens p1_kinds p1_values p1_parts t_isBroth t_low t_high p1_lastParts p2_isBroth p2_low p2_high p3 p4 = some o) (hP0 : va_P (dC, dI) vwCl [(a_t_isBroth, .inl (cT 1, 24, .inl t_isBroth)), (a_t_low, .inl (cT 3, 24, .inr (.inl t_low))), (a_t_high, .inl (cT 3, 24, .inr (.inl t_high)))] Hh) (hR0 : va_P (dC, dI) vwCl [(a_t, .inr (13, [.ref a_t_isBroth, .ref a_t_low, .ref a_t_high])), (a_p1, .inr (11, [.ref a_p1_text, .int p1_tokens, .int p1_stores, .int p1_mostSpoons, .ref a_p1_firsts, .ref a_p1_kinds, .ref a_p1_values, .ref a_p1_parts, .ref a_p1_lastParts])), (a_p2, .inr (4, [.int p2_cauldrons, .ref a_p2_isBroth, .ref a_p2_low, .ref a_p2_high, .ref a_p2_contents, .ref a_p2_storesIn, .int p2_spells, .ref a_p2_texts, .ref a_p2_cooked, .int p2_cookedSoFar, .int p2_storesSoFar])), (a_p1_kinds, .inl (cT 0, 24, .inl p1_kinds)), (a_p1_values, .inl (cT 0, 24, .inl p1_values)), (a_p1_parts, .inl (cT 0, 24, .inl p1_parts)), (a_p1_lastParts, .inl (cT 0, 24, .inl p1_lastParts)), (a_p2_isBroth, .inl (cT 1, 6, .inl p2_isBroth)), (a_p2_low, .inl (cT 0, 6, .inl p2_low)), (a_p2_high, .inl (cT 0, 6, .inl p2_high))] Hh) (hD0 : va_D (fun _ => True) [(a_t_isBroth, .inl (cT 1, 24, .inl t_isBroth)), (a_t_low, .inl (cT 3, 24, .inr (.inl t_low))), (a_t_high, .inl (cT 3, 24, .inr (.inl t_high)))]) (hN0 : ∀ (k : Nat) (q : Nat × va_E), ([(a_t, .inr (13, [.ref a_t_isBroth, .ref a_t_low, .ref a_t_high])), (a_p1, .inr (11, [.ref a_p1_text, .int p1_tokens, .int p1_stores, .int p1_mostSpoons, .ref a_p1_firsts, .ref a_p1_kinds, .ref a_p1_values, .ref a_p1_parts, .ref a_p1_lastParts])), (a_p2, .inr (4, [.int p2_cauldrons, .ref a_p2_isBroth, .ref a_p2_low, .ref a_p2_high, .ref a_p2_contents, .ref a_p2_storesIn, .int p2_spells, .ref a_p2_texts, .ref a_p2_cooked, .int p2_cookedSoFar, .int p2_storesSoFar])), (a_p1_kinds, .inl (cT 0, 24, .inl p1_kinds)), (a_p1_values, .inl (cT 0, 24, .inl p1_values)), (a_p1_parts, .inl (cT 0, 24, .inl p1_parts)), (a_p1_lastParts, .inl (cT 0, 24, .inl p1_lastParts)), (a_p2_isBroth, .inl (cT 1, 6, .inl p2_isBroth)), (a_p2_low, .inl (cT 0, 6, .inl p2_low)), (a_p2_high, .inl (cT 0, 6, .inl p2_high))] : va_W)[k]? = some q → ¬ va_A [(a_t_isBroth, .inl (cT 1, 24, .inl t_isBroth)), (a_t_low, .inl (cT 3, 24, .inr (.inl t_low))), (a_t_high, .inl (cT 3, 24, .inr (.inl t_high)))] Hh.size q.1), Met l yX10_passesPart (wA yX10_passesPart cX10_passesPart 9 (some .boolean)) ({ frames := n + 3, cells := 0, slots := 0, locals := n * 28 + 73 } : Room) (PK dC dI cT [.ref a_t, .ref a_p1, .ref a_p2, .int p3, .int p4] Hh) (va_Qi (fun x (_ : Unit) => x = o.1) (fun _ t => va_P (dC, dI) vwCl [(a_t_isBroth, .inl (cT 1, 24, .inl o.2.1)), (a_t_low, .inl (cT 3, 24, .inr (.inl o.2.2.1))), (a_t_high, .inl (cT 3, 24, .inr (.inl o.2.2.2)))] t.heap) (va_A [(a_t_isBroth, .inl (cT 1, 24, .inl t_isBroth)), (a_t_low, .inl (cT 3, 24, .inr (.inl t_low))), (a_t_high, .inl (cT 3, 24, .inr (.inl t_high)))] Hh.size)) 0 0 (va_A [(a_t_isBroth, .inl (cT 1, 24, .inl t_isBroth)), (a_t_low, .inl (cT 3, 24, .inr (.inl t_low))), (a_t_high, .inl (cT 3, 24, .inr (.inl t_high)))] Hh.size) := by
  induction n with
  | zero =>
    intro Hh a_t a_p1 a_p2 a_p1_kinds a_p1_values a_p1_parts a_t_isBroth a_t_low a_t_high a_p1_lastParts a_p2_isBroth a_p2_low a_p2_high a_p1_text a_p1_firsts a_p2_contents a_p2_storesIn a_p2_texts a_p2_cooked p1_tokens p1_kinds p1_values p1_parts t_isBroth t_low t_high p1_lastParts p2_isBroth p2_low p2_high p3 p4 p1_stores p1_mostSpoons p2_cauldrons p2_spells p2_cookedSoFar p2_storesSoFar o h hP0 hR0 hD0 hN0
    simp [g_X10_passesPart] at h
  | succ n ih =>
    intro Hh a_t a_p1 a_p2 a_p1_kinds a_p1_values a_p1_parts a_t_isBroth a_t_low a_t_high a_p1_lastParts a_p2_isBroth a_p2_low a_p2_high a_p1_text a_p1_firsts a_p2_contents a_p2_storesIn a_p2_texts a_p2_cooked p1_tokens p1_kinds p1_values p1_parts t_isBroth t_low t_high p1_lastParts p2_isBroth p2_low p2_high p3 p4 p1_stores p1_mostSpoons p2_cauldrons p2_spells p2_cookedSoFar p2_storesSoFar o h hP0 hR0 hD0 hN0
    rw [g_X10_passesPart] at h
    refine Met.ofW (cc := cX10_passesPart) (maxL := 9) (ret := (some .boolean)) (by decide) rfl ?_
    intro p e s m args below meth c s₁ B hml hv
    show W p l e ({ frames := n + 1 + 3, cells := 0, slots := 0, locals := (n + 1) * 28 + 73 } : Room) s m args below meth c s.heap [] 0 0 _ _
    obtain ⟨rfl, hH, hK⟩ := hv
    subst hH
    have hx := B.exec
    have hb := B.bytes
    have hr := B.returns
    have hta : ∀ w ∈ ALLW, w.before [.ref a_t, .ref a_p1, .ref a_p2, .int p3, .int p4].toArray s = true := fun w hw => atoms_spec (ws := wA yX10_passesPart cX10_passesPart 9 (some .boolean)) B.pre w (List.mem_cons_of_mem _ hw)
    have hown : s.vm.findClass RX10 = some m.cls := findClass_of_methodNamed B.named
    have hlocks := B.notSynchronized
    have hD := hD0.self (sz := s.heap.size)
    have hNA := hN0
    generalize hAe : va_A [(a_t_isBroth, .inl (cT 1, 24, .inl t_isBroth)), (a_t_low, .inl (cT 3, 24, .inr (.inl t_low))), (a_t_high, .inl (cT 3, 24, .inr (.inl t_high)))] s.heap.size = A at hD hNA ⊢
    have hP := hP0
    have hA : ∀ q : Nat, s.heap.size ≤ q → A q := fun q h => by rw [← hAe]; exact Or.inr h
    have hS : va_S A s.heap s.heap [] := va_S.rf
    have hl := lv_entry [.ref a_t, .ref a_p1, .ref a_p2, .int p3, .int p4] (n := 9) (Nat.le_of_ble_eq_true rfl)
    rw [lg_entry_eq]
    generalize (lg_sl [.ref a_t, .ref a_p1, .ref a_p2, .int p3, .int p4] ++ List.replicate (9 - (lg_sl [.ref a_t, .ref a_p1, .ref a_p2, .int p3, .int p4]).length) Slot.unset).toArray = ls at hl ⊢
    have hl : lv_has ls 9 [(0, .ref a_t), (1, .ref a_p1), (2, .ref a_p2), (3, .int p3), (4, .int p4)] := hl
    refine lv_iload_n hx hb dX10_passesPart_0 rfl (lv_at hl 3 rfl) ?_
    refine lv_if_lt (tgt := 19) hx hb dX10_passesPart_1 (by decide) (fun c0 => ?_) (fun c0 => ?_)
    · have h := (if_pos c0).symm.trans h
      refine lv_iconst (v := 0) hx hb dX10_passesPart_19 (by decide) ?_
      have ho := Option.some.inj h
      exact W.zret (ty := .boolean) (v := 0) hx hb hr rfl (fun t ht hW => ⟨⟨0, (), rfl, by rw [← ho], by show va_P (dC, dI) vwCl _ t.heap; rw [ht, ← ho]; exact hP⟩, hS.F ht⟩) hS.2.2 dX10_passesPart_20
    · have h := (if_neg c0).symm.trans h
      refine lv_iload_n hx hb dX10_passesPart_4 rfl (lv_at hl 3 rfl) ?_
      refine lv_aload_n hx hb dX10_passesPart_5 rfl (lv_at hl 1 rfl) ?_
      refine va_get (D := (dC, dI)) (ci := 11) (v := .int p1_tokens) (C := RX8) (T := TX8) (N := 9) hx hb hta inX8w hown hK (rk hR0 hNA hS) 1 rfl rfl 1 (by decide) (hta _ lk_X10_22) (fun _ h9 => h9) rfl dX10_passesPart_6 ?_
      refine lv_icmp_ge (tgt := 19) hx hb dX10_passesPart_9 (by decide) (fun c0 => ?_) (fun c0 => ?_)
      · have h := (if_pos c0).symm.trans h
        refine lv_iconst (v := 0) hx hb dX10_passesPart_19 (by decide) ?_
        have ho := Option.some.inj h
        exact W.zret (ty := .boolean) (v := 0) hx hb hr rfl (fun t ht hW => ⟨⟨0, (), rfl, by rw [← ho], by show va_P (dC, dI) vwCl _ t.heap; rw [ht, ← ho]; exact hP⟩, hS.F ht⟩) hS.2.2 dX10_passesPart_20
      · have h := (if_neg c0).symm.trans h
        refine lv_iload hx hb dX10_passesPart_12 (lv_at hl 4 rfl) ?_
        refine lv_bipush (v := 24) hx hb dX10_passesPart_14 (by decide) ?_
        refine lv_icmp_le (tgt := 21) hx hb dX10_passesPart_16 (by decide) (fun c0 => ?_) (fun c0 => ?_)
        · have h := (if_pos c0).symm.trans h
          refine lv_aload_n hx hb dX10_passesPart_21 rfl (lv_at hl 1 rfl) ?_
          refine va_get (D := (dC, dI)) (ci := 11) (v := .ref a_p1_kinds) (C := RX8) (T := TX8) (N := 9) hx hb hta inX8w hown hK (rk hR0 hNA hS) 1 rfl rfl 5 (by decide) (hta _ lk_X10_28) (fun _ h9 => h9) rfl dX10_passesPart_22 ?_
          refine lv_iload_n hx hb dX10_passesPart_25 rfl (lv_at hl 3 rfl) ?_
          obtain ⟨hc, h⟩ := gc_some h
          refine va_iald hx hb hK (rk hR0 hNA hS) 3 0 rfl rfl (inb_in hc) dX10_passesPart_26 ?_
          refine lv_topi (fun v1 e_v1 => ?_)
          have h := gl_use e_v1 h
          refine lv_istore (lv' := [(5, .int v1), (0, .ref a_t), (1, .ref a_p1), (2, .ref a_p2), (3, .int p3), (4, .int p4)]) hx hb dX10_passesPart_27 hl (by decide) rfl (fun ls hl => ?_)
          refine lv_aload_n hx hb dX10_passesPart_29 rfl (lv_at hl 2 rfl) ?_
          refine va_get (D := (dC, dI)) (ci := 11) (v := .ref a_p1_values) (C := RX8) (T := TX8) (N := 9) hx hb hta inX8w hown hK (rk hR0 hNA hS) 1 rfl rfl 6 (by decide) (hta _ lk_X10_39) (fun _ h9 => h9) rfl dX10_passesPart_30 ?_
          refine lv_iload_n hx hb dX10_passesPart_33 rfl (lv_at hl 4 rfl) ?_
          obtain ⟨hc, h⟩ := gc_some h
          refine va_iald hx hb hK (rk hR0 hNA hS) 4 0 rfl rfl (inb_in hc) dX10_passesPart_34 ?_
          refine lv_topi (fun v2 e_v2 => ?_)
          have h := gl_use e_v2 h
          refine lv_istore (lv' := [(6, .int v2), (5, .int v1), (0, .ref a_t), (1, .ref a_p1), (2, .ref a_p2), (3, .int p3), (4, .int p4)]) hx hb dX10_passesPart_35 hl (by decide) rfl (fun ls hl => ?_)
          refine lv_iload hx hb dX10_passesPart_37 (lv_at hl 1 rfl) ?_
          refine lv_if_ne (tgt := 51) hx hb dX10_passesPart_39 (by decide) (fun c0 => ?_) (fun c0 => ?_)
          · have h := (if_neg c0).symm.trans h
            refine lv_iload hx hb dX10_passesPart_51 (lv_at hl 1 rfl) ?_
            refine lv_iconst (v := 1) hx hb dX10_passesPart_53 (by decide) ?_
            refine lv_icmp_ne (tgt := 69) hx hb dX10_passesPart_54 (by decide) (fun c0 => ?_) (fun c0 => ?_)
            · have h := (if_neg c0).symm.trans h
              refine lv_aload_n hx hb dX10_passesPart_69 rfl (lv_at hl 3 rfl) ?_
              refine va_get (D := (dC, dI)) (ci := 11) (v := .ref a_p1_parts) (C := RX8) (T := TX8) (N := 9) hx hb hta inX8w hown hK (rk hR0 hNA hS) 1 rfl rfl 7 (by decide) (hta _ lk_X10_36) (fun _ h9 => h9) rfl dX10_passesPart_70 ?_
              refine lv_iload_n hx hb dX10_passesPart_73 rfl (lv_at hl 5 rfl) ?_
              obtain ⟨hc, h⟩ := gc_some h
              refine va_iald hx hb hK (rk hR0 hNA hS) 5 0 rfl rfl (inb_in hc) dX10_passesPart_74 ?_
              refine lv_topi (fun v3 e_v3 => ?_)
              have h := gl_use e_v3 h
              refine lv_istore (lv' := [(7, .int v3), (6, .int v2), (5, .int v1), (0, .ref a_t), (1, .ref a_p1), (2, .ref a_p2), (3, .int p3), (4, .int p4)]) hx hb dX10_passesPart_75 hl (by decide) rfl (fun ls hl => ?_)
              refine lv_iload hx hb dX10_passesPart_77 (lv_at hl 2 rfl) ?_
              refine lv_bipush (v := 7) hx hb dX10_passesPart_79 (by decide) ?_
              refine lv_icmp_eq (tgt := 99) hx hb dX10_passesPart_81 (by decide) (fun c0 => ?_) (fun c0 => ?_)
              · have h := (if_pos c0).symm.trans h
                refine lv_iconst (v := 0) hx hb dX10_passesPart_99 (by decide) ?_
                have ho := Option.some.inj h
                exact W.zret (ty := .boolean) (v := 0) hx hb hr rfl (fun t ht hW => ⟨⟨0, (), rfl, by rw [← ho], by show va_P (dC, dI) vwCl _ t.heap; rw [ht, ← ho]; exact hP⟩, hS.F ht⟩) hS.2.2 dX10_passesPart_100
              · have h := (if_neg c0).symm.trans h
                refine lv_aload_n hx hb dX10_passesPart_84 rfl (lv_at hl 3 rfl) ?_
                refine lv_aload_n hx hb dX10_passesPart_85 rfl (lv_at hl 4 rfl) ?_
                refine lv_aload_n hx hb dX10_passesPart_86 rfl (lv_at hl 5 rfl) ?_
                refine lv_iload hx hb dX10_passesPart_87 (lv_at hl 0 rfl) ?_
                refine lv_iload hx hb dX10_passesPart_89 (lv_at hl 7 rfl) ?_
                refine lv_iconst (v := 1) hx hb dX10_passesPart_91 (by decide) ?_
                refine lv_iadd hx hb dX10_passesPart_92 ?_
                obtain ⟨r4, hq, h⟩ := gb_some h
                refine cxI (X2 := [(a_t_isBroth, .inl (cT 1, 24, .inl r4.2.1)), (a_t_low, .inl (cT 3, 24, .inr (.inl r4.2.2.1))), (a_t_high, .inl (cT 3, 24, .inr (.inl r4.2.2.2)))]) (va_runV (As := [.ref a_p1, .ref a_p2, .int v3, .int (p4 + 1)]) (rest := []) ⟨hx, hb, hml, hown, hta⟩ (ih hq (hP.sub (ws' := [(a_t_isBroth, .inl (cT 1, 24, .inl t_isBroth)), (a_t_low, .inl (cT 3, 24, .inr (.inl t_low))), (a_t_high, .inl (cT 3, 24, .inr (.inl t_high)))]) [0, 1, 2] rfl) ((va_P.app hP (rk hR0 hNA hS)).sub (ws' := [(a_t, .inr (13, [.ref a_t_isBroth, .ref a_t_low, .ref a_t_high])), (a_p1, .inr (11, [.ref a_p1_text, .int p1_tokens, .int p1_stores, .int p1_mostSpoons, .ref a_p1_firsts, .ref a_p1_kinds, .ref a_p1_values, .ref a_p1_parts, .ref a_p1_lastParts])), (a_p2, .inr (4, [.int p2_cauldrons, .ref a_p2_isBroth, .ref a_p2_low, .ref a_p2_high, .ref a_p2_contents, .ref a_p2_storesIn, .int p2_spells, .ref a_p2_texts, .ref a_p2_cooked, .int p2_cookedSoFar, .int p2_storesSoFar])), (a_p1_kinds, .inl (cT 0, 24, .inl p1_kinds)), (a_p1_values, .inl (cT 0, 24, .inl p1_values)), (a_p1_parts, .inl (cT 0, 24, .inl p1_parts)), (a_p1_lastParts, .inl (cT 0, 24, .inl p1_lastParts)), (a_p2_isBroth, .inl (cT 1, 6, .inl p2_isBroth)), (a_p2_low, .inl (cT 0, 6, .inl p2_low)), (a_p2_high, .inl (cT 0, 6, .inl p2_high))]) [3, 4, 5, 6, 7, 8, 9, 10, 11, 12] rfl) (ds hD [0, 1, 2] (by decide) rfl) (nac hP hD [0, 1, 2] rfl (va_free hD hS hA [0, 1, 2] rfl) hNA [.inl 0, .inl 1, .inl 2, .inl 3, .inl 4, .inl 5, .inl 6, .inl 7, .inl 8, .inl 9] rfl rfl)) (cV hta lm_X10_42 md_X10_passesPart ⟨(by dsimp only; omega), (by dsimp only; omega)⟩) ⟨fbK, va_recv hK (rk hR0 hNA hS) (ci := 13) (q0 := 0) rfl rfl, fun U hU hW => ⟨rfl, hU, va_K.moved hW.alike hK⟩⟩ rfl rfl hl.1 rfl (lv_room (Nat.le_of_ble_eq_true rfl)) dX10_passesPart_93 ⟨(by dsimp only; omega), (by dsimp only; omega)⟩) hS hA hP hD [0, 1, 2] rfl [.inl 0, .inl 1, .inl 2] rfl rfl rfl (fun H locs hP hD hS => ?_)
                refine lv_if_ne (tgt := 101) hx hb dX10_passesPart_96 (by decide) (fun c0 => ?_) (fun c0 => ?_)
                · have h := (if_neg c0).symm.trans h
                  refine lv_iload hx hb dX10_passesPart_101 (lv_at hl 2 rfl) ?_
                  refine lv_iconst (v := 5) hx hb dX10_passesPart_103 (by decide) ?_
                  refine lv_icmp_eq (tgt := 114) hx hb dX10_passesPart_104 (by decide) (fun c0 => ?_) (fun c0 => ?_)
                  · have h := (if_pos c0).symm.trans h
                    refine lv_aload_n hx hb dX10_passesPart_114 rfl (lv_at hl 3 rfl) ?_
                    refine lv_iload_n hx hb dX10_passesPart_115 rfl (lv_at hl 6 rfl) ?_
                    refine lv_iload hx hb dX10_passesPart_116 (lv_at hl 0 rfl) ?_
                    refine lv_iload hx hb dX10_passesPart_118 (lv_at hl 2 rfl) ?_
                    refine lv_iconst (v := 5) hx hb dX10_passesPart_120 (by decide) ?_
                    refine lv_icmp_ne (tgt := 128) hx hb dX10_passesPart_121 (by decide) (fun c0 => ?_) (fun c0 => ?_)
                    · have h := (if_neg c0).symm.trans h
                      refine lv_iconst (v := 0) hx hb dX10_passesPart_128 (by decide) ?_
                      obtain ⟨r5, hq, h⟩ := gb_some h
                      refine cxI (X2 := [(a_t_isBroth, .inl (cT 1, 24, .inl r5.2.1)), (a_t_low, .inl (cT 3, 24, .inr (.inl r5.2.2.1))), (a_t_high, .inl (cT 3, 24, .inr (.inl r5.2.2.2)))]) (va_runV (As := [.int p3, .int v3, .int 0]) (rest := []) ⟨hx, hb, hml, hown, hta⟩ (c_X10_passesCast l dC dI cT hq (hP.sub (ws' := [(a_t_isBroth, .inl (cT 1, 24, .inl r4.2.1)), (a_t_low, .inl (cT 3, 24, .inr (.inl r4.2.2.1))), (a_t_high, .inl (cT 3, 24, .inr (.inl r4.2.2.2)))]) [0, 1, 2] rfl) ((va_P.app hP (rk hR0 hNA hS)).sub (ws' := [(a_t, .inr (13, [.ref a_t_isBroth, .ref a_t_low, .ref a_t_high]))]) [3] rfl) (ds hD [0, 1, 2] (by decide) rfl) (nac hP hD [0, 1, 2] rfl (va_free hD hS hA [0, 1, 2] rfl) hNA [.inl 0] rfl rfl)) (cV hta lm_X10_61 md_X10_passesCast ⟨(by dsimp only; omega), (by dsimp only; omega)⟩) ⟨fbK, va_recv hK (rk hR0 hNA hS) (ci := 13) (q0 := 0) rfl rfl, fun U hU hW => ⟨rfl, hU, va_K.moved hW.alike hK⟩⟩ rfl rfl hl.1 rfl (lv_room (Nat.le_of_ble_eq_true rfl)) dX10_passesPart_129 ⟨(by dsimp only; omega), (by dsimp only; omega)⟩) hS hA hP hD [0, 1, 2] rfl [.inl 0, .inl 1, .inl 2] rfl rfl rfl (fun H locs hP hD hS => ?_)
                      obtain ⟨hc, h⟩ := gc_some h
                      have ho := Option.some.inj h
                      exact W.zret (ty := .boolean) (v := r5.1) hx hb hr (bo_n hc) (fun t ht hW => ⟨⟨r5.1, (), rfl, by rw [← ho], by show va_P (dC, dI) vwCl _ t.heap; rw [ht, ← ho]; exact hP⟩, hS.F ht⟩) hS.2.2 dX10_passesPart_132
                    · have h := (if_pos c0).symm.trans h
                      refine lv_iconst (v := 1) hx hb dX10_passesPart_124 (by decide) ?_
                      refine lv_goto (tgt := 129) hx hb dX10_passesPart_125 (by decide) ?_
                      obtain ⟨r6, hq, h⟩ := gb_some h
                      refine cxI (X2 := [(a_t_isBroth, .inl (cT 1, 24, .inl r6.2.1)), (a_t_low, .inl (cT 3, 24, .inr (.inl r6.2.2.1))), (a_t_high, .inl (cT 3, 24, .inr (.inl r6.2.2.2)))]) (va_runV (As := [.int p3, .int v3, .int 1]) (rest := []) ⟨hx, hb, hml, hown, hta⟩ (c_X10_passesCast l dC dI cT hq (hP.sub (ws' := [(a_t_isBroth, .inl (cT 1, 24, .inl r4.2.1)), (a_t_low, .inl (cT 3, 24, .inr (.inl r4.2.2.1))), (a_t_high, .inl (cT 3, 24, .inr (.inl r4.2.2.2)))]) [0, 1, 2] rfl) ((va_P.app hP (rk hR0 hNA hS)).sub (ws' := [(a_t, .inr (13, [.ref a_t_isBroth, .ref a_t_low, .ref a_t_high]))]) [3] rfl) (ds hD [0, 1, 2] (by decide) rfl) (nac hP hD [0, 1, 2] rfl (va_free hD hS hA [0, 1, 2] rfl) hNA [.inl 0] rfl rfl)) (cV hta lm_X10_61 md_X10_passesCast ⟨(by dsimp only; omega), (by dsimp only; omega)⟩) ⟨fbK, va_recv hK (rk hR0 hNA hS) (ci := 13) (q0 := 0) rfl rfl, fun U hU hW => ⟨rfl, hU, va_K.moved hW.alike hK⟩⟩ rfl rfl hl.1 rfl (lv_room (Nat.le_of_ble_eq_true rfl)) dX10_passesPart_129 ⟨(by dsimp only; omega), (by dsimp only; omega)⟩) hS hA hP hD [0, 1, 2] rfl [.inl 0, .inl 1, .inl 2] rfl rfl rfl (fun H locs hP hD hS => ?_)
                      obtain ⟨hc, h⟩ := gc_some h
                      have ho := Option.some.inj h
                      exact W.zret (ty := .boolean) (v := r6.1) hx hb hr (bo_n hc) (fun t ht hW => ⟨⟨r6.1, (), rfl, by rw [← ho], by show va_P (dC, dI) vwCl _ t.heap; rw [ht, ← ho]; exact hP⟩, hS.F ht⟩) hS.2.2 dX10_passesPart_132
                  · have h := (if_neg c0).symm.trans h
                    refine lv_iload hx hb dX10_passesPart_107 (lv_at hl 2 rfl) ?_
                    refine lv_bipush (v := 6) hx hb dX10_passesPart_109 (by decide) ?_
                    refine lv_icmp_ne (tgt := 133) hx hb dX10_passesPart_111 (by decide) (fun c0 => ?_) (fun c0 => ?_)
                    · have h := (if_neg c0).symm.trans h
                      refine lv_aload_n hx hb dX10_passesPart_133 rfl (lv_at hl 4 rfl) ?_
                      refine va_get (D := (dC, dI)) (ci := 11) (v := .ref a_p1_lastParts) (C := RX8) (T := TX8) (N := 9) hx hb hta inX8w hown hK (rk hR0 hNA hS) 1 rfl rfl 8 (by decide) (hta _ lk_X10_65) (fun _ h9 => h9) rfl dX10_passesPart_134 ?_
                      refine lv_iload_n hx hb dX10_passesPart_137 rfl (lv_at hl 6 rfl) ?_
                      obtain ⟨hc, h⟩ := gc_some h
                      refine va_iald hx hb hK (rk hR0 hNA hS) 6 0 rfl rfl (inb_in hc) dX10_passesPart_138 ?_
                      refine lv_topi (fun v7 e_v7 => ?_)
                      have h := gl_use e_v7 h
                      refine lv_istore (lv' := [(8, .int v7), (7, .int v3), (6, .int v2), (5, .int v1), (0, .ref a_t), (1, .ref a_p1), (2, .ref a_p2), (3, .int p3), (4, .int p4)]) hx hb dX10_passesPart_139 hl (by decide) rfl (fun ls hl => ?_)
                      refine lv_aload_n hx hb dX10_passesPart_141 rfl (lv_at hl 4 rfl) ?_
                      refine lv_aload_n hx hb dX10_passesPart_142 rfl (lv_at hl 5 rfl) ?_
                      refine lv_aload_n hx hb dX10_passesPart_143 rfl (lv_at hl 6 rfl) ?_
                      refine lv_iload hx hb dX10_passesPart_144 (lv_at hl 0 rfl) ?_
                      refine lv_iload hx hb dX10_passesPart_146 (lv_at hl 8 rfl) ?_
                      refine lv_iconst (v := 1) hx hb dX10_passesPart_148 (by decide) ?_
                      refine lv_iadd hx hb dX10_passesPart_149 ?_
                      obtain ⟨r8, hq, h⟩ := gb_some h
                      refine cxI (X2 := [(a_t_isBroth, .inl (cT 1, 24, .inl r8.2.1)), (a_t_low, .inl (cT 3, 24, .inr (.inl r8.2.2.1))), (a_t_high, .inl (cT 3, 24, .inr (.inl r8.2.2.2)))]) (va_runV (As := [.ref a_p1, .ref a_p2, .int v7, .int (p4 + 1)]) (rest := []) ⟨hx, hb, hml, hown, hta⟩ (ih hq (hP.sub (ws' := [(a_t_isBroth, .inl (cT 1, 24, .inl r4.2.1)), (a_t_low, .inl (cT 3, 24, .inr (.inl r4.2.2.1))), (a_t_high, .inl (cT 3, 24, .inr (.inl r4.2.2.2)))]) [0, 1, 2] rfl) ((va_P.app hP (rk hR0 hNA hS)).sub (ws' := [(a_t, .inr (13, [.ref a_t_isBroth, .ref a_t_low, .ref a_t_high])), (a_p1, .inr (11, [.ref a_p1_text, .int p1_tokens, .int p1_stores, .int p1_mostSpoons, .ref a_p1_firsts, .ref a_p1_kinds, .ref a_p1_values, .ref a_p1_parts, .ref a_p1_lastParts])), (a_p2, .inr (4, [.int p2_cauldrons, .ref a_p2_isBroth, .ref a_p2_low, .ref a_p2_high, .ref a_p2_contents, .ref a_p2_storesIn, .int p2_spells, .ref a_p2_texts, .ref a_p2_cooked, .int p2_cookedSoFar, .int p2_storesSoFar])), (a_p1_kinds, .inl (cT 0, 24, .inl p1_kinds)), (a_p1_values, .inl (cT 0, 24, .inl p1_values)), (a_p1_parts, .inl (cT 0, 24, .inl p1_parts)), (a_p1_lastParts, .inl (cT 0, 24, .inl p1_lastParts)), (a_p2_isBroth, .inl (cT 1, 6, .inl p2_isBroth)), (a_p2_low, .inl (cT 0, 6, .inl p2_low)), (a_p2_high, .inl (cT 0, 6, .inl p2_high))]) [3, 4, 5, 6, 7, 8, 9, 10, 11, 12] rfl) (ds hD [0, 1, 2] (by decide) rfl) (nac hP hD [0, 1, 2] rfl (va_free hD hS hA [0, 1, 2] rfl) hNA [.inl 0, .inl 1, .inl 2, .inl 3, .inl 4, .inl 5, .inl 6, .inl 7, .inl 8, .inl 9] rfl rfl)) (cV hta lm_X10_42 md_X10_passesPart ⟨(by dsimp only; omega), (by dsimp only; omega)⟩) ⟨fbK, va_recv hK (rk hR0 hNA hS) (ci := 13) (q0 := 0) rfl rfl, fun U hU hW => ⟨rfl, hU, va_K.moved hW.alike hK⟩⟩ rfl rfl hl.1 rfl (lv_room (Nat.le_of_ble_eq_true rfl)) dX10_passesPart_150 ⟨(by dsimp only; omega), (by dsimp only; omega)⟩) hS hA hP hD [0, 1, 2] rfl [.inl 0, .inl 1, .inl 2] rfl rfl rfl (fun H locs hP hD hS => ?_)
                      refine lv_if_eq (tgt := 174) hx hb dX10_passesPart_153 (by decide) (fun c0 => ?_) (fun c0 => ?_)
                      · have h := (if_pos c0).symm.trans h
                        refine lv_iconst (v := 0) hx hb dX10_passesPart_174 (by decide) ?_
                        have ho := Option.some.inj h
                        exact W.zret (ty := .boolean) (v := 0) hx hb hr rfl (fun t ht hW => ⟨⟨0, (), rfl, by rw [← ho], by show va_P (dC, dI) vwCl _ t.heap; rw [ht, ← ho]; exact hP⟩, hS.F ht⟩) hS.2.2 dX10_passesPart_175
                      · have h := (if_neg c0).symm.trans h
                        refine lv_aload_n hx hb dX10_passesPart_156 rfl (lv_at hl 4 rfl) ?_
                        refine lv_iload hx hb dX10_passesPart_157 (lv_at hl 3 rfl) ?_
                        refine lv_iload_n hx hb dX10_passesPart_159 rfl (lv_at hl 7 rfl) ?_
                        refine lv_iload hx hb dX10_passesPart_160 (lv_at hl 1 rfl) ?_
                        refine lv_iload hx hb dX10_passesPart_162 (lv_at hl 0 rfl) ?_
                        obtain ⟨r9, hq, h⟩ := gb_some h
                        refine cxI (X2 := [(a_t_isBroth, .inl (cT 1, 24, .inl r9.2.1)), (a_t_low, .inl (cT 3, 24, .inr (.inl r9.2.2.1))), (a_t_high, .inl (cT 3, 24, .inr (.inl r9.2.2.2)))]) (va_runV (As := [.int v1, .int p3, .int v3, .int v7]) (rest := []) ⟨hx, hb, hml, hown, hta⟩ (c_X10_passesReckoning l dC dI cT hq (hP.sub (ws' := [(a_t_isBroth, .inl (cT 1, 24, .inl r8.2.1)), (a_t_low, .inl (cT 3, 24, .inr (.inl r8.2.2.1))), (a_t_high, .inl (cT 3, 24, .inr (.inl r8.2.2.2)))]) [0, 1, 2] rfl) ((va_P.app hP (rk hR0 hNA hS)).sub (ws' := [(a_t, .inr (13, [.ref a_t_isBroth, .ref a_t_low, .ref a_t_high]))]) [3] rfl) (ds hD [0, 1, 2] (by decide) rfl) (nac hP hD [0, 1, 2] rfl (va_free hD hS hA [0, 1, 2] rfl) hNA [.inl 0] rfl rfl)) (cV hta lm_X10_68 md_X10_passesReckoning ⟨(by dsimp only; omega), (by dsimp only; omega)⟩) ⟨fbK, va_recv hK (rk hR0 hNA hS) (ci := 13) (q0 := 0) rfl rfl, fun U hU hW => ⟨rfl, hU, va_K.moved hW.alike hK⟩⟩ rfl rfl hl.1 rfl (lv_room (Nat.le_of_ble_eq_true rfl)) dX10_passesPart_164 ⟨(by dsimp only; omega), (by dsimp only; omega)⟩) hS hA hP hD [0, 1, 2] rfl [.inl 0, .inl 1, .inl 2] rfl rfl rfl (fun H locs hP hD hS => ?_)
                        refine lv_if_eq (tgt := 174) hx hb dX10_passesPart_167 (by decide) (fun c0 => ?_) (fun c0 => ?_)
                        · have h := (if_pos c0).symm.trans h
                          refine lv_iconst (v := 0) hx hb dX10_passesPart_174 (by decide) ?_
                          have ho := Option.some.inj h
                          exact W.zret (ty := .boolean) (v := 0) hx hb hr rfl (fun t ht hW => ⟨⟨0, (), rfl, by rw [← ho], by show va_P (dC, dI) vwCl _ t.heap; rw [ht, ← ho]; exact hP⟩, hS.F ht⟩) hS.2.2 dX10_passesPart_175
                        · have h := (if_neg c0).symm.trans h
                          refine lv_iconst (v := 1) hx hb dX10_passesPart_170 (by decide) ?_
                          refine lv_goto (tgt := 175) hx hb dX10_passesPart_171 (by decide) ?_
                          have ho := Option.some.inj h
                          exact W.zret (ty := .boolean) (v := 1) hx hb hr rfl (fun t ht hW => ⟨⟨1, (), rfl, by rw [← ho], by show va_P (dC, dI) vwCl _ t.heap; rw [ht, ← ho]; exact hP⟩, hS.F ht⟩) hS.2.2 dX10_passesPart_175
                    · have h := (if_pos c0).symm.trans h
                      refine lv_aload_n hx hb dX10_passesPart_114 rfl (lv_at hl 3 rfl) ?_
                      refine lv_iload_n hx hb dX10_passesPart_115 rfl (lv_at hl 6 rfl) ?_
                      refine lv_iload hx hb dX10_passesPart_116 (lv_at hl 0 rfl) ?_
                      refine lv_iload hx hb dX10_passesPart_118 (lv_at hl 2 rfl) ?_
                      refine lv_iconst (v := 5) hx hb dX10_passesPart_120 (by decide) ?_
                      refine lv_icmp_ne (tgt := 128) hx hb dX10_passesPart_121 (by decide) (fun c0 => ?_) (fun c0 => ?_)
                      · have h := (if_neg c0).symm.trans h
                        refine lv_iconst (v := 0) hx hb dX10_passesPart_128 (by decide) ?_
                        obtain ⟨r10, hq, h⟩ := gb_some h
                        refine cxI (X2 := [(a_t_isBroth, .inl (cT 1, 24, .inl r10.2.1)), (a_t_low, .inl (cT 3, 24, .inr (.inl r10.2.2.1))), (a_t_high, .inl (cT 3, 24, .inr (.inl r10.2.2.2)))]) (va_runV (As := [.int p3, .int v3, .int 0]) (rest := []) ⟨hx, hb, hml, hown, hta⟩ (c_X10_passesCast l dC dI cT hq (hP.sub (ws' := [(a_t_isBroth, .inl (cT 1, 24, .inl r4.2.1)), (a_t_low, .inl (cT 3, 24, .inr (.inl r4.2.2.1))), (a_t_high, .inl (cT 3, 24, .inr (.inl r4.2.2.2)))]) [0, 1, 2] rfl) ((va_P.app hP (rk hR0 hNA hS)).sub (ws' := [(a_t, .inr (13, [.ref a_t_isBroth, .ref a_t_low, .ref a_t_high]))]) [3] rfl) (ds hD [0, 1, 2] (by decide) rfl) (nac hP hD [0, 1, 2] rfl (va_free hD hS hA [0, 1, 2] rfl) hNA [.inl 0] rfl rfl)) (cV hta lm_X10_61 md_X10_passesCast ⟨(by dsimp only; omega), (by dsimp only; omega)⟩) ⟨fbK, va_recv hK (rk hR0 hNA hS) (ci := 13) (q0 := 0) rfl rfl, fun U hU hW => ⟨rfl, hU, va_K.moved hW.alike hK⟩⟩ rfl rfl hl.1 rfl (lv_room (Nat.le_of_ble_eq_true rfl)) dX10_passesPart_129 ⟨(by dsimp only; omega), (by dsimp only; omega)⟩) hS hA hP hD [0, 1, 2] rfl [.inl 0, .inl 1, .inl 2] rfl rfl rfl (fun H locs hP hD hS => ?_)
                        obtain ⟨hc, h⟩ := gc_some h
                        have ho := Option.some.inj h
                        exact W.zret (ty := .boolean) (v := r10.1) hx hb hr (bo_n hc) (fun t ht hW => ⟨⟨r10.1, (), rfl, by rw [← ho], by show va_P (dC, dI) vwCl _ t.heap; rw [ht, ← ho]; exact hP⟩, hS.F ht⟩) hS.2.2 dX10_passesPart_132
                      · have h := (if_pos c0).symm.trans h
                        refine lv_iconst (v := 1) hx hb dX10_passesPart_124 (by decide) ?_
                        refine lv_goto (tgt := 129) hx hb dX10_passesPart_125 (by decide) ?_
                        obtain ⟨r11, hq, h⟩ := gb_some h
                        refine cxI (X2 := [(a_t_isBroth, .inl (cT 1, 24, .inl r11.2.1)), (a_t_low, .inl (cT 3, 24, .inr (.inl r11.2.2.1))), (a_t_high, .inl (cT 3, 24, .inr (.inl r11.2.2.2)))]) (va_runV (As := [.int p3, .int v3, .int 1]) (rest := []) ⟨hx, hb, hml, hown, hta⟩ (c_X10_passesCast l dC dI cT hq (hP.sub (ws' := [(a_t_isBroth, .inl (cT 1, 24, .inl r4.2.1)), (a_t_low, .inl (cT 3, 24, .inr (.inl r4.2.2.1))), (a_t_high, .inl (cT 3, 24, .inr (.inl r4.2.2.2)))]) [0, 1, 2] rfl) ((va_P.app hP (rk hR0 hNA hS)).sub (ws' := [(a_t, .inr (13, [.ref a_t_isBroth, .ref a_t_low, .ref a_t_high]))]) [3] rfl) (ds hD [0, 1, 2] (by decide) rfl) (nac hP hD [0, 1, 2] rfl (va_free hD hS hA [0, 1, 2] rfl) hNA [.inl 0] rfl rfl)) (cV hta lm_X10_61 md_X10_passesCast ⟨(by dsimp only; omega), (by dsimp only; omega)⟩) ⟨fbK, va_recv hK (rk hR0 hNA hS) (ci := 13) (q0 := 0) rfl rfl, fun U hU hW => ⟨rfl, hU, va_K.moved hW.alike hK⟩⟩ rfl rfl hl.1 rfl (lv_room (Nat.le_of_ble_eq_true rfl)) dX10_passesPart_129 ⟨(by dsimp only; omega), (by dsimp only; omega)⟩) hS hA hP hD [0, 1, 2] rfl [.inl 0, .inl 1, .inl 2] rfl rfl rfl (fun H locs hP hD hS => ?_)
                        obtain ⟨hc, h⟩ := gc_some h
                        have ho := Option.some.inj h
                        exact W.zret (ty := .boolean) (v := r11.1) hx hb hr (bo_n hc) (fun t ht hW => ⟨⟨r11.1, (), rfl, by rw [← ho], by show va_P (dC, dI) vwCl _ t.heap; rw [ht, ← ho]; exact hP⟩, hS.F ht⟩) hS.2.2 dX10_passesPart_132
                · have h := (if_pos c0).symm.trans h
                  refine lv_iconst (v := 0) hx hb dX10_passesPart_99 (by decide) ?_
                  have ho := Option.some.inj h
                  exact W.zret (ty := .boolean) (v := 0) hx hb hr rfl (fun t ht hW => ⟨⟨0, (), rfl, by rw [← ho], by show va_P (dC, dI) vwCl _ t.heap; rw [ht, ← ho]; exact hP⟩, hS.F ht⟩) hS.2.2 dX10_passesPart_100
            · have h := (if_pos c0).symm.trans h
              refine lv_aload_n hx hb dX10_passesPart_57 rfl (lv_at hl 2 rfl) ?_
              refine lv_iload_n hx hb dX10_passesPart_58 rfl (lv_at hl 5 rfl) ?_
              refine lv_iload hx hb dX10_passesPart_59 (lv_at hl 0 rfl) ?_
              refine lv_i2l hx hb dX10_passesPart_61 rfl ?_
              refine lv_iload hx hb dX10_passesPart_62 (lv_at hl 0 rfl) ?_
              refine lv_i2l hx hb dX10_passesPart_64 rfl ?_
              obtain ⟨r12, hq, h⟩ := gb_some h
              refine cxI (X2 := [(a_t_isBroth, .inl (cT 1, 24, .inl r12.2.1)), (a_t_low, .inl (cT 3, 24, .inr (.inl r12.2.2.1))), (a_t_high, .inl (cT 3, 24, .inr (.inl r12.2.2.2)))]) (va_runV (As := [.int p3, .long v2.toInt64, .long v2.toInt64]) (rest := []) ⟨hx, hb, hml, hown, hta⟩ (c_X10_tellsDrams l dC dI cT hq (hP.sub (ws' := [(a_t_isBroth, .inl (cT 1, 24, .inl t_isBroth)), (a_t_low, .inl (cT 3, 24, .inr (.inl t_low))), (a_t_high, .inl (cT 3, 24, .inr (.inl t_high)))]) [0, 1, 2] rfl) ((va_P.app hP (rk hR0 hNA hS)).sub (ws' := [(a_t, .inr (13, [.ref a_t_isBroth, .ref a_t_low, .ref a_t_high]))]) [3] rfl) (ds hD [0, 1, 2] (by decide) rfl) (nac hP hD [0, 1, 2] rfl (va_free hD hS hA [0, 1, 2] rfl) hNA [.inl 0] rfl rfl)) (cV hta lm_X10_57 md_X10_tellsDrams ⟨(by dsimp only; omega), (by dsimp only; omega)⟩) ⟨fbK, va_recv hK (rk hR0 hNA hS) (ci := 13) (q0 := 0) rfl rfl, fun U hU hW => ⟨rfl, hU, va_K.moved hW.alike hK⟩⟩ rfl rfl hl.1 rfl (lv_room (Nat.le_of_ble_eq_true rfl)) dX10_passesPart_65 ⟨(by dsimp only; omega), (by dsimp only; omega)⟩) hS hA hP hD [0, 1, 2] rfl [.inl 0, .inl 1, .inl 2] rfl rfl rfl (fun H locs hP hD hS => ?_)
              obtain ⟨hc, h⟩ := gc_some h
              have ho := Option.some.inj h
              exact W.zret (ty := .boolean) (v := r12.1) hx hb hr (bo_n hc) (fun t ht hW => ⟨⟨r12.1, (), rfl, by rw [← ho], by show va_P (dC, dI) vwCl _ t.heap; rw [ht, ← ho]; exact hP⟩, hS.F ht⟩) hS.2.2 dX10_passesPart_68
          · have h := (if_pos c0).symm.trans h
            refine lv_aload_n hx hb dX10_passesPart_42 rfl (lv_at hl 2 rfl) ?_
            refine lv_aload_n hx hb dX10_passesPart_43 rfl (lv_at hl 4 rfl) ?_
            refine lv_iload_n hx hb dX10_passesPart_44 rfl (lv_at hl 5 rfl) ?_
            refine lv_iload hx hb dX10_passesPart_45 (lv_at hl 0 rfl) ?_
            obtain ⟨r13, hq, h⟩ := gb_some h
            refine cxI (X2 := [(a_t_isBroth, .inl (cT 1, 24, .inl r13.2.1)), (a_t_low, .inl (cT 3, 24, .inr (.inl r13.2.2.1))), (a_t_high, .inl (cT 3, 24, .inr (.inl r13.2.2.2)))]) (va_runV (As := [.ref a_p2, .int p3, .int v2]) (rest := []) ⟨hx, hb, hml, hown, hta⟩ (c_X10_passesTake l dC dI cT hq (hP.sub (ws' := [(a_t_isBroth, .inl (cT 1, 24, .inl t_isBroth)), (a_t_low, .inl (cT 3, 24, .inr (.inl t_low))), (a_t_high, .inl (cT 3, 24, .inr (.inl t_high)))]) [0, 1, 2] rfl) ((va_P.app hP (rk hR0 hNA hS)).sub (ws' := [(a_t, .inr (13, [.ref a_t_isBroth, .ref a_t_low, .ref a_t_high])), (a_p2, .inr (4, [.int p2_cauldrons, .ref a_p2_isBroth, .ref a_p2_low, .ref a_p2_high, .ref a_p2_contents, .ref a_p2_storesIn, .int p2_spells, .ref a_p2_texts, .ref a_p2_cooked, .int p2_cookedSoFar, .int p2_storesSoFar])), (a_p2_isBroth, .inl (cT 1, 6, .inl p2_isBroth)), (a_p2_low, .inl (cT 0, 6, .inl p2_low)), (a_p2_high, .inl (cT 0, 6, .inl p2_high))]) [3, 5, 10, 11, 12] rfl) (ds hD [0, 1, 2] (by decide) rfl) (nac hP hD [0, 1, 2] rfl (va_free hD hS hA [0, 1, 2] rfl) hNA [.inl 0, .inl 2, .inl 7, .inl 8, .inl 9] rfl rfl)) (cV hta lm_X10_53 md_X10_passesTake ⟨(by dsimp only; omega), (by dsimp only; omega)⟩) ⟨fbK, va_recv hK (rk hR0 hNA hS) (ci := 13) (q0 := 0) rfl rfl, fun U hU hW => ⟨rfl, hU, va_K.moved hW.alike hK⟩⟩ rfl rfl hl.1 rfl (lv_room (Nat.le_of_ble_eq_true rfl)) dX10_passesPart_47 ⟨(by dsimp only; omega), (by dsimp only; omega)⟩) hS hA hP hD [0, 1, 2] rfl [.inl 0, .inl 1, .inl 2] rfl rfl rfl (fun H locs hP hD hS => ?_)
            obtain ⟨hc, h⟩ := gc_some h
            have ho := Option.some.inj h
            exact W.zret (ty := .boolean) (v := r13.1) hx hb hr (bo_n hc) (fun t ht hW => ⟨⟨r13.1, (), rfl, by rw [← ho], by show va_P (dC, dI) vwCl _ t.heap; rw [ht, ← ho]; exact hP⟩, hS.F ht⟩) hS.2.2 dX10_passesPart_50
        · have h := (if_neg c0).symm.trans h
          refine lv_iconst (v := 0) hx hb dX10_passesPart_19 (by decide) ?_
          have ho := Option.some.inj h
          exact W.zret (ty := .boolean) (v := 0) hx hb hr rfl (fun t ht hW => ⟨⟨0, (), rfl, by rw [← ho], by show va_P (dC, dI) vwCl _ t.heap; rw [ht, ← ho]; exact hP⟩, hS.F ht⟩) hS.2.2 dX10_passesPart_20
set_option maxHeartbeats 4000000 in
set_option maxRecDepth 100000 in
theorem c_X10_passesStore (l : Launch) (dC : Nat → ClassId) (dI : Nat → Nat → Nat) (cT : Nat → ClassId) {Hh : Heap} {a_t : Nat} {a_p1 : Nat} {a_p2 : Nat} {a_p1_parts : Nat} {a_p1_values : Nat} {a_p1_kinds : Nat} {a_t_isBroth : Nat} {a_t_low : Nat} {a_t_high : Nat} {a_p1_lastParts : Nat} {a_p2_isBroth : Nat} {a_p2_low : Nat} {a_p2_high : Nat} {a_p1_text : Nat} {a_p1_firsts : Nat} {a_p2_contents : Nat} {a_p2_storesIn : Nat} {a_p2_texts : Nat} {a_p2_cooked : Nat} {p1_tokens : Int32} {p1_parts : Nat → Int32} {p1_values : Nat → Int32} {p1_kinds : Nat → Int32} {t_isBroth : Nat → Int32} {t_low : Nat → Int64} {t_high : Nat → Int64} {p1_lastParts : Nat → Int32} {p2_isBroth : Nat → Int32} {p2_low : Nat → Int32} {p2_high : Nat → Int32} {p3 : Int32} {p1_stores : Int32} {p1_mostSpoons : Int32} {p2_cauldrons : Int32} {p2_spells : Int32} {p2_cookedSoFar : Int32} {p2_storesSoFar : Int32} {o : Int32 × (Nat → Int32) × (Nat → Int64) × (Nat → Int64)} (h : g_X10_passesStore p1_tokens p1_parts p1_values p1_kinds t_isBroth t_low t_high p1_lastParts p2_isBroth p2_low p2_high p3 = some o) (hP0 : va_P (dC, dI) vwCl [(a_t_isBroth, .inl (cT 1, 24, .inl t_isBroth)), (a_t_low, .inl (cT 3, 24, .inr (.inl t_low))), (a_t_high, .inl (cT 3, 24, .inr (.inl t_high)))] Hh) (hR0 : va_P (dC, dI) vwCl [(a_t, .inr (13, [.ref a_t_isBroth, .ref a_t_low, .ref a_t_high])), (a_p1, .inr (11, [.ref a_p1_text, .int p1_tokens, .int p1_stores, .int p1_mostSpoons, .ref a_p1_firsts, .ref a_p1_kinds, .ref a_p1_values, .ref a_p1_parts, .ref a_p1_lastParts])), (a_p2, .inr (4, [.int p2_cauldrons, .ref a_p2_isBroth, .ref a_p2_low, .ref a_p2_high, .ref a_p2_contents, .ref a_p2_storesIn, .int p2_spells, .ref a_p2_texts, .ref a_p2_cooked, .int p2_cookedSoFar, .int p2_storesSoFar])), (a_p1_parts, .inl (cT 0, 24, .inl p1_parts)), (a_p1_values, .inl (cT 0, 24, .inl p1_values)), (a_p1_kinds, .inl (cT 0, 24, .inl p1_kinds)), (a_p1_lastParts, .inl (cT 0, 24, .inl p1_lastParts)), (a_p2_isBroth, .inl (cT 1, 6, .inl p2_isBroth)), (a_p2_low, .inl (cT 0, 6, .inl p2_low)), (a_p2_high, .inl (cT 0, 6, .inl p2_high))] Hh) (hD0 : va_D (fun _ => True) [(a_t_isBroth, .inl (cT 1, 24, .inl t_isBroth)), (a_t_low, .inl (cT 3, 24, .inr (.inl t_low))), (a_t_high, .inl (cT 3, 24, .inr (.inl t_high)))]) (hN0 : ∀ (k : Nat) (q : Nat × va_E), ([(a_t, .inr (13, [.ref a_t_isBroth, .ref a_t_low, .ref a_t_high])), (a_p1, .inr (11, [.ref a_p1_text, .int p1_tokens, .int p1_stores, .int p1_mostSpoons, .ref a_p1_firsts, .ref a_p1_kinds, .ref a_p1_values, .ref a_p1_parts, .ref a_p1_lastParts])), (a_p2, .inr (4, [.int p2_cauldrons, .ref a_p2_isBroth, .ref a_p2_low, .ref a_p2_high, .ref a_p2_contents, .ref a_p2_storesIn, .int p2_spells, .ref a_p2_texts, .ref a_p2_cooked, .int p2_cookedSoFar, .int p2_storesSoFar])), (a_p1_parts, .inl (cT 0, 24, .inl p1_parts)), (a_p1_values, .inl (cT 0, 24, .inl p1_values)), (a_p1_kinds, .inl (cT 0, 24, .inl p1_kinds)), (a_p1_lastParts, .inl (cT 0, 24, .inl p1_lastParts)), (a_p2_isBroth, .inl (cT 1, 6, .inl p2_isBroth)), (a_p2_low, .inl (cT 0, 6, .inl p2_low)), (a_p2_high, .inl (cT 0, 6, .inl p2_high))] : va_W)[k]? = some q → ¬ va_A [(a_t_isBroth, .inl (cT 1, 24, .inl t_isBroth)), (a_t_low, .inl (cT 3, 24, .inr (.inl t_low))), (a_t_high, .inl (cT 3, 24, .inr (.inl t_high)))] Hh.size q.1) : Met l yX10_passesStore (wA yX10_passesStore cX10_passesStore 6 (some .boolean)) ({ frames := 30, cells := 0, slots := 0, locals := 829 } : Room) (PK dC dI cT [.ref a_t, .ref a_p1, .ref a_p2, .int p3] Hh) (va_Qi (fun x (_ : Unit) => x = o.1) (fun _ t => va_P (dC, dI) vwCl [(a_t_isBroth, .inl (cT 1, 24, .inl o.2.1)), (a_t_low, .inl (cT 3, 24, .inr (.inl o.2.2.1))), (a_t_high, .inl (cT 3, 24, .inr (.inl o.2.2.2)))] t.heap) (va_A [(a_t_isBroth, .inl (cT 1, 24, .inl t_isBroth)), (a_t_low, .inl (cT 3, 24, .inr (.inl t_low))), (a_t_high, .inl (cT 3, 24, .inr (.inl t_high)))] Hh.size)) 0 0 (va_A [(a_t_isBroth, .inl (cT 1, 24, .inl t_isBroth)), (a_t_low, .inl (cT 3, 24, .inr (.inl t_low))), (a_t_high, .inl (cT 3, 24, .inr (.inl t_high)))] Hh.size) := by
  refine Met.ofW (cc := cX10_passesStore) (maxL := 6) (ret := (some .boolean)) (by decide) rfl ?_
  intro p e s m args below meth c s₁ B hml hv
  obtain ⟨rfl, hH, hK⟩ := hv
  subst hH
  have hx := B.exec
  have hb := B.bytes
  have hr := B.returns
  have hta : ∀ w ∈ ALLW, w.before [.ref a_t, .ref a_p1, .ref a_p2, .int p3].toArray s = true := fun w hw => atoms_spec (ws := wA yX10_passesStore cX10_passesStore 6 (some .boolean)) B.pre w (List.mem_cons_of_mem _ hw)
  have hown : s.vm.findClass RX10 = some m.cls := findClass_of_methodNamed B.named
  have hlocks := B.notSynchronized
  have hD := hD0.self (sz := s.heap.size)
  have hNA := hN0
  generalize hAe : va_A [(a_t_isBroth, .inl (cT 1, 24, .inl t_isBroth)), (a_t_low, .inl (cT 3, 24, .inr (.inl t_low))), (a_t_high, .inl (cT 3, 24, .inr (.inl t_high)))] s.heap.size = A at hD hNA ⊢
  have hP := hP0
  have hA : ∀ q : Nat, s.heap.size ≤ q → A q := fun q h => by rw [← hAe]; exact Or.inr h
  have hS : va_S A s.heap s.heap [] := va_S.rf
  have hl := lv_entry [.ref a_t, .ref a_p1, .ref a_p2, .int p3] (n := 6) (Nat.le_of_ble_eq_true rfl)
  rw [lg_entry_eq]
  generalize (lg_sl [.ref a_t, .ref a_p1, .ref a_p2, .int p3] ++ List.replicate (6 - (lg_sl [.ref a_t, .ref a_p1, .ref a_p2, .int p3]).length) Slot.unset).toArray = ls at hl ⊢
  have hl : lv_has ls 6 [(0, .ref a_t), (1, .ref a_p1), (2, .ref a_p2), (3, .int p3)] := hl
  obtain ⟨Q, hQ⟩ : ∃ Q, Q = MQ below (va_Qi (fun x (_ : Unit) => x = o.1) (fun _ t => va_P (dC, dI) vwCl [(a_t_isBroth, .inl (cT 1, 24, .inl o.2.1)), (a_t_low, .inl (cT 3, 24, .inr (.inl o.2.2.1))), (a_t_high, .inl (cT 3, 24, .inr (.inl o.2.2.2)))] t.heap) A) [.ref a_t, .ref a_p1, .ref a_p2, .int p3].toArray s 0 0 A := ⟨_, rfl⟩
  rw [← hQ]
  have wB_62 : ∀ (t_high_62 : Nat → Int64) (t_isBroth_62 : Nat → Int32) (t_low_62 : Nat → Int64) (x4_62 : Int32) (x5_62 : Int32) (H : Heap) (locs : List Loc) (ls : Array Slot), g_X10_passesStore_b62 p2_isBroth t_high_62 t_isBroth_62 t_low_62 x4_62 x5_62 = some o → va_P (dC, dI) vwCl [(a_t_isBroth, .inl (cT 1, 24, .inl t_isBroth_62)), (a_t_low, .inl (cT 3, 24, .inr (.inl t_low_62))), (a_t_high, .inl (cT 3, 24, .inr (.inl t_high_62)))] H → va_D A [(a_t_isBroth, .inl (cT 1, 24, .inl t_isBroth_62)), (a_t_low, .inl (cT 3, 24, .inr (.inl t_low_62))), (a_t_high, .inl (cT 3, 24, .inr (.inl t_high_62)))] → va_S A s.heap H locs → lv_has ls 6 [(0, .ref a_t), (2, .ref a_p2), (4, .int x4_62), (5, .int x5_62)] → W p l e ({ frames := 30, cells := 0, slots := 0, locals := 829 } : Room) s m [.ref a_t, .ref a_p1, .ref a_p2, .int p3].toArray below meth c H locs 0 0 Q (F0 m 62 ls []) := by
    intro t_high_62 t_isBroth_62 t_low_62 x4_62 x5_62 H locs ls h hP hD hS hl
    unfold g_X10_passesStore_b62 at h
    refine lv_aload_n hx hb dX10_passesStore_62 rfl (lv_at hl 0 rfl) ?_
    refine va_get (D := (dC, dI)) (ci := 13) (v := .ref a_t_isBroth) (C := RX10) (T := TX10) (N := 3) hx hb hta inX10w hown hK (rk hR0 hNA hS) 0 rfl rfl 0 (by decide) (hta _ lk_X10_9) (fun _ h9 => h9) rfl dX10_passesStore_63 ?_
    refine lv_iload hx hb dX10_passesStore_66 (lv_at hl 2 rfl) ?_
    obtain ⟨hc, h⟩ := gc_some h
    refine va_zald hx hb hK hP 0 1 rfl rfl (inb_in hc) dX10_passesStore_68 ?_
    refine lv_if_eq (tgt := 86) hx hb dX10_passesStore_69 (by decide) (fun c0 => ?_) (fun c0 => ?_)
    · have h := (if_pos c0).symm.trans h
      refine lv_iconst (v := 0) hx hb dX10_passesStore_86 (by decide) ?_
      have ho := Option.some.inj h
      rw [hQ]
      exact W.zret (ty := .boolean) (v := 0) hx hb hr rfl (fun t ht hW => ⟨⟨0, (), rfl, by rw [← ho], by show va_P (dC, dI) vwCl _ t.heap; rw [ht, ← ho]; exact hP⟩, hS.F ht⟩) hS.2.2 dX10_passesStore_87
    · have h := (if_neg c0).symm.trans h
      refine lv_aload_n hx hb dX10_passesStore_72 rfl (lv_at hl 1 rfl) ?_
      refine va_get (D := (dC, dI)) (ci := 4) (v := .ref a_p2_isBroth) (C := RX0) (T := TX0) (N := 11) hx hb hta inX0w hown hK (rk hR0 hNA hS) 2 rfl rfl 1 (by decide) (hta _ lk_X10_46) (fun _ h9 => h9) rfl dX10_passesStore_73 ?_
      refine lv_iload hx hb dX10_passesStore_76 (lv_at hl 3 rfl) ?_
      obtain ⟨hc, h⟩ := gc_some h
      refine va_zald hx hb hK (rk hR0 hNA hS) 7 1 rfl rfl (inb_in hc) dX10_passesStore_78 ?_
      refine lv_if_eq (tgt := 86) hx hb dX10_passesStore_79 (by decide) (fun c0 => ?_) (fun c0 => ?_)
      · have h := (if_pos c0).symm.trans h
        refine lv_iconst (v := 0) hx hb dX10_passesStore_86 (by decide) ?_
        have ho := Option.some.inj h
        rw [hQ]
        exact W.zret (ty := .boolean) (v := 0) hx hb hr rfl (fun t ht hW => ⟨⟨0, (), rfl, by rw [← ho], by show va_P (dC, dI) vwCl _ t.heap; rw [ht, ← ho]; exact hP⟩, hS.F ht⟩) hS.2.2 dX10_passesStore_87
      · have h := (if_neg c0).symm.trans h
        refine lv_iconst (v := 1) hx hb dX10_passesStore_82 (by decide) ?_
        refine lv_goto (tgt := 87) hx hb dX10_passesStore_83 (by decide) ?_
        have ho := Option.some.inj h
        rw [hQ]
        exact W.zret (ty := .boolean) (v := 1) hx hb hr rfl (fun t ht hW => ⟨⟨1, (), rfl, by rw [← ho], by show va_P (dC, dI) vwCl _ t.heap; rw [ht, ← ho]; exact hP⟩, hS.F ht⟩) hS.2.2 dX10_passesStore_87
  unfold g_X10_passesStore at h
  refine lv_aload_n hx hb dX10_passesStore_0 rfl (lv_at hl 1 rfl) ?_
  refine va_get (D := (dC, dI)) (ci := 11) (v := .ref a_p1_parts) (C := RX8) (T := TX8) (N := 9) hx hb hta inX8w hown hK (rk hR0 hNA hS) 1 rfl rfl 7 (by decide) (hta _ lk_X10_36) (fun _ h9 => h9) rfl dX10_passesStore_1 ?_
  refine lv_iload_n hx hb dX10_passesStore_4 rfl (lv_at hl 3 rfl) ?_
  obtain ⟨hc, h⟩ := gc_some h
  refine va_iald hx hb hK (rk hR0 hNA hS) 3 0 rfl rfl (inb_in hc) dX10_passesStore_5 ?_
  refine lv_topi (fun v1 e_v1 => ?_)
  have h := gl_use e_v1 h
  refine lv_istore (lv' := [(4, .int v1), (0, .ref a_t), (1, .ref a_p1), (2, .ref a_p2), (3, .int p3)]) hx hb dX10_passesStore_6 hl (by decide) rfl (fun ls hl => ?_)
  refine lv_aload_n hx hb dX10_passesStore_8 rfl (lv_at hl 2 rfl) ?_
  refine va_get (D := (dC, dI)) (ci := 11) (v := .ref a_p1_values) (C := RX8) (T := TX8) (N := 9) hx hb hta inX8w hown hK (rk hR0 hNA hS) 1 rfl rfl 6 (by decide) (hta _ lk_X10_39) (fun _ h9 => h9) rfl dX10_passesStore_9 ?_
  refine lv_iload_n hx hb dX10_passesStore_12 rfl (lv_at hl 4 rfl) ?_
  obtain ⟨hc, h⟩ := gc_some h
  refine va_iald hx hb hK (rk hR0 hNA hS) 4 0 rfl rfl (inb_in hc) dX10_passesStore_13 ?_
  refine lv_topi (fun v2 e_v2 => ?_)
  have h := gl_use e_v2 h
  refine lv_istore (lv' := [(5, .int v2), (4, .int v1), (0, .ref a_t), (1, .ref a_p1), (2, .ref a_p2), (3, .int p3)]) hx hb dX10_passesStore_14 hl (by decide) rfl (fun ls hl => ?_)
  refine lv_aload_n hx hb dX10_passesStore_16 rfl (lv_at hl 2 rfl) ?_
  refine lv_aload_n hx hb dX10_passesStore_17 rfl (lv_at hl 3 rfl) ?_
  refine lv_aload_n hx hb dX10_passesStore_18 rfl (lv_at hl 4 rfl) ?_
  refine lv_iload hx hb dX10_passesStore_19 (lv_at hl 1 rfl) ?_
  refine lv_iconst (v := 1) hx hb dX10_passesStore_21 (by decide) ?_
  obtain ⟨r3, hq, h⟩ := gb_some h
  refine cxI (X2 := [(a_t_isBroth, .inl (cT 1, 24, .inl r3.2.1)), (a_t_low, .inl (cT 3, 24, .inr (.inl r3.2.2.1))), (a_t_high, .inl (cT 3, 24, .inr (.inl r3.2.2.2)))]) (va_runV (As := [.ref a_p1, .ref a_p2, .int v1, .int 1]) (rest := []) ⟨hx, hb, hml, hown, hta⟩ (c_X10_passesPart l dC dI cT 26 hq (hP.sub (ws' := [(a_t_isBroth, .inl (cT 1, 24, .inl t_isBroth)), (a_t_low, .inl (cT 3, 24, .inr (.inl t_low))), (a_t_high, .inl (cT 3, 24, .inr (.inl t_high)))]) [0, 1, 2] rfl) ((va_P.app hP (rk hR0 hNA hS)).sub (ws' := [(a_t, .inr (13, [.ref a_t_isBroth, .ref a_t_low, .ref a_t_high])), (a_p1, .inr (11, [.ref a_p1_text, .int p1_tokens, .int p1_stores, .int p1_mostSpoons, .ref a_p1_firsts, .ref a_p1_kinds, .ref a_p1_values, .ref a_p1_parts, .ref a_p1_lastParts])), (a_p2, .inr (4, [.int p2_cauldrons, .ref a_p2_isBroth, .ref a_p2_low, .ref a_p2_high, .ref a_p2_contents, .ref a_p2_storesIn, .int p2_spells, .ref a_p2_texts, .ref a_p2_cooked, .int p2_cookedSoFar, .int p2_storesSoFar])), (a_p1_kinds, .inl (cT 0, 24, .inl p1_kinds)), (a_p1_values, .inl (cT 0, 24, .inl p1_values)), (a_p1_parts, .inl (cT 0, 24, .inl p1_parts)), (a_p1_lastParts, .inl (cT 0, 24, .inl p1_lastParts)), (a_p2_isBroth, .inl (cT 1, 6, .inl p2_isBroth)), (a_p2_low, .inl (cT 0, 6, .inl p2_low)), (a_p2_high, .inl (cT 0, 6, .inl p2_high))]) [3, 4, 5, 8, 7, 6, 9, 10, 11, 12] rfl) (ds hD [0, 1, 2] (by decide) rfl) (nac hP hD [0, 1, 2] rfl (va_free hD hS hA [0, 1, 2] rfl) hNA [.inl 0, .inl 1, .inl 2, .inl 5, .inl 4, .inl 3, .inl 6, .inl 7, .inl 8, .inl 9] rfl rfl)) (cV hta lm_X10_42 md_X10_passesPart ⟨(Nat.le_of_ble_eq_true rfl), (Nat.le_of_ble_eq_true rfl)⟩) ⟨fbK, va_recv hK (rk hR0 hNA hS) (ci := 13) (q0 := 0) rfl rfl, fun U hU hW => ⟨rfl, hU, va_K.moved hW.alike hK⟩⟩ rfl rfl hl.1 rfl (lv_room (Nat.le_of_ble_eq_true rfl)) dX10_passesStore_22 ⟨(Nat.le_of_ble_eq_true rfl), (Nat.le_of_ble_eq_true rfl)⟩) hS hA hP hD [0, 1, 2] rfl [.inl 0, .inl 1, .inl 2] rfl rfl rfl (fun H locs hP hD hS => ?_)
  refine lv_if_eq (tgt := 40) hx hb dX10_passesStore_25 (by decide) (fun c0 => ?_) (fun c0 => ?_)
  · have h := (if_pos c0).symm.trans h
    refine lv_iconst (v := 0) hx hb dX10_passesStore_40 (by decide) ?_
    have ho := Option.some.inj h
    rw [hQ]
    exact W.zret (ty := .boolean) (v := 0) hx hb hr rfl (fun t ht hW => ⟨⟨0, (), rfl, by rw [← ho], by show va_P (dC, dI) vwCl _ t.heap; rw [ht, ← ho]; exact hP⟩, hS.F ht⟩) hS.2.2 dX10_passesStore_41
  · have h := (if_neg c0).symm.trans h
    refine lv_iload hx hb dX10_passesStore_28 (lv_at hl 0 rfl) ?_
    refine lv_if_lt (tgt := 40) hx hb dX10_passesStore_30 (by decide) (fun c0 => ?_) (fun c0 => ?_)
    · have h := (if_pos c0).symm.trans h
      refine lv_iconst (v := 0) hx hb dX10_passesStore_40 (by decide) ?_
      have ho := Option.some.inj h
      rw [hQ]
      exact W.zret (ty := .boolean) (v := 0) hx hb hr rfl (fun t ht hW => ⟨⟨0, (), rfl, by rw [← ho], by show va_P (dC, dI) vwCl _ t.heap; rw [ht, ← ho]; exact hP⟩, hS.F ht⟩) hS.2.2 dX10_passesStore_41
    · have h := (if_neg c0).symm.trans h
      refine lv_iload hx hb dX10_passesStore_33 (lv_at hl 0 rfl) ?_
      refine lv_bipush (v := 6) hx hb dX10_passesStore_35 (by decide) ?_
      refine lv_icmp_lt (tgt := 42) hx hb dX10_passesStore_37 (by decide) (fun c0 => ?_) (fun c0 => ?_)
      · have h := (if_pos c0).symm.trans h
        refine lv_aload_n hx hb dX10_passesStore_42 rfl (lv_at hl 2 rfl) ?_
        refine va_get (D := (dC, dI)) (ci := 13) (v := .ref a_t_isBroth) (C := RX10) (T := TX10) (N := 3) hx hb hta inX10w hown hK (rk hR0 hNA hS) 0 rfl rfl 0 (by decide) (hta _ lk_X10_9) (fun _ h9 => h9) rfl dX10_passesStore_43 ?_
        refine lv_iload hx hb dX10_passesStore_46 (lv_at hl 1 rfl) ?_
        obtain ⟨hc, h⟩ := gc_some h
        refine va_zald hx hb hK hP 0 1 rfl rfl (inb_in hc) dX10_passesStore_48 ?_
        refine lv_if_ne (tgt := 62) hx hb dX10_passesStore_49 (by decide) (fun c0 => ?_) (fun c0 => ?_)
        · have h := (if_neg c0).symm.trans h
          exact wB_62 r3.2.2.2 r3.2.1 r3.2.2.1 v1 v2 _ _ _ h hP hD hS (lv_sub hl [2, 4, 1, 0] rfl)
        · have h := (if_pos c0).symm.trans h
          refine lv_aload_n hx hb dX10_passesStore_52 rfl (lv_at hl 4 rfl) ?_
          refine va_get (D := (dC, dI)) (ci := 4) (v := .ref a_p2_isBroth) (C := RX0) (T := TX0) (N := 11) hx hb hta inX0w hown hK (rk hR0 hNA hS) 2 rfl rfl 1 (by decide) (hta _ lk_X10_46) (fun _ h9 => h9) rfl dX10_passesStore_53 ?_
          refine lv_iload hx hb dX10_passesStore_56 (lv_at hl 0 rfl) ?_
          obtain ⟨hc, h⟩ := gc_some h
          refine va_zald hx hb hK (rk hR0 hNA hS) 7 1 rfl rfl (inb_in hc) dX10_passesStore_58 ?_
          refine lv_if_eq (tgt := 88) hx hb dX10_passesStore_59 (by decide) (fun c0 => ?_) (fun c0 => ?_)
          · have h := (if_pos c0).symm.trans h
            refine lv_aload_n hx hb dX10_passesStore_88 rfl (lv_at hl 4 rfl) ?_
            refine va_get (D := (dC, dI)) (ci := 4) (v := .ref a_p2_low) (C := RX0) (T := TX0) (N := 11) hx hb hta inX0w hown hK (rk hR0 hNA hS) 2 rfl rfl 2 (by decide) (hta _ lk_X10_49) (fun _ h9 => h9) rfl dX10_passesStore_89 ?_
            refine lv_iload hx hb dX10_passesStore_92 (lv_at hl 0 rfl) ?_
            obtain ⟨hc, h⟩ := gc_some h
            refine va_iald hx hb hK (rk hR0 hNA hS) 8 0 rfl rfl (inb_in hc) dX10_passesStore_94 ?_
            refine lv_i2l hx hb dX10_passesStore_95 rfl ?_
            refine lv_aload_n hx hb dX10_passesStore_96 rfl (lv_at hl 2 rfl) ?_
            refine va_get (D := (dC, dI)) (ci := 13) (v := .ref a_t_low) (C := RX10) (T := TX10) (N := 3) hx hb hta inX10w hown hK (rk hR0 hNA hS) 0 rfl rfl 1 (by decide) (hta _ lk_X10_15) (fun _ h9 => h9) rfl dX10_passesStore_97 ?_
            refine lv_iload hx hb dX10_passesStore_100 (lv_at hl 1 rfl) ?_
            obtain ⟨hc, h⟩ := gc_some h
            refine va_lald hx hb hK hP 1 3 rfl rfl (inb_in hc) dX10_passesStore_102 ?_
            refine W.lcmp hx hb dX10_passesStore_103 ?_
            refine lv_if_gt (tgt := 130) hx hb dX10_passesStore_104 (by decide) (fun c0 => ?_) (fun c0 => ?_)
            · have h := (if_pos c0).symm.trans h
              refine lv_iconst (v := 0) hx hb dX10_passesStore_130 (by decide) ?_
              have ho := Option.some.inj h
              rw [hQ]
              exact W.zret (ty := .boolean) (v := 0) hx hb hr rfl (fun t ht hW => ⟨⟨0, (), rfl, by rw [← ho], by show va_P (dC, dI) vwCl _ t.heap; rw [ht, ← ho]; exact hP⟩, hS.F ht⟩) hS.2.2 dX10_passesStore_131
            · have h := (if_neg c0).symm.trans h
              refine lv_aload_n hx hb dX10_passesStore_107 rfl (lv_at hl 2 rfl) ?_
              refine va_get (D := (dC, dI)) (ci := 13) (v := .ref a_t_high) (C := RX10) (T := TX10) (N := 3) hx hb hta inX10w hown hK (rk hR0 hNA hS) 0 rfl rfl 2 (by decide) (hta _ lk_X10_19) (fun _ h9 => h9) rfl dX10_passesStore_108 ?_
              refine lv_iload hx hb dX10_passesStore_111 (lv_at hl 1 rfl) ?_
              obtain ⟨hc, h⟩ := gc_some h
              refine va_lald hx hb hK hP 2 3 rfl rfl (inb_in hc) dX10_passesStore_113 ?_
              refine lv_aload_n hx hb dX10_passesStore_114 rfl (lv_at hl 4 rfl) ?_
              refine va_get (D := (dC, dI)) (ci := 4) (v := .ref a_p2_high) (C := RX0) (T := TX0) (N := 11) hx hb hta inX0w hown hK (rk hR0 hNA hS) 2 rfl rfl 3 (by decide) (hta _ lk_X10_51) (fun _ h9 => h9) rfl dX10_passesStore_115 ?_
              refine lv_iload hx hb dX10_passesStore_118 (lv_at hl 0 rfl) ?_
              obtain ⟨hc, h⟩ := gc_some h
              refine va_iald hx hb hK (rk hR0 hNA hS) 9 0 rfl rfl (inb_in hc) dX10_passesStore_120 ?_
              refine lv_i2l hx hb dX10_passesStore_121 rfl ?_
              refine W.lcmp hx hb dX10_passesStore_122 ?_
              refine lv_if_gt (tgt := 130) hx hb dX10_passesStore_123 (by decide) (fun c0 => ?_) (fun c0 => ?_)
              · have h := (if_pos c0).symm.trans h
                refine lv_iconst (v := 0) hx hb dX10_passesStore_130 (by decide) ?_
                have ho := Option.some.inj h
                rw [hQ]
                exact W.zret (ty := .boolean) (v := 0) hx hb hr rfl (fun t ht hW => ⟨⟨0, (), rfl, by rw [← ho], by show va_P (dC, dI) vwCl _ t.heap; rw [ht, ← ho]; exact hP⟩, hS.F ht⟩) hS.2.2 dX10_passesStore_131
              · have h := (if_neg c0).symm.trans h
                refine lv_iconst (v := 1) hx hb dX10_passesStore_126 (by decide) ?_
                refine lv_goto (tgt := 131) hx hb dX10_passesStore_127 (by decide) ?_
                have ho := Option.some.inj h
                rw [hQ]
                exact W.zret (ty := .boolean) (v := 1) hx hb hr rfl (fun t ht hW => ⟨⟨1, (), rfl, by rw [← ho], by show va_P (dC, dI) vwCl _ t.heap; rw [ht, ← ho]; exact hP⟩, hS.F ht⟩) hS.2.2 dX10_passesStore_131
          · have h := (if_neg c0).symm.trans h
            exact wB_62 r3.2.2.2 r3.2.1 r3.2.2.1 v1 v2 _ _ _ h hP hD hS (lv_sub hl [2, 4, 1, 0] rfl)
      · have h := (if_neg c0).symm.trans h
        refine lv_iconst (v := 0) hx hb dX10_passesStore_40 (by decide) ?_
        have ho := Option.some.inj h
        rw [hQ]
        exact W.zret (ty := .boolean) (v := 0) hx hb hr rfl (fun t ht hW => ⟨⟨0, (), rfl, by rw [← ho], by show va_P (dC, dI) vwCl _ t.heap; rw [ht, ← ho]; exact hP⟩, hS.F ht⟩) hS.2.2 dX10_passesStore_41
set_option maxHeartbeats 4000000 in
set_option maxRecDepth 100000 in
theorem c_X10_passes (l : Launch) (dC : Nat → ClassId) (dI : Nat → Nat → Nat) (cT : Nat → ClassId) {Hh : Heap} {a_t : Nat} {a_p1 : Nat} {a_p2 : Nat} {a_p1_kinds : Nat} {a_p1_parts : Nat} {a_p1_values : Nat} {a_t_isBroth : Nat} {a_t_low : Nat} {a_t_high : Nat} {a_p1_lastParts : Nat} {a_p2_isBroth : Nat} {a_p2_low : Nat} {a_p2_high : Nat} {a_p1_text : Nat} {a_p1_firsts : Nat} {a_p2_contents : Nat} {a_p2_storesIn : Nat} {a_p2_texts : Nat} {a_p2_cooked : Nat} {p1_tokens : Int32} {p1_kinds : Nat → Int32} {p1_parts : Nat → Int32} {p1_values : Nat → Int32} {t_isBroth : Nat → Int32} {t_low : Nat → Int64} {t_high : Nat → Int64} {p1_lastParts : Nat → Int32} {p2_isBroth : Nat → Int32} {p2_low : Nat → Int32} {p2_high : Nat → Int32} {p1_stores : Int32} {p1_mostSpoons : Int32} {p2_cauldrons : Int32} {p2_spells : Int32} {p2_cookedSoFar : Int32} {p2_storesSoFar : Int32} {o : Int32 × (Nat → Int32) × (Nat → Int64) × (Nat → Int64)} (h : g_X10_passes p1_tokens p1_kinds p1_parts p1_values t_isBroth t_low t_high p1_lastParts p2_isBroth p2_low p2_high = some o) (hP0 : va_P (dC, dI) vwCl [(a_t_isBroth, .inl (cT 1, 24, .inl t_isBroth)), (a_t_low, .inl (cT 3, 24, .inr (.inl t_low))), (a_t_high, .inl (cT 3, 24, .inr (.inl t_high)))] Hh) (hR0 : va_P (dC, dI) vwCl [(a_t, .inr (13, [.ref a_t_isBroth, .ref a_t_low, .ref a_t_high])), (a_p1, .inr (11, [.ref a_p1_text, .int p1_tokens, .int p1_stores, .int p1_mostSpoons, .ref a_p1_firsts, .ref a_p1_kinds, .ref a_p1_values, .ref a_p1_parts, .ref a_p1_lastParts])), (a_p2, .inr (4, [.int p2_cauldrons, .ref a_p2_isBroth, .ref a_p2_low, .ref a_p2_high, .ref a_p2_contents, .ref a_p2_storesIn, .int p2_spells, .ref a_p2_texts, .ref a_p2_cooked, .int p2_cookedSoFar, .int p2_storesSoFar])), (a_p1_kinds, .inl (cT 0, 24, .inl p1_kinds)), (a_p1_parts, .inl (cT 0, 24, .inl p1_parts)), (a_p1_values, .inl (cT 0, 24, .inl p1_values)), (a_p1_lastParts, .inl (cT 0, 24, .inl p1_lastParts)), (a_p2_isBroth, .inl (cT 1, 6, .inl p2_isBroth)), (a_p2_low, .inl (cT 0, 6, .inl p2_low)), (a_p2_high, .inl (cT 0, 6, .inl p2_high))] Hh) (hD0 : va_D (fun _ => True) [(a_t_isBroth, .inl (cT 1, 24, .inl t_isBroth)), (a_t_low, .inl (cT 3, 24, .inr (.inl t_low))), (a_t_high, .inl (cT 3, 24, .inr (.inl t_high)))]) (hN0 : ∀ (k : Nat) (q : Nat × va_E), ([(a_t, .inr (13, [.ref a_t_isBroth, .ref a_t_low, .ref a_t_high])), (a_p1, .inr (11, [.ref a_p1_text, .int p1_tokens, .int p1_stores, .int p1_mostSpoons, .ref a_p1_firsts, .ref a_p1_kinds, .ref a_p1_values, .ref a_p1_parts, .ref a_p1_lastParts])), (a_p2, .inr (4, [.int p2_cauldrons, .ref a_p2_isBroth, .ref a_p2_low, .ref a_p2_high, .ref a_p2_contents, .ref a_p2_storesIn, .int p2_spells, .ref a_p2_texts, .ref a_p2_cooked, .int p2_cookedSoFar, .int p2_storesSoFar])), (a_p1_kinds, .inl (cT 0, 24, .inl p1_kinds)), (a_p1_parts, .inl (cT 0, 24, .inl p1_parts)), (a_p1_values, .inl (cT 0, 24, .inl p1_values)), (a_p1_lastParts, .inl (cT 0, 24, .inl p1_lastParts)), (a_p2_isBroth, .inl (cT 1, 6, .inl p2_isBroth)), (a_p2_low, .inl (cT 0, 6, .inl p2_low)), (a_p2_high, .inl (cT 0, 6, .inl p2_high))] : va_W)[k]? = some q → ¬ va_A [(a_t_isBroth, .inl (cT 1, 24, .inl t_isBroth)), (a_t_low, .inl (cT 3, 24, .inr (.inl t_low))), (a_t_high, .inl (cT 3, 24, .inr (.inl t_high)))] Hh.size q.1) : Met l yX10_passes (wA yX10_passes cX10_passes 4 (some .boolean)) ({ frames := 31, cells := 0, slots := 0, locals := 854 } : Room) (PK dC dI cT [.ref a_t, .ref a_p1, .ref a_p2] Hh) (va_Qi (fun x (_ : Unit) => x = o.1) (fun _ t => va_P (dC, dI) vwCl [(a_t_isBroth, .inl (cT 1, 24, .inl o.2.1)), (a_t_low, .inl (cT 3, 24, .inr (.inl o.2.2.1))), (a_t_high, .inl (cT 3, 24, .inr (.inl o.2.2.2)))] t.heap) (va_A [(a_t_isBroth, .inl (cT 1, 24, .inl t_isBroth)), (a_t_low, .inl (cT 3, 24, .inr (.inl t_low))), (a_t_high, .inl (cT 3, 24, .inr (.inl t_high)))] Hh.size)) 0 0 (va_A [(a_t_isBroth, .inl (cT 1, 24, .inl t_isBroth)), (a_t_low, .inl (cT 3, 24, .inr (.inl t_low))), (a_t_high, .inl (cT 3, 24, .inr (.inl t_high)))] Hh.size) := by
  refine Met.ofW (cc := cX10_passes) (maxL := 4) (ret := (some .boolean)) (by decide) rfl ?_
  intro p e s m args below meth c s₁ B hml hv
  obtain ⟨rfl, hH, hK⟩ := hv
  subst hH
  have hx := B.exec
  have hb := B.bytes
  have hr := B.returns
  have hta : ∀ w ∈ ALLW, w.before [.ref a_t, .ref a_p1, .ref a_p2].toArray s = true := fun w hw => atoms_spec (ws := wA yX10_passes cX10_passes 4 (some .boolean)) B.pre w (List.mem_cons_of_mem _ hw)
  have hown : s.vm.findClass RX10 = some m.cls := findClass_of_methodNamed B.named
  have hlocks := B.notSynchronized
  have hD := hD0.self (sz := s.heap.size)
  have hNA := hN0
  generalize hAe : va_A [(a_t_isBroth, .inl (cT 1, 24, .inl t_isBroth)), (a_t_low, .inl (cT 3, 24, .inr (.inl t_low))), (a_t_high, .inl (cT 3, 24, .inr (.inl t_high)))] s.heap.size = A at hD hNA ⊢
  have hP := hP0
  have hA : ∀ q : Nat, s.heap.size ≤ q → A q := fun q h => by rw [← hAe]; exact Or.inr h
  have hS : va_S A s.heap s.heap [] := va_S.rf
  have hl := lv_entry [.ref a_t, .ref a_p1, .ref a_p2] (n := 4) (Nat.le_of_ble_eq_true rfl)
  rw [lg_entry_eq]
  generalize (lg_sl [.ref a_t, .ref a_p1, .ref a_p2] ++ List.replicate (4 - (lg_sl [.ref a_t, .ref a_p1, .ref a_p2]).length) Slot.unset).toArray = ls at hl ⊢
  have hl : lv_has ls 4 [(0, .ref a_t), (1, .ref a_p1), (2, .ref a_p2)] := hl
  obtain ⟨Q, hQ⟩ : ∃ Q, Q = MQ below (va_Qi (fun x (_ : Unit) => x = o.1) (fun _ t => va_P (dC, dI) vwCl [(a_t_isBroth, .inl (cT 1, 24, .inl o.2.1)), (a_t_low, .inl (cT 3, 24, .inr (.inl o.2.2.1))), (a_t_high, .inl (cT 3, 24, .inr (.inl o.2.2.2)))] t.heap) A) [.ref a_t, .ref a_p1, .ref a_p2].toArray s 0 0 A := ⟨_, rfl⟩
  rw [← hQ]
  have wB_2 : ∀ (n_2 : Nat), ∀ (t_high_2 : Nat → Int64) (t_isBroth_2 : Nat → Int32) (t_low_2 : Nat → Int64) (x3_2 : Int32) (H : Heap) (locs : List Loc) (ls : Array Slot), g_X10_passes_b2 p1_tokens p1_kinds p1_parts p1_values p1_lastParts p2_isBroth p2_low p2_high n_2 t_high_2 t_isBroth_2 t_low_2 x3_2 = some o → va_P (dC, dI) vwCl [(a_t_isBroth, .inl (cT 1, 24, .inl t_isBroth_2)), (a_t_low, .inl (cT 3, 24, .inr (.inl t_low_2))), (a_t_high, .inl (cT 3, 24, .inr (.inl t_high_2)))] H → va_D A [(a_t_isBroth, .inl (cT 1, 24, .inl t_isBroth_2)), (a_t_low, .inl (cT 3, 24, .inr (.inl t_low_2))), (a_t_high, .inl (cT 3, 24, .inr (.inl t_high_2)))] → va_S A s.heap H locs → lv_has ls 4 [(0, .ref a_t), (1, .ref a_p1), (2, .ref a_p2), (3, .int x3_2)] → W p l e ({ frames := 31, cells := 0, slots := 0, locals := 854 } : Room) s m [.ref a_t, .ref a_p1, .ref a_p2].toArray below meth c H locs 0 0 Q (F0 m 2 ls []) := by
    intro n_2
    induction n_2 with
    | zero =>
      intro t_high_2 t_isBroth_2 t_low_2 x3_2 H locs ls h hP hD hS hl
      simp [g_X10_passes_b2] at h
    | succ n_2 ih_2 =>
      have wB_33 : ∀ (t_high_33 : Nat → Int64) (t_isBroth_33 : Nat → Int32) (t_low_33 : Nat → Int64) (x3_33 : Int32) (H : Heap) (locs : List Loc) (ls : Array Slot), g_X10_passes_b33 p1_tokens p1_kinds p1_parts p1_values p1_lastParts p2_isBroth p2_low p2_high (g_X10_passes_b2 p1_tokens p1_kinds p1_parts p1_values p1_lastParts p2_isBroth p2_low p2_high n_2) t_high_33 t_isBroth_33 t_low_33 x3_33 = some o → va_P (dC, dI) vwCl [(a_t_isBroth, .inl (cT 1, 24, .inl t_isBroth_33)), (a_t_low, .inl (cT 3, 24, .inr (.inl t_low_33))), (a_t_high, .inl (cT 3, 24, .inr (.inl t_high_33)))] H → va_D A [(a_t_isBroth, .inl (cT 1, 24, .inl t_isBroth_33)), (a_t_low, .inl (cT 3, 24, .inr (.inl t_low_33))), (a_t_high, .inl (cT 3, 24, .inr (.inl t_high_33)))] → va_S A s.heap H locs → lv_has ls 4 [(0, .ref a_t), (1, .ref a_p1), (2, .ref a_p2), (3, .int x3_33)] → W p l e ({ frames := 31, cells := 0, slots := 0, locals := 854 } : Room) s m [.ref a_t, .ref a_p1, .ref a_p2].toArray below meth c H locs 0 0 Q (F0 m 33 ls []) := by
        intro t_high_33 t_isBroth_33 t_low_33 x3_33 H locs ls h hP hD hS hl
        unfold g_X10_passes_b33 at h
        obtain ⟨v1, e_v1⟩ : ∃ y : Int32, y = x3_33 + 1 := ⟨_, rfl⟩
        have h := gl_use e_v1 h
        refine lv_iinc (v := v1) (lv' := [(3, .int v1), (0, .ref a_t), (1, .ref a_p1), (2, .ref a_p2)]) hx hb dX10_passes_33 hl (k := 3) rfl (by rw [e_v1]; rfl) (by decide) rfl (fun ls hl => ?_)
        refine lv_goto (tgt := 2) hx hb dX10_passes_36 (by decide) ?_
        exact ih_2 t_high_33 t_isBroth_33 t_low_33 v1 _ _ _ h hP hD hS (lv_sub hl [1, 2, 3, 0] rfl)
      intro t_high_2 t_isBroth_2 t_low_2 x3_2 H locs ls h hP hD hS hl
      rw [g_X10_passes_b2] at h
      refine lv_iload_n hx hb dX10_passes_2 rfl (lv_at hl 3 rfl) ?_
      refine lv_aload_n hx hb dX10_passes_3 rfl (lv_at hl 1 rfl) ?_
      refine va_get (D := (dC, dI)) (ci := 11) (v := .int p1_tokens) (C := RX8) (T := TX8) (N := 9) hx hb hta inX8w hown hK (rk hR0 hNA hS) 1 rfl rfl 1 (by decide) (hta _ lk_X10_22) (fun _ h9 => h9) rfl dX10_passes_4 ?_
      refine lv_icmp_ge (tgt := 39) hx hb dX10_passes_7 (by decide) (fun c0 => ?_) (fun c0 => ?_)
      · have h := (if_pos c0).symm.trans h
        refine lv_iconst (v := 1) hx hb dX10_passes_39 (by decide) ?_
        have ho := Option.some.inj h
        rw [hQ]
        exact W.zret (ty := .boolean) (v := 1) hx hb hr rfl (fun t ht hW => ⟨⟨1, (), rfl, by rw [← ho], by show va_P (dC, dI) vwCl _ t.heap; rw [ht, ← ho]; exact hP⟩, hS.F ht⟩) hS.2.2 dX10_passes_40
      · have h := (if_neg c0).symm.trans h
        refine lv_aload_n hx hb dX10_passes_10 rfl (lv_at hl 1 rfl) ?_
        refine va_get (D := (dC, dI)) (ci := 11) (v := .ref a_p1_kinds) (C := RX8) (T := TX8) (N := 9) hx hb hta inX8w hown hK (rk hR0 hNA hS) 1 rfl rfl 5 (by decide) (hta _ lk_X10_28) (fun _ h9 => h9) rfl dX10_passes_11 ?_
        refine lv_iload_n hx hb dX10_passes_14 rfl (lv_at hl 3 rfl) ?_
        obtain ⟨hc, h⟩ := gc_some h
        refine va_iald hx hb hK (rk hR0 hNA hS) 3 0 rfl rfl (inb_in hc) dX10_passes_15 ?_
        refine lv_bipush (v := 7) hx hb dX10_passes_16 (by decide) ?_
        refine lv_icmp_ne (tgt := 33) hx hb dX10_passes_18 (by decide) (fun c0 => ?_) (fun c0 => ?_)
        · have h := (if_neg c0).symm.trans h
          exact wB_33 t_high_2 t_isBroth_2 t_low_2 x3_2 _ _ _ h hP hD hS (lv_sub hl [0, 1, 2, 3] rfl)
        · have h := (if_pos c0).symm.trans h
          refine lv_aload_n hx hb dX10_passes_21 rfl (lv_at hl 0 rfl) ?_
          refine lv_aload_n hx hb dX10_passes_22 rfl (lv_at hl 1 rfl) ?_
          refine lv_aload_n hx hb dX10_passes_23 rfl (lv_at hl 2 rfl) ?_
          refine lv_iload_n hx hb dX10_passes_24 rfl (lv_at hl 3 rfl) ?_
          obtain ⟨r2, hq, h⟩ := gb_some h
          refine cxI (X2 := [(a_t_isBroth, .inl (cT 1, 24, .inl r2.2.1)), (a_t_low, .inl (cT 3, 24, .inr (.inl r2.2.2.1))), (a_t_high, .inl (cT 3, 24, .inr (.inl r2.2.2.2)))]) (va_runV (As := [.ref a_p1, .ref a_p2, .int x3_2]) (rest := []) ⟨hx, hb, hml, hown, hta⟩ (c_X10_passesStore l dC dI cT hq (hP.sub (ws' := [(a_t_isBroth, .inl (cT 1, 24, .inl t_isBroth_2)), (a_t_low, .inl (cT 3, 24, .inr (.inl t_low_2))), (a_t_high, .inl (cT 3, 24, .inr (.inl t_high_2)))]) [0, 1, 2] rfl) ((va_P.app hP (rk hR0 hNA hS)).sub (ws' := [(a_t, .inr (13, [.ref a_t_isBroth, .ref a_t_low, .ref a_t_high])), (a_p1, .inr (11, [.ref a_p1_text, .int p1_tokens, .int p1_stores, .int p1_mostSpoons, .ref a_p1_firsts, .ref a_p1_kinds, .ref a_p1_values, .ref a_p1_parts, .ref a_p1_lastParts])), (a_p2, .inr (4, [.int p2_cauldrons, .ref a_p2_isBroth, .ref a_p2_low, .ref a_p2_high, .ref a_p2_contents, .ref a_p2_storesIn, .int p2_spells, .ref a_p2_texts, .ref a_p2_cooked, .int p2_cookedSoFar, .int p2_storesSoFar])), (a_p1_parts, .inl (cT 0, 24, .inl p1_parts)), (a_p1_values, .inl (cT 0, 24, .inl p1_values)), (a_p1_kinds, .inl (cT 0, 24, .inl p1_kinds)), (a_p1_lastParts, .inl (cT 0, 24, .inl p1_lastParts)), (a_p2_isBroth, .inl (cT 1, 6, .inl p2_isBroth)), (a_p2_low, .inl (cT 0, 6, .inl p2_low)), (a_p2_high, .inl (cT 0, 6, .inl p2_high))]) [3, 4, 5, 7, 8, 6, 9, 10, 11, 12] rfl) (ds hD [0, 1, 2] (by decide) rfl) (nac hP hD [0, 1, 2] rfl (va_free hD hS hA [0, 1, 2] rfl) hNA [.inl 0, .inl 1, .inl 2, .inl 4, .inl 5, .inl 3, .inl 6, .inl 7, .inl 8, .inl 9] rfl rfl)) (cV hta lm_X10_32 md_X10_passesStore ⟨(Nat.le_of_ble_eq_true rfl), (Nat.le_of_ble_eq_true rfl)⟩) ⟨fbK, va_recv hK (rk hR0 hNA hS) (ci := 13) (q0 := 0) rfl rfl, fun U hU hW => ⟨rfl, hU, va_K.moved hW.alike hK⟩⟩ rfl rfl hl.1 rfl (lv_room (Nat.le_of_ble_eq_true rfl)) dX10_passes_25 ⟨(Nat.le_of_ble_eq_true rfl), (Nat.le_of_ble_eq_true rfl)⟩) hS hA hP hD [0, 1, 2] rfl [.inl 0, .inl 1, .inl 2] rfl rfl rfl (fun H locs hP hD hS => ?_)
          refine lv_if_ne (tgt := 33) hx hb dX10_passes_28 (by decide) (fun c0 => ?_) (fun c0 => ?_)
          · have h := (if_neg c0).symm.trans h
            exact wB_33 r2.2.2.2 r2.2.1 r2.2.2.1 x3_2 _ _ _ h hP hD hS (lv_sub hl [0, 1, 2, 3] rfl)
          · have h := (if_pos c0).symm.trans h
            refine lv_iconst (v := 0) hx hb dX10_passes_31 (by decide) ?_
            have ho := Option.some.inj h
            rw [hQ]
            exact W.zret (ty := .boolean) (v := 0) hx hb hr rfl (fun t ht hW => ⟨⟨0, (), rfl, by rw [← ho], by show va_P (dC, dI) vwCl _ t.heap; rw [ht, ← ho]; exact hP⟩, hS.F ht⟩) hS.2.2 dX10_passes_32
  unfold g_X10_passes at h
  refine lv_iconst (v := 0) hx hb dX10_passes_0 (by decide) ?_
  refine lv_istore_n (lv' := [(3, .int 0), (0, .ref a_t), (1, .ref a_p1), (2, .ref a_p2)]) hx hb dX10_passes_1 rfl hl (by decide) rfl (fun ls hl => ?_)
  exact wB_2 100 t_high t_isBroth t_low 0 _ _ _ h hP hD hS (lv_sub hl [1, 2, 3, 0] rfl)
