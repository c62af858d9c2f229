set_option maxHeartbeats 4000000 in
set_option maxRecDepth 100000 in
theorem c_X6_isLetter (l : Launch) (dC : Nat → ClassId) (dI : Nat → Nat → Nat) (cT : Nat → ClassId) {Hh : Heap} {a_t : Nat} {a_t_firsts : Nat} {a_t_kinds : Nat} {a_t_values : Nat} {a_t_parts : Nat} {a_t_lastParts : Nat} {a_t_spoonPlaces : Nat} {p1 : Int32} {t_tokens : Int32} {t_stores : Int32} {t_mostSpoons : Int32} {t_spoons : Int32} {t_awaitsLetter : Int32} {t_awaitsDigit : Int32} {o : Int32} (h : g_X6_isLetter p1 = some o) (hR0 : va_P (dC, dI) vwCl [(a_t, .inr (9, [.int t_tokens, .int t_stores, .int t_mostSpoons, .ref a_t_firsts, .ref a_t_kinds, .ref a_t_values, .ref a_t_parts, .ref a_t_lastParts, .ref a_t_spoonPlaces, .int t_spoons, .int t_awaitsLetter, .int t_awaitsDigit]))] Hh) : Met l yX6_isLetter (wA yX6_isLetter cX6_isLetter 2 (some .boolean)) ({ frames := 0, cells := 0, slots := 0, locals := 0 } : Room) (PK dC dI cT [.ref a_t, .int p1] Hh) (va_Qi (fun x (_ : Unit) => x = o) (fun _ t => t.heap = Hh) (va_A [] Hh.size)) 0 0 (va_A [] Hh.size) := by
  refine Met.ofW (cc := cX6_isLetter) (maxL := 2) (ret := (some .boolean)) (by decide) rfl ?_
  intro p e s m args below meth c s₁ B hml hv
  obtain ⟨rfl, hH, hK⟩ := hv
  subst hH
  have hx := B.exec
  have hb := B.bytes
  have hr := B.returns
  have hta : ∀ w ∈ ALLW, w.before [.ref a_t, .int p1].toArray s = true := fun w hw => atoms_spec (ws := wA yX6_isLetter cX6_isLetter 2 (some .boolean)) B.pre w (List.mem_cons_of_mem _ hw)
  have hown : s.vm.findClass RX6 = some m.cls := findClass_of_methodNamed B.named
  have hlocks := B.notSynchronized
  generalize hAe : va_A [] s.heap.size = A
  have hA : ∀ q : Nat, s.heap.size ≤ q → A q := fun q h => by rw [← hAe]; exact Or.inr h
  have hS : va_S A s.heap s.heap [] := va_S.rf
  have hl := lv_entry [.ref a_t, .int p1] (n := 2) (Nat.le_of_ble_eq_true rfl)
  rw [lg_entry_eq]
  generalize (lg_sl [.ref a_t, .int p1] ++ List.replicate (2 - (lg_sl [.ref a_t, .int p1]).length) Slot.unset).toArray = ls at hl ⊢
  have hl : lv_has ls 2 [(0, .ref a_t), (1, .int p1)] := hl
  unfold g_X6_isLetter at h
  refine lv_iload_n hx hb dX6_isLetter_0 rfl (lv_at hl 1 rfl) ?_
  refine lv_bipush (v := 97) hx hb dX6_isLetter_1 (by decide) ?_
  refine lv_icmp_lt (tgt := 16) hx hb dX6_isLetter_3 (by decide) (fun c0 => ?_) (fun c0 => ?_)
  · have h := (if_pos c0).symm.trans h
    refine lv_iconst (v := 0) hx hb dX6_isLetter_16 (by decide) ?_
    have ho := Option.some.inj h
    exact W.zret (ty := .boolean) (v := 0) hx hb hr rfl (fun t ht hW => ⟨⟨0, (), rfl, by rw [← ho], ht⟩, hS.F ht⟩) hS.2.2 dX6_isLetter_17
  · have h := (if_neg c0).symm.trans h
    refine lv_iload_n hx hb dX6_isLetter_6 rfl (lv_at hl 1 rfl) ?_
    refine lv_bipush (v := 103) hx hb dX6_isLetter_7 (by decide) ?_
    refine lv_icmp_ge (tgt := 16) hx hb dX6_isLetter_9 (by decide) (fun c0 => ?_) (fun c0 => ?_)
    · have h := (if_pos c0).symm.trans h
      refine lv_iconst (v := 0) hx hb dX6_isLetter_16 (by decide) ?_
      have ho := Option.some.inj h
      exact W.zret (ty := .boolean) (v := 0) hx hb hr rfl (fun t ht hW => ⟨⟨0, (), rfl, by rw [← ho], ht⟩, hS.F ht⟩) hS.2.2 dX6_isLetter_17
    · have h := (if_neg c0).symm.trans h
      refine lv_iconst (v := 1) hx hb dX6_isLetter_12 (by decide) ?_
      refine lv_goto (tgt := 17) hx hb dX6_isLetter_13 (by decide) ?_
      have ho := Option.some.inj h
      exact W.zret (ty := .boolean) (v := 1) hx hb hr rfl (fun t ht hW => ⟨⟨1, (), rfl, by rw [← ho], ht⟩, hS.F ht⟩) hS.2.2 dX6_isLetter_17
set_option maxHeartbeats 4000000 in
set_option maxRecDepth 100000 in
theorem c_X6_fitsToken (l : Launch) (dC : Nat → ClassId) (dI : Nat → Nat → Nat) (cT : Nat → ClassId) {Hh : Heap} {a_t : Nat} {a_t_firsts : Nat} {a_t_kinds : Nat} {a_t_values : Nat} {a_t_parts : Nat} {a_t_spoonPlaces : Nat} {a_t_lastParts : Nat} {t_tokens : Int32} {t_mostSpoons : Int32} {t_spoons : Int32} {t_firsts : Nat → Int32} {t_kinds : Nat → Int32} {t_values : Nat → Int32} {t_parts : Nat → Int32} {t_spoonPlaces : Nat → Int32} {t_lastParts : Nat → Int32} {p1 : Int32} {p2 : Int32} {p3 : Int32} {p4 : Int32} {p5 : Int32} {t_stores : Int32} {t_awaitsLetter : Int32} {t_awaitsDigit : Int32} {o : Int32 × Int32 × Int32 × Int32 × (Nat → Int32) × (Nat → Int32) × (Nat → Int32) × (Nat → Int32) × (Nat → Int32) × (Nat → Int32)} (h : g_X6_fitsToken t_tokens t_mostSpoons t_spoons t_firsts t_kinds t_values t_parts t_spoonPlaces t_lastParts p1 p2 p3 p4 p5 = some o) (hP0 : va_P (dC, dI) vwCl [(a_t, .inr (9, [.int t_tokens, .int t_stores, .int t_mostSpoons, .ref a_t_firsts, .ref a_t_kinds, .ref a_t_values, .ref a_t_parts, .ref a_t_lastParts, .ref a_t_spoonPlaces, .int t_spoons, .int t_awaitsLetter, .int t_awaitsDigit])), (a_t_firsts, .inl (cT 2, 24, .inl t_firsts)), (a_t_kinds, .inl (cT 0, 24, .inl t_kinds)), (a_t_values, .inl (cT 0, 24, .inl t_values)), (a_t_parts, .inl (cT 0, 24, .inl t_parts)), (a_t_spoonPlaces, .inl (cT 0, 5, .inl t_spoonPlaces)), (a_t_lastParts, .inl (cT 0, 24, .inl t_lastParts))] Hh) (hD0 : va_D (fun _ => True) [(a_t, .inr (9, [.int t_tokens, .int t_stores, .int t_mostSpoons, .ref a_t_firsts, .ref a_t_kinds, .ref a_t_values, .ref a_t_parts, .ref a_t_lastParts, .ref a_t_spoonPlaces, .int t_spoons, .int t_awaitsLetter, .int t_awaitsDigit])), (a_t_firsts, .inl (cT 2, 24, .inl t_firsts)), (a_t_kinds, .inl (cT 0, 24, .inl t_kinds)), (a_t_values, .inl (cT 0, 24, .inl t_values)), (a_t_parts, .inl (cT 0, 24, .inl t_parts)), (a_t_spoonPlaces, .inl (cT 0, 5, .inl t_spoonPlaces)), (a_t_lastParts, .inl (cT 0, 24, .inl t_lastParts))]) : Met l yX6_fitsToken (wA yX6_fitsToken cX6_fitsToken 7 (some .boolean)) ({ frames := 1, cells := 0, slots := 0, locals := 21 } : Room) (PK dC dI cT [.ref a_t, .int p1, .int p2, .int p3, .int p4, .int p5] Hh) (va_Qi (fun x (_ : Unit) => x = o.1) (fun _ t => va_P (dC, dI) vwCl [(a_t, .inr (9, [.int o.2.1, .int t_stores, .int o.2.2.1, .ref a_t_firsts, .ref a_t_kinds, .ref a_t_values, .ref a_t_parts, .ref a_t_lastParts, .ref a_t_spoonPlaces, .int o.2.2.2.1, .int t_awaitsLetter, .int t_awaitsDigit])), (a_t_firsts, .inl (cT 2, 24, .inl o.2.2.2.2.1)), (a_t_kinds, .inl (cT 0, 24, .inl o.2.2.2.2.2.1)), (a_t_values, .inl (cT 0, 24, .inl o.2.2.2.2.2.2.1)), (a_t_parts, .inl (cT 0, 24, .inl o.2.2.2.2.2.2.2.1)), (a_t_spoonPlaces, .inl (cT 0, 5, .inl o.2.2.2.2.2.2.2.2.1)), (a_t_lastParts, .inl (cT 0, 24, .inl o.2.2.2.2.2.2.2.2.2))] t.heap) (va_A [(a_t, .inr (9, [.int t_tokens, .int t_stores, .int t_mostSpoons, .ref a_t_firsts, .ref a_t_kinds, .ref a_t_values, .ref a_t_parts, .ref a_t_lastParts, .ref a_t_spoonPlaces, .int t_spoons, .int t_awaitsLetter, .int t_awaitsDigit])), (a_t_firsts, .inl (cT 2, 24, .inl t_firsts)), (a_t_kinds, .inl (cT 0, 24, .inl t_kinds)), (a_t_values, .inl (cT 0, 24, .inl t_values)), (a_t_parts, .inl (cT 0, 24, .inl t_parts)), (a_t_spoonPlaces, .inl (cT 0, 5, .inl t_spoonPlaces)), (a_t_lastParts, .inl (cT 0, 24, .inl t_lastParts))] Hh.size)) 0 0 (va_A [(a_t, .inr (9, [.int t_tokens, .int t_stores, .int t_mostSpoons, .ref a_t_firsts, .ref a_t_kinds, .ref a_t_values, .ref a_t_parts, .ref a_t_lastParts, .ref a_t_spoonPlaces, .int t_spoons, .int t_awaitsLetter, .int t_awaitsDigit])), (a_t_firsts, .inl (cT 2, 24, .inl t_firsts)), (a_t_kinds, .inl (cT 0, 24, .inl t_kinds)), (a_t_values, .inl (cT 0, 24, .inl t_values)), (a_t_parts, .inl (cT 0, 24, .inl t_parts)), (a_t_spoonPlaces, .inl (cT 0, 5, .inl t_spoonPlaces)), (a_t_lastParts, .inl (cT 0, 24, .inl t_lastParts))] Hh.size) := by
  refine Met.ofW (cc := cX6_fitsToken) (maxL := 7) (ret := (some .boolean)) (by decide) rfl ?_
  intro p e s m args below meth c s₁ B hml hv
  obtain ⟨rfl, hH, hK⟩ := hv
  subst hH
  have hx := B.exec
  have hb := B.bytes
  have hr := B.returns
  have hta : ∀ w ∈ ALLW, w.before [.ref a_t, .int p1, .int p2, .int p3, .int p4, .int p5].toArray s = true := fun w hw => atoms_spec (ws := wA yX6_fitsToken cX6_fitsToken 7 (some .boolean)) B.pre w (List.mem_cons_of_mem _ hw)
  have hown : s.vm.findClass RX6 = some m.cls := findClass_of_methodNamed B.named
  have hlocks := B.notSynchronized
  have hD := hD0.self (sz := s.heap.size)
  generalize hAe : va_A [(a_t, .inr (9, [.int t_tokens, .int t_stores, .int t_mostSpoons, .ref a_t_firsts, .ref a_t_kinds, .ref a_t_values, .ref a_t_parts, .ref a_t_lastParts, .ref a_t_spoonPlaces, .int t_spoons, .int t_awaitsLetter, .int t_awaitsDigit])), (a_t_firsts, .inl (cT 2, 24, .inl t_firsts)), (a_t_kinds, .inl (cT 0, 24, .inl t_kinds)), (a_t_values, .inl (cT 0, 24, .inl t_values)), (a_t_parts, .inl (cT 0, 24, .inl t_parts)), (a_t_spoonPlaces, .inl (cT 0, 5, .inl t_spoonPlaces)), (a_t_lastParts, .inl (cT 0, 24, .inl t_lastParts))] s.heap.size = A at hD ⊢
  have hP := hP0
  have hA : ∀ q : Nat, s.heap.size ≤ q → A q := fun q h => by rw [← hAe]; exact Or.inr h
  have hS : va_S A s.heap s.heap [] := va_S.rf
  have hl := lv_entry [.ref a_t, .int p1, .int p2, .int p3, .int p4, .int p5] (n := 7) (Nat.le_of_ble_eq_true rfl)
  rw [lg_entry_eq]
  generalize (lg_sl [.ref a_t, .int p1, .int p2, .int p3, .int p4, .int p5] ++ List.replicate (7 - (lg_sl [.ref a_t, .int p1, .int p2, .int p3, .int p4, .int p5]).length) Slot.unset).toArray = ls at hl ⊢
  have hl : lv_has ls 7 [(0, .ref a_t), (1, .int p1), (2, .int p2), (3, .int p3), (4, .int p4), (5, .int p5)] := hl
  obtain ⟨Q, hQ⟩ : ∃ Q, Q = MQ below (va_Qi (fun x (_ : Unit) => x = o.1) (fun _ t => va_P (dC, dI) vwCl [(a_t, .inr (9, [.int o.2.1, .int t_stores, .int o.2.2.1, .ref a_t_firsts, .ref a_t_kinds, .ref a_t_values, .ref a_t_parts, .ref a_t_lastParts, .ref a_t_spoonPlaces, .int o.2.2.2.1, .int t_awaitsLetter, .int t_awaitsDigit])), (a_t_firsts, .inl (cT 2, 24, .inl o.2.2.2.2.1)), (a_t_kinds, .inl (cT 0, 24, .inl o.2.2.2.2.2.1)), (a_t_values, .inl (cT 0, 24, .inl o.2.2.2.2.2.2.1)), (a_t_parts, .inl (cT 0, 24, .inl o.2.2.2.2.2.2.2.1)), (a_t_spoonPlaces, .inl (cT 0, 5, .inl o.2.2.2.2.2.2.2.2.1)), (a_t_lastParts, .inl (cT 0, 24, .inl o.2.2.2.2.2.2.2.2.2))] t.heap) A) [.ref a_t, .int p1, .int p2, .int p3, .int p4, .int p5].toArray s 0 0 A := ⟨_, rfl⟩
  rw [← hQ]
  have wB_151 : ∀ (t_firsts_151 : Nat → Int32) (t_kinds_151 : Nat → Int32) (t_lastParts_151 : Nat → Int32) (t_parts_151 : Nat → Int32) (t_spoonPlaces_151 : Nat → Int32) (t_values_151 : Nat → Int32) (x6_151 : Int32) (H : Heap) (locs : List Loc) (ls : Array Slot), g_X6_fitsToken_b151 t_tokens t_mostSpoons t_firsts_151 t_kinds_151 t_lastParts_151 t_parts_151 t_spoonPlaces_151 t_values_151 x6_151 = some o → va_P (dC, dI) vwCl [(a_t, .inr (9, [.int t_tokens, .int t_stores, .int t_mostSpoons, .ref a_t_firsts, .ref a_t_kinds, .ref a_t_values, .ref a_t_parts, .ref a_t_lastParts, .ref a_t_spoonPlaces, .int t_spoons, .int t_awaitsLetter, .int t_awaitsDigit])), (a_t_firsts, .inl (cT 2, 24, .inl t_firsts_151)), (a_t_kinds, .inl (cT 0, 24, .inl t_kinds_151)), (a_t_values, .inl (cT 0, 24, .inl t_values_151)), (a_t_parts, .inl (cT 0, 24, .inl t_parts_151)), (a_t_spoonPlaces, .inl (cT 0, 5, .inl t_spoonPlaces_151)), (a_t_lastParts, .inl (cT 0, 24, .inl t_lastParts_151))] H → va_D A [(a_t, .inr (9, [.int t_tokens, .int t_stores, .int t_mostSpoons, .ref a_t_firsts, .ref a_t_kinds, .ref a_t_values, .ref a_t_parts, .ref a_t_lastParts, .ref a_t_spoonPlaces, .int t_spoons, .int t_awaitsLetter, .int t_awaitsDigit])), (a_t_firsts, .inl (cT 2, 24, .inl t_firsts_151)), (a_t_kinds, .inl (cT 0, 24, .inl t_kinds_151)), (a_t_values, .inl (cT 0, 24, .inl t_values_151)), (a_t_parts, .inl (cT 0, 24, .inl t_parts_151)), (a_t_spoonPlaces, .inl (cT 0, 5, .inl t_spoonPlaces_151)), (a_t_lastParts, .inl (cT 0, 24, .inl t_lastParts_151))] → va_S A s.heap H locs → lv_has ls 7 [(0, .ref a_t), (6, .int x6_151)] → W p l e ({ frames := 1, cells := 0, slots := 0, locals := 21 } : Room) s m [.ref a_t, .int p1, .int p2, .int p3, .int p4, .int p5].toArray below meth c H locs 0 0 Q (F0 m 151 ls []) := by
    intro t_firsts_151 t_kinds_151 t_lastParts_151 t_parts_151 t_spoonPlaces_151 t_values_151 x6_151 H locs ls h hP hD hS hl
    unfold g_X6_fitsToken_b151 at h
    refine lv_aload_n hx hb dX6_fitsToken_151 rfl (lv_at hl 0 rfl) ?_
    refine lv_iload hx hb dX6_fitsToken_152 (lv_at hl 1 rfl) ?_
    refine va_put (D := (dC, dI)) (ci := 9) (v := .int x6_151) (ty := .int) (C := RX6) (T := TX6) (N := 12) hx hb hta inX6w tyX6 tyX6_ok nmX6 hown hK hP hD hS 0 rfl rfl 9 (by decide) (hta _ lk_X6_41) (fun _ h9 => h9) rfl (by decide +kernel) rfl rfl (Nat.le_of_ble_eq_true rfl) dX6_fitsToken_154 (fun H locs hP hD hS => ?_)
    have hP : va_P (dC, dI) vwCl [(a_t, .inr (9, [.int t_tokens, .int t_stores, .int t_mostSpoons, .ref a_t_firsts, .ref a_t_kinds, .ref a_t_values, .ref a_t_parts, .ref a_t_lastParts, .ref a_t_spoonPlaces, .int x6_151, .int t_awaitsLetter, .int t_awaitsDigit])), (a_t_firsts, .inl (cT 2, 24, .inl t_firsts_151)), (a_t_kinds, .inl (cT 0, 24, .inl t_kinds_151)), (a_t_values, .inl (cT 0, 24, .inl t_values_151)), (a_t_parts, .inl (cT 0, 24, .inl t_parts_151)), (a_t_spoonPlaces, .inl (cT 0, 5, .inl t_spoonPlaces_151)), (a_t_lastParts, .inl (cT 0, 24, .inl t_lastParts_151))] H := hP
    have hD : va_D A [(a_t, .inr (9, [.int t_tokens, .int t_stores, .int t_mostSpoons, .ref a_t_firsts, .ref a_t_kinds, .ref a_t_values, .ref a_t_parts, .ref a_t_lastParts, .ref a_t_spoonPlaces, .int x6_151, .int t_awaitsLetter, .int t_awaitsDigit])), (a_t_firsts, .inl (cT 2, 24, .inl t_firsts_151)), (a_t_kinds, .inl (cT 0, 24, .inl t_kinds_151)), (a_t_values, .inl (cT 0, 24, .inl t_values_151)), (a_t_parts, .inl (cT 0, 24, .inl t_parts_151)), (a_t_spoonPlaces, .inl (cT 0, 5, .inl t_spoonPlaces_151)), (a_t_lastParts, .inl (cT 0, 24, .inl t_lastParts_151))] := hD
    refine lv_aload_n hx hb dX6_fitsToken_157 rfl (lv_at hl 0 rfl) ?_
    refine lv_aload_n hx hb dX6_fitsToken_158 rfl (lv_at hl 0 rfl) ?_
    refine va_get (D := (dC, dI)) (ci := 9) (v := .int t_mostSpoons) (C := RX6) (T := TX6) (N := 12) hx hb hta inX6w hown hK hP 0 rfl rfl 2 (by decide) (hta _ lk_X6_38) (fun _ h9 => h9) rfl dX6_fitsToken_159 ?_
    refine lv_aload_n hx hb dX6_fitsToken_162 rfl (lv_at hl 0 rfl) ?_
    refine va_get (D := (dC, dI)) (ci := 9) (v := .int x6_151) (C := RX6) (T := TX6) (N := 12) hx hb hta inX6w hown hK hP 0 rfl rfl 9 (by decide) (hta _ lk_X6_41) (fun _ h9 => h9) rfl dX6_fitsToken_163 ?_
    refine va_mmax hx hb (hml.trans hl.1.symm) hown (hta _ lm_X6_75) (hta _ mth_maxint_s) (hta _ mth_i) (hta _ mth_maxint_c) (Nat.le_of_ble_eq_true rfl) (Nat.le_of_ble_eq_true rfl) (Nat.le_of_ble_eq_true rfl) (Nat.le_of_ble_eq_true rfl) dX6_fitsToken_166 ?_
    refine lv_topi (fun v2 e_v2 => ?_)
    have h := gl_use e_v2 h
    refine va_put (D := (dC, dI)) (ci := 9) (v := .int v2) (ty := .int) (C := RX6) (T := TX6) (N := 12) hx hb hta inX6w tyX6 tyX6_ok nmX6 hown hK hP hD hS 0 rfl rfl 2 (by decide) (hta _ lk_X6_38) (fun _ h9 => h9) rfl (by decide +kernel) rfl rfl (Nat.le_of_ble_eq_true rfl) dX6_fitsToken_169 (fun H locs hP hD hS => ?_)
    have hP : va_P (dC, dI) vwCl [(a_t, .inr (9, [.int t_tokens, .int t_stores, .int v2, .ref a_t_firsts, .ref a_t_kinds, .ref a_t_values, .ref a_t_parts, .ref a_t_lastParts, .ref a_t_spoonPlaces, .int x6_151, .int t_awaitsLetter, .int t_awaitsDigit])), (a_t_firsts, .inl (cT 2, 24, .inl t_firsts_151)), (a_t_kinds, .inl (cT 0, 24, .inl t_kinds_151)), (a_t_values, .inl (cT 0, 24, .inl t_values_151)), (a_t_parts, .inl (cT 0, 24, .inl t_parts_151)), (a_t_spoonPlaces, .inl (cT 0, 5, .inl t_spoonPlaces_151)), (a_t_lastParts, .inl (cT 0, 24, .inl t_lastParts_151))] H := hP
    have hD : va_D A [(a_t, .inr (9, [.int t_tokens, .int t_stores, .int v2, .ref a_t_firsts, .ref a_t_kinds, .ref a_t_values, .ref a_t_parts, .ref a_t_lastParts, .ref a_t_spoonPlaces, .int x6_151, .int t_awaitsLetter, .int t_awaitsDigit])), (a_t_firsts, .inl (cT 2, 24, .inl t_firsts_151)), (a_t_kinds, .inl (cT 0, 24, .inl t_kinds_151)), (a_t_values, .inl (cT 0, 24, .inl t_values_151)), (a_t_parts, .inl (cT 0, 24, .inl t_parts_151)), (a_t_spoonPlaces, .inl (cT 0, 5, .inl t_spoonPlaces_151)), (a_t_lastParts, .inl (cT 0, 24, .inl t_lastParts_151))] := hD
    refine lv_aload_n hx hb dX6_fitsToken_172 rfl (lv_at hl 0 rfl) ?_
    refine lv_dup hx hb dX6_fitsToken_173 rfl ?_
    refine va_get (D := (dC, dI)) (ci := 9) (v := .int t_tokens) (C := RX6) (T := TX6) (N := 12) hx hb hta inX6w hown hK hP 0 rfl rfl 0 (by decide) (hta _ lk_X6_31) (fun _ h9 => h9) rfl dX6_fitsToken_174 ?_
    refine lv_iconst (v := 1) hx hb dX6_fitsToken_177 (by decide) ?_
    refine lv_iadd hx hb dX6_fitsToken_178 ?_
    refine lv_topi (fun v3 e_v3 => ?_)
    have h := gl_use e_v3 h
    refine va_put (D := (dC, dI)) (ci := 9) (v := .int v3) (ty := .int) (C := RX6) (T := TX6) (N := 12) hx hb hta inX6w tyX6 tyX6_ok nmX6 hown hK hP hD hS 0 rfl rfl 0 (by decide) (hta _ lk_X6_31) (fun _ h9 => h9) rfl (by decide +kernel) rfl rfl (Nat.le_of_ble_eq_true rfl) dX6_fitsToken_179 (fun H locs hP hD hS => ?_)
    have hP : va_P (dC, dI) vwCl [(a_t, .inr (9, [.int v3, .int t_stores, .int v2, .ref a_t_firsts, .ref a_t_kinds, .ref a_t_values, .ref a_t_parts, .ref a_t_lastParts, .ref a_t_spoonPlaces, .int x6_151, .int t_awaitsLetter, .int t_awaitsDigit])), (a_t_firsts, .inl (cT 2, 24, .inl t_firsts_151)), (a_t_kinds, .inl (cT 0, 24, .inl t_kinds_151)), (a_t_values, .inl (cT 0, 24, .inl t_values_151)), (a_t_parts, .inl (cT 0, 24, .inl t_parts_151)), (a_t_spoonPlaces, .inl (cT 0, 5, .inl t_spoonPlaces_151)), (a_t_lastParts, .inl (cT 0, 24, .inl t_lastParts_151))] H := hP
    have hD : va_D A [(a_t, .inr (9, [.int v3, .int t_stores, .int v2, .ref a_t_firsts, .ref a_t_kinds, .ref a_t_values, .ref a_t_parts, .ref a_t_lastParts, .ref a_t_spoonPlaces, .int x6_151, .int t_awaitsLetter, .int t_awaitsDigit])), (a_t_firsts, .inl (cT 2, 24, .inl t_firsts_151)), (a_t_kinds, .inl (cT 0, 24, .inl t_kinds_151)), (a_t_values, .inl (cT 0, 24, .inl t_values_151)), (a_t_parts, .inl (cT 0, 24, .inl t_parts_151)), (a_t_spoonPlaces, .inl (cT 0, 5, .inl t_spoonPlaces_151)), (a_t_lastParts, .inl (cT 0, 24, .inl t_lastParts_151))] := hD
    refine lv_iconst (v := 1) hx hb dX6_fitsToken_182 (by decide) ?_
    have ho := Option.some.inj h
    rw [hQ]
    exact W.zret (ty := .boolean) (v := 1) hx hb hr rfl (fun t ht hW => ⟨⟨1, (), rfl, by rw [← ho], by show va_P (dC, dI) vwCl _ t.heap; rw [ht, ← ho]; exact hP⟩, hS.F ht⟩) hS.2.2 dX6_fitsToken_183
  have wB_132 : ∀ (t_firsts_132 : Nat → Int32) (t_kinds_132 : Nat → Int32) (t_parts_132 : Nat → Int32) (t_values_132 : Nat → Int32) (x6_132 : Int32) (s2_132 : Int32) (H : Heap) (locs : List Loc) (ls : Array Slot), g_X6_fitsToken_b132 t_tokens t_mostSpoons t_spoonPlaces t_lastParts p5 t_firsts_132 t_kinds_132 t_parts_132 t_values_132 x6_132 s2_132 = some o → va_P (dC, dI) vwCl [(a_t, .inr (9, [.int t_tokens, .int t_stores, .int t_mostSpoons, .ref a_t_firsts, .ref a_t_kinds, .ref a_t_values, .ref a_t_parts, .ref a_t_lastParts, .ref a_t_spoonPlaces, .int t_spoons, .int t_awaitsLetter, .int t_awaitsDigit])), (a_t_firsts, .inl (cT 2, 24, .inl t_firsts_132)), (a_t_kinds, .inl (cT 0, 24, .inl t_kinds_132)), (a_t_values, .inl (cT 0, 24, .inl t_values_132)), (a_t_parts, .inl (cT 0, 24, .inl t_parts_132)), (a_t_spoonPlaces, .inl (cT 0, 5, .inl t_spoonPlaces)), (a_t_lastParts, .inl (cT 0, 24, .inl t_lastParts))] H → va_D A [(a_t, .inr (9, [.int t_tokens, .int t_stores, .int t_mostSpoons, .ref a_t_firsts, .ref a_t_kinds, .ref a_t_values, .ref a_t_parts, .ref a_t_lastParts, .ref a_t_spoonPlaces, .int t_spoons, .int t_awaitsLetter, .int t_awaitsDigit])), (a_t_firsts, .inl (cT 2, 24, .inl t_firsts_132)), (a_t_kinds, .inl (cT 0, 24, .inl t_kinds_132)), (a_t_values, .inl (cT 0, 24, .inl t_values_132)), (a_t_parts, .inl (cT 0, 24, .inl t_parts_132)), (a_t_spoonPlaces, .inl (cT 0, 5, .inl t_spoonPlaces)), (a_t_lastParts, .inl (cT 0, 24, .inl t_lastParts))] → va_S A s.heap H locs → lv_has ls 7 [(0, .ref a_t), (5, .int p5), (6, .int x6_132)] → W p l e ({ frames := 1, cells := 0, slots := 0, locals := 21 } : Room) s m [.ref a_t, .int p1, .int p2, .int p3, .int p4, .int p5].toArray below meth c H locs 0 0 Q (F0 m 132 ls [.int s2_132, .int t_tokens, .ref a_t_lastParts]) := by
    intro t_firsts_132 t_kinds_132 t_parts_132 t_values_132 x6_132 s2_132 H locs ls h hP hD hS hl
    unfold g_X6_fitsToken_b132 at h
    obtain ⟨hc, h⟩ := gc_some h
    refine va_iast hx hb hK hP hD hS 6 0 rfl rfl (inb_in hc) dX6_fitsToken_132 (fun H locs hP hD hS => ?_)
    have hP : va_P (dC, dI) vwCl [(a_t, .inr (9, [.int t_tokens, .int t_stores, .int t_mostSpoons, .ref a_t_firsts, .ref a_t_kinds, .ref a_t_values, .ref a_t_parts, .ref a_t_lastParts, .ref a_t_spoonPlaces, .int t_spoons, .int t_awaitsLetter, .int t_awaitsDigit])), (a_t_firsts, .inl (cT 2, 24, .inl t_firsts_132)), (a_t_kinds, .inl (cT 0, 24, .inl t_kinds_132)), (a_t_values, .inl (cT 0, 24, .inl t_values_132)), (a_t_parts, .inl (cT 0, 24, .inl t_parts_132)), (a_t_spoonPlaces, .inl (cT 0, 5, .inl t_spoonPlaces)), (a_t_lastParts, .inl (cT 0, 24, .inl (upd t_lastParts t_tokens.toNatClampNeg s2_132)))] H := hP
    have hD : va_D A [(a_t, .inr (9, [.int t_tokens, .int t_stores, .int t_mostSpoons, .ref a_t_firsts, .ref a_t_kinds, .ref a_t_values, .ref a_t_parts, .ref a_t_lastParts, .ref a_t_spoonPlaces, .int t_spoons, .int t_awaitsLetter, .int t_awaitsDigit])), (a_t_firsts, .inl (cT 2, 24, .inl t_firsts_132)), (a_t_kinds, .inl (cT 0, 24, .inl t_kinds_132)), (a_t_values, .inl (cT 0, 24, .inl t_values_132)), (a_t_parts, .inl (cT 0, 24, .inl t_parts_132)), (a_t_spoonPlaces, .inl (cT 0, 5, .inl t_spoonPlaces)), (a_t_lastParts, .inl (cT 0, 24, .inl (upd t_lastParts t_tokens.toNatClampNeg s2_132)))] := hD
    refine lv_iload hx hb dX6_fitsToken_133 (lv_at hl 1 rfl) ?_
    refine lv_if_le (tgt := 151) hx hb dX6_fitsToken_135 (by decide) (fun c0 => ?_) (fun c0 => ?_)
    · have h := (if_pos c0).symm.trans h
      exact wB_151 t_firsts_132 t_kinds_132 (upd t_lastParts t_tokens.toNatClampNeg s2_132) t_parts_132 t_spoonPlaces t_values_132 x6_132 _ _ _ h hP hD hS (lv_sub hl [0, 2] rfl)
    · have h := (if_neg c0).symm.trans h
      refine lv_aload_n hx hb dX6_fitsToken_138 rfl (lv_at hl 0 rfl) ?_
      refine va_get (D := (dC, dI)) (ci := 9) (v := .ref a_t_spoonPlaces) (C := RX6) (T := TX6) (N := 12) hx hb hta inX6w hown hK hP 0 rfl rfl 8 (by decide) (hta _ lk_X6_28) (fun _ h9 => h9) rfl dX6_fitsToken_139 ?_
      refine lv_iload hx hb dX6_fitsToken_142 (lv_at hl 2 rfl) ?_
      refine lv_iconst (v := 1) hx hb dX6_fitsToken_144 (by decide) ?_
      refine lv_isub hx hb dX6_fitsToken_145 ?_
      refine lv_aload_n hx hb dX6_fitsToken_146 rfl (lv_at hl 0 rfl) ?_
      refine va_get (D := (dC, dI)) (ci := 9) (v := .int t_tokens) (C := RX6) (T := TX6) (N := 12) hx hb hta inX6w hown hK hP 0 rfl rfl 0 (by decide) (hta _ lk_X6_31) (fun _ h9 => h9) rfl dX6_fitsToken_147 ?_
      obtain ⟨hc, h⟩ := gc_some h
      refine va_iast hx hb hK hP hD hS 5 0 rfl rfl (inb_in hc) dX6_fitsToken_150 (fun H locs hP hD hS => ?_)
      have hP : va_P (dC, dI) vwCl [(a_t, .inr (9, [.int t_tokens, .int t_stores, .int t_mostSpoons, .ref a_t_firsts, .ref a_t_kinds, .ref a_t_values, .ref a_t_parts, .ref a_t_lastParts, .ref a_t_spoonPlaces, .int t_spoons, .int t_awaitsLetter, .int t_awaitsDigit])), (a_t_firsts, .inl (cT 2, 24, .inl t_firsts_132)), (a_t_kinds, .inl (cT 0, 24, .inl t_kinds_132)), (a_t_values, .inl (cT 0, 24, .inl t_values_132)), (a_t_parts, .inl (cT 0, 24, .inl t_parts_132)), (a_t_spoonPlaces, .inl (cT 0, 5, .inl (upd t_spoonPlaces (x6_132 - 1).toNatClampNeg t_tokens))), (a_t_lastParts, .inl (cT 0, 24, .inl (upd t_lastParts t_tokens.toNatClampNeg s2_132)))] H := hP
      have hD : va_D A [(a_t, .inr (9, [.int t_tokens, .int t_stores, .int t_mostSpoons, .ref a_t_firsts, .ref a_t_kinds, .ref a_t_values, .ref a_t_parts, .ref a_t_lastParts, .ref a_t_spoonPlaces, .int t_spoons, .int t_awaitsLetter, .int t_awaitsDigit])), (a_t_firsts, .inl (cT 2, 24, .inl t_firsts_132)), (a_t_kinds, .inl (cT 0, 24, .inl t_kinds_132)), (a_t_values, .inl (cT 0, 24, .inl t_values_132)), (a_t_parts, .inl (cT 0, 24, .inl t_parts_132)), (a_t_spoonPlaces, .inl (cT 0, 5, .inl (upd t_spoonPlaces (x6_132 - 1).toNatClampNeg t_tokens))), (a_t_lastParts, .inl (cT 0, 24, .inl (upd t_lastParts t_tokens.toNatClampNeg s2_132)))] := hD
      exact wB_151 t_firsts_132 t_kinds_132 (upd t_lastParts t_tokens.toNatClampNeg s2_132) t_parts_132 (upd t_spoonPlaces (x6_132 - 1).toNatClampNeg t_tokens) t_values_132 x6_132 _ _ _ h hP hD hS (lv_sub hl [0, 2] rfl)
  have wB_102 : ∀ (t_firsts_102 : Nat → Int32) (t_kinds_102 : Nat → Int32) (t_values_102 : Nat → Int32) (x6_102 : Int32) (s2_102 : Int32) (H : Heap) (locs : List Loc) (ls : Array Slot), g_X6_fitsToken_b102 t_tokens t_mostSpoons t_spoons t_parts t_spoonPlaces t_lastParts p4 p5 t_firsts_102 t_kinds_102 t_values_102 x6_102 s2_102 = some o → va_P (dC, dI) vwCl [(a_t, .inr (9, [.int t_tokens, .int t_stores, .int t_mostSpoons, .ref a_t_firsts, .ref a_t_kinds, .ref a_t_values, .ref a_t_parts, .ref a_t_lastParts, .ref a_t_spoonPlaces, .int t_spoons, .int t_awaitsLetter, .int t_awaitsDigit])), (a_t_firsts, .inl (cT 2, 24, .inl t_firsts_102)), (a_t_kinds, .inl (cT 0, 24, .inl t_kinds_102)), (a_t_values, .inl (cT 0, 24, .inl t_values_102)), (a_t_parts, .inl (cT 0, 24, .inl t_parts)), (a_t_spoonPlaces, .inl (cT 0, 5, .inl t_spoonPlaces)), (a_t_lastParts, .inl (cT 0, 24, .inl t_lastParts))] H → va_D A [(a_t, .inr (9, [.int t_tokens, .int t_stores, .int t_mostSpoons, .ref a_t_firsts, .ref a_t_kinds, .ref a_t_values, .ref a_t_parts, .ref a_t_lastParts, .ref a_t_spoonPlaces, .int t_spoons, .int t_awaitsLetter, .int t_awaitsDigit])), (a_t_firsts, .inl (cT 2, 24, .inl t_firsts_102)), (a_t_kinds, .inl (cT 0, 24, .inl t_kinds_102)), (a_t_values, .inl (cT 0, 24, .inl t_values_102)), (a_t_parts, .inl (cT 0, 24, .inl t_parts)), (a_t_spoonPlaces, .inl (cT 0, 5, .inl t_spoonPlaces)), (a_t_lastParts, .inl (cT 0, 24, .inl t_lastParts))] → va_S A s.heap H locs → lv_has ls 7 [(0, .ref a_t), (4, .int p4), (5, .int p5), (6, .int x6_102)] → W p l e ({ frames := 1, cells := 0, slots := 0, locals := 21 } : Room) s m [.ref a_t, .int p1, .int p2, .int p3, .int p4, .int p5].toArray below meth c H locs 0 0 Q (F0 m 102 ls [.int s2_102, .int t_tokens, .ref a_t_parts]) := by
    intro t_firsts_102 t_kinds_102 t_values_102 x6_102 s2_102 H locs ls h hP hD hS hl
    unfold g_X6_fitsToken_b102 at h
    obtain ⟨hc, h⟩ := gc_some h
    refine va_iast hx hb hK hP hD hS 4 0 rfl rfl (inb_in hc) dX6_fitsToken_102 (fun H locs hP hD hS => ?_)
    have hP : va_P (dC, dI) vwCl [(a_t, .inr (9, [.int t_tokens, .int t_stores, .int t_mostSpoons, .ref a_t_firsts, .ref a_t_kinds, .ref a_t_values, .ref a_t_parts, .ref a_t_lastParts, .ref a_t_spoonPlaces, .int t_spoons, .int t_awaitsLetter, .int t_awaitsDigit])), (a_t_firsts, .inl (cT 2, 24, .inl t_firsts_102)), (a_t_kinds, .inl (cT 0, 24, .inl t_kinds_102)), (a_t_values, .inl (cT 0, 24, .inl t_values_102)), (a_t_parts, .inl (cT 0, 24, .inl (upd t_parts t_tokens.toNatClampNeg s2_102))), (a_t_spoonPlaces, .inl (cT 0, 5, .inl t_spoonPlaces)), (a_t_lastParts, .inl (cT 0, 24, .inl t_lastParts))] H := hP
    have hD : va_D A [(a_t, .inr (9, [.int t_tokens, .int t_stores, .int t_mostSpoons, .ref a_t_firsts, .ref a_t_kinds, .ref a_t_values, .ref a_t_parts, .ref a_t_lastParts, .ref a_t_spoonPlaces, .int t_spoons, .int t_awaitsLetter, .int t_awaitsDigit])), (a_t_firsts, .inl (cT 2, 24, .inl t_firsts_102)), (a_t_kinds, .inl (cT 0, 24, .inl t_kinds_102)), (a_t_values, .inl (cT 0, 24, .inl t_values_102)), (a_t_parts, .inl (cT 0, 24, .inl (upd t_parts t_tokens.toNatClampNeg s2_102))), (a_t_spoonPlaces, .inl (cT 0, 5, .inl t_spoonPlaces)), (a_t_lastParts, .inl (cT 0, 24, .inl t_lastParts))] := hD
    refine lv_aload_n hx hb dX6_fitsToken_103 rfl (lv_at hl 0 rfl) ?_
    refine va_get (D := (dC, dI)) (ci := 9) (v := .ref a_t_lastParts) (C := RX6) (T := TX6) (N := 12) hx hb hta inX6w hown hK hP 0 rfl rfl 7 (by decide) (hta _ lk_X6_25) (fun _ h9 => h9) rfl dX6_fitsToken_104 ?_
    refine lv_aload_n hx hb dX6_fitsToken_107 rfl (lv_at hl 0 rfl) ?_
    refine va_get (D := (dC, dI)) (ci := 9) (v := .int t_tokens) (C := RX6) (T := TX6) (N := 12) hx hb hta inX6w hown hK hP 0 rfl rfl 0 (by decide) (hta _ lk_X6_31) (fun _ h9 => h9) rfl dX6_fitsToken_108 ?_
    refine lv_iload hx hb dX6_fitsToken_111 (lv_at hl 1 rfl) ?_
    refine lv_iconst (v := 1) hx hb dX6_fitsToken_113 (by decide) ?_
    refine lv_icmp_le (tgt := 131) hx hb dX6_fitsToken_114 (by decide) (fun c0 => ?_) (fun c0 => ?_)
    · have h := (if_pos c0).symm.trans h
      refine lv_iconst (v := -1) hx hb dX6_fitsToken_131 (by decide) ?_
      exact wB_132 t_firsts_102 t_kinds_102 (upd t_parts t_tokens.toNatClampNeg s2_102) t_values_102 x6_102 (-1) _ _ _ h hP hD hS (lv_sub hl [0, 2, 3] rfl)
    · have h := (if_neg c0).symm.trans h
      refine lv_aload_n hx hb dX6_fitsToken_117 rfl (lv_at hl 0 rfl) ?_
      refine va_get (D := (dC, dI)) (ci := 9) (v := .ref a_t_spoonPlaces) (C := RX6) (T := TX6) (N := 12) hx hb hta inX6w hown hK hP 0 rfl rfl 8 (by decide) (hta _ lk_X6_28) (fun _ h9 => h9) rfl dX6_fitsToken_118 ?_
      refine lv_aload_n hx hb dX6_fitsToken_121 rfl (lv_at hl 0 rfl) ?_
      refine va_get (D := (dC, dI)) (ci := 9) (v := .int t_spoons) (C := RX6) (T := TX6) (N := 12) hx hb hta inX6w hown hK hP 0 rfl rfl 9 (by decide) (hta _ lk_X6_41) (fun _ h9 => h9) rfl dX6_fitsToken_122 ?_
      refine lv_iconst (v := 1) hx hb dX6_fitsToken_125 (by decide) ?_
      refine lv_isub hx hb dX6_fitsToken_126 ?_
      obtain ⟨hc, h⟩ := gc_some h
      refine va_iald hx hb hK hP 5 0 rfl rfl (inb_in hc) dX6_fitsToken_127 ?_
      refine lv_goto (tgt := 132) hx hb dX6_fitsToken_128 (by decide) ?_
      exact wB_132 t_firsts_102 t_kinds_102 (upd t_parts t_tokens.toNatClampNeg s2_102) t_values_102 x6_102 (t_spoonPlaces (t_spoons - 1).toNatClampNeg) _ _ _ h hP hD hS (lv_sub hl [0, 2, 3] rfl)
  unfold g_X6_fitsToken at h
  refine lv_aload_n hx hb dX6_fitsToken_0 rfl (lv_at hl 0 rfl) ?_
  refine va_get (D := (dC, dI)) (ci := 9) (v := .int t_spoons) (C := RX6) (T := TX6) (N := 12) hx hb hta inX6w hown hK hP 0 rfl rfl 9 (by decide) (hta _ lk_X6_41) (fun _ h9 => h9) rfl dX6_fitsToken_1 ?_
  refine lv_iload hx hb dX6_fitsToken_4 (lv_at hl 4 rfl) ?_
  refine lv_isub hx hb dX6_fitsToken_6 ?_
  refine lv_iload hx hb dX6_fitsToken_7 (lv_at hl 5 rfl) ?_
  refine lv_iadd hx hb dX6_fitsToken_9 ?_
  refine lv_topi (fun v1 e_v1 => ?_)
  have h := gl_use e_v1 h
  refine lv_istore (lv' := [(6, .int v1), (0, .ref a_t), (1, .int p1), (2, .int p2), (3, .int p3), (4, .int p4), (5, .int p5)]) hx hb dX6_fitsToken_10 hl (by decide) rfl (fun ls hl => ?_)
  refine lv_aload_n hx hb dX6_fitsToken_12 rfl (lv_at hl 1 rfl) ?_
  refine va_get (D := (dC, dI)) (ci := 9) (v := .int t_spoons) (C := RX6) (T := TX6) (N := 12) hx hb hta inX6w hown hK hP 0 rfl rfl 9 (by decide) (hta _ lk_X6_41) (fun _ h9 => h9) rfl dX6_fitsToken_13 ?_
  refine lv_iload hx hb dX6_fitsToken_16 (lv_at hl 5 rfl) ?_
  refine lv_icmp_lt (tgt := 41) hx hb dX6_fitsToken_18 (by decide) (fun c0 => ?_) (fun c0 => ?_)
  · have h := (if_pos c0).symm.trans h
    refine lv_iconst (v := 0) hx hb dX6_fitsToken_41 (by decide) ?_
    have ho := Option.some.inj h
    rw [hQ]
    exact W.zret (ty := .boolean) (v := 0) hx hb hr rfl (fun t ht hW => ⟨⟨0, (), rfl, by rw [← ho], by show va_P (dC, dI) vwCl _ t.heap; rw [ht, ← ho]; exact hP⟩, hS.F ht⟩) hS.2.2 dX6_fitsToken_42
  · have h := (if_neg c0).symm.trans h
    refine lv_iload hx hb dX6_fitsToken_21 (lv_at hl 0 rfl) ?_
    refine lv_iconst (v := 5) hx hb dX6_fitsToken_23 (by decide) ?_
    refine lv_icmp_gt (tgt := 41) hx hb dX6_fitsToken_24 (by decide) (fun c0 => ?_) (fun c0 => ?_)
    · have h := (if_pos c0).symm.trans h
      refine lv_iconst (v := 0) hx hb dX6_fitsToken_41 (by decide) ?_
      have ho := Option.some.inj h
      rw [hQ]
      exact W.zret (ty := .boolean) (v := 0) hx hb hr rfl (fun t ht hW => ⟨⟨0, (), rfl, by rw [← ho], by show va_P (dC, dI) vwCl _ t.heap; rw [ht, ← ho]; exact hP⟩, hS.F ht⟩) hS.2.2 dX6_fitsToken_42
    · have h := (if_neg c0).symm.trans h
      refine lv_aload_n hx hb dX6_fitsToken_27 rfl (lv_at hl 1 rfl) ?_
      refine va_get (D := (dC, dI)) (ci := 9) (v := .int t_tokens) (C := RX6) (T := TX6) (N := 12) hx hb hta inX6w hown hK hP 0 rfl rfl 0 (by decide) (hta _ lk_X6_31) (fun _ h9 => h9) rfl dX6_fitsToken_28 ?_
      refine lv_iconst (v := 1) hx hb dX6_fitsToken_31 (by decide) ?_
      refine lv_iadd hx hb dX6_fitsToken_32 ?_
      refine lv_iload hx hb dX6_fitsToken_33 (lv_at hl 0 rfl) ?_
      refine lv_iadd hx hb dX6_fitsToken_35 ?_
      refine lv_bipush (v := 24) hx hb dX6_fitsToken_36 (by decide) ?_
      refine lv_icmp_le (tgt := 43) hx hb dX6_fitsToken_38 (by decide) (fun c0 => ?_) (fun c0 => ?_)
      · have h := (if_pos c0).symm.trans h
        refine lv_aload_n hx hb dX6_fitsToken_43 rfl (lv_at hl 1 rfl) ?_
        refine va_get (D := (dC, dI)) (ci := 9) (v := .ref a_t_firsts) (C := RX6) (T := TX6) (N := 12) hx hb hta inX6w hown hK hP 0 rfl rfl 3 (by decide) (hta _ lk_X6_9) (fun _ h9 => h9) rfl dX6_fitsToken_44 ?_
        refine lv_aload_n hx hb dX6_fitsToken_47 rfl (lv_at hl 1 rfl) ?_
        refine va_get (D := (dC, dI)) (ci := 9) (v := .int t_tokens) (C := RX6) (T := TX6) (N := 12) hx hb hta inX6w hown hK hP 0 rfl rfl 0 (by decide) (hta _ lk_X6_31) (fun _ h9 => h9) rfl dX6_fitsToken_48 ?_
        refine lv_iload_n hx hb dX6_fitsToken_51 rfl (lv_at hl 3 rfl) ?_
        obtain ⟨hc, h⟩ := gc_some h
        refine va_cast hx hb hK hP hD hS 1 2 rfl rfl (inb_in hc) dX6_fitsToken_52 (fun H locs hP hD hS => ?_)
        have hP : va_P (dC, dI) vwCl [(a_t, .inr (9, [.int t_tokens, .int t_stores, .int t_mostSpoons, .ref a_t_firsts, .ref a_t_kinds, .ref a_t_values, .ref a_t_parts, .ref a_t_lastParts, .ref a_t_spoonPlaces, .int t_spoons, .int t_awaitsLetter, .int t_awaitsDigit])), (a_t_firsts, .inl (cT 2, 24, .inl (upd t_firsts t_tokens.toNatClampNeg (vp_nar .char p2)))), (a_t_kinds, .inl (cT 0, 24, .inl t_kinds)), (a_t_values, .inl (cT 0, 24, .inl t_values)), (a_t_parts, .inl (cT 0, 24, .inl t_parts)), (a_t_spoonPlaces, .inl (cT 0, 5, .inl t_spoonPlaces)), (a_t_lastParts, .inl (cT 0, 24, .inl t_lastParts))] H := hP
        have hD : va_D A [(a_t, .inr (9, [.int t_tokens, .int t_stores, .int t_mostSpoons, .ref a_t_firsts, .ref a_t_kinds, .ref a_t_values, .ref a_t_parts, .ref a_t_lastParts, .ref a_t_spoonPlaces, .int t_spoons, .int t_awaitsLetter, .int t_awaitsDigit])), (a_t_firsts, .inl (cT 2, 24, .inl (upd t_firsts t_tokens.toNatClampNeg (vp_nar .char p2)))), (a_t_kinds, .inl (cT 0, 24, .inl t_kinds)), (a_t_values, .inl (cT 0, 24, .inl t_values)), (a_t_parts, .inl (cT 0, 24, .inl t_parts)), (a_t_spoonPlaces, .inl (cT 0, 5, .inl t_spoonPlaces)), (a_t_lastParts, .inl (cT 0, 24, .inl t_lastParts))] := hD
        refine lv_aload_n hx hb dX6_fitsToken_53 rfl (lv_at hl 1 rfl) ?_
        refine va_get (D := (dC, dI)) (ci := 9) (v := .ref a_t_kinds) (C := RX6) (T := TX6) (N := 12) hx hb hta inX6w hown hK hP 0 rfl rfl 4 (by decide) (hta _ lk_X6_15) (fun _ h9 => h9) rfl dX6_fitsToken_54 ?_
        refine lv_aload_n hx hb dX6_fitsToken_57 rfl (lv_at hl 1 rfl) ?_
        refine va_get (D := (dC, dI)) (ci := 9) (v := .int t_tokens) (C := RX6) (T := TX6) (N := 12) hx hb hta inX6w hown hK hP 0 rfl rfl 0 (by decide) (hta _ lk_X6_31) (fun _ h9 => h9) rfl dX6_fitsToken_58 ?_
        refine lv_iload_n hx hb dX6_fitsToken_61 rfl (lv_at hl 2 rfl) ?_
        obtain ⟨hc, h⟩ := gc_some h
        refine va_iast hx hb hK hP hD hS 2 0 rfl rfl (inb_in hc) dX6_fitsToken_62 (fun H locs hP hD hS => ?_)
        have hP : va_P (dC, dI) vwCl [(a_t, .inr (9, [.int t_tokens, .int t_stores, .int t_mostSpoons, .ref a_t_firsts, .ref a_t_kinds, .ref a_t_values, .ref a_t_parts, .ref a_t_lastParts, .ref a_t_spoonPlaces, .int t_spoons, .int t_awaitsLetter, .int t_awaitsDigit])), (a_t_firsts, .inl (cT 2, 24, .inl (upd t_firsts t_tokens.toNatClampNeg (vp_nar .char p2)))), (a_t_kinds, .inl (cT 0, 24, .inl (upd t_kinds t_tokens.toNatClampNeg p1))), (a_t_values, .inl (cT 0, 24, .inl t_values)), (a_t_parts, .inl (cT 0, 24, .inl t_parts)), (a_t_spoonPlaces, .inl (cT 0, 5, .inl t_spoonPlaces)), (a_t_lastParts, .inl (cT 0, 24, .inl t_lastParts))] H := hP
        have hD : va_D A [(a_t, .inr (9, [.int t_tokens, .int t_stores, .int t_mostSpoons, .ref a_t_firsts, .ref a_t_kinds, .ref a_t_values, .ref a_t_parts, .ref a_t_lastParts, .ref a_t_spoonPlaces, .int t_spoons, .int t_awaitsLetter, .int t_awaitsDigit])), (a_t_firsts, .inl (cT 2, 24, .inl (upd t_firsts t_tokens.toNatClampNeg (vp_nar .char p2)))), (a_t_kinds, .inl (cT 0, 24, .inl (upd t_kinds t_tokens.toNatClampNeg p1))), (a_t_values, .inl (cT 0, 24, .inl t_values)), (a_t_parts, .inl (cT 0, 24, .inl t_parts)), (a_t_spoonPlaces, .inl (cT 0, 5, .inl t_spoonPlaces)), (a_t_lastParts, .inl (cT 0, 24, .inl t_lastParts))] := hD
        refine lv_aload_n hx hb dX6_fitsToken_63 rfl (lv_at hl 1 rfl) ?_
        refine va_get (D := (dC, dI)) (ci := 9) (v := .ref a_t_values) (C := RX6) (T := TX6) (N := 12) hx hb hta inX6w hown hK hP 0 rfl rfl 5 (by decide) (hta _ lk_X6_19) (fun _ h9 => h9) rfl dX6_fitsToken_64 ?_
        refine lv_aload_n hx hb dX6_fitsToken_67 rfl (lv_at hl 1 rfl) ?_
        refine va_get (D := (dC, dI)) (ci := 9) (v := .int t_tokens) (C := RX6) (T := TX6) (N := 12) hx hb hta inX6w hown hK hP 0 rfl rfl 0 (by decide) (hta _ lk_X6_31) (fun _ h9 => h9) rfl dX6_fitsToken_68 ?_
        refine lv_iload_n hx hb dX6_fitsToken_71 rfl (lv_at hl 4 rfl) ?_
        obtain ⟨hc, h⟩ := gc_some h
        refine va_iast hx hb hK hP hD hS 3 0 rfl rfl (inb_in hc) dX6_fitsToken_72 (fun H locs hP hD hS => ?_)
        have hP : va_P (dC, dI) vwCl [(a_t, .inr (9, [.int t_tokens, .int t_stores, .int t_mostSpoons, .ref a_t_firsts, .ref a_t_kinds, .ref a_t_values, .ref a_t_parts, .ref a_t_lastParts, .ref a_t_spoonPlaces, .int t_spoons, .int t_awaitsLetter, .int t_awaitsDigit])), (a_t_firsts, .inl (cT 2, 24, .inl (upd t_firsts t_tokens.toNatClampNeg (vp_nar .char p2)))), (a_t_kinds, .inl (cT 0, 24, .inl (upd t_kinds t_tokens.toNatClampNeg p1))), (a_t_values, .inl (cT 0, 24, .inl (upd t_values t_tokens.toNatClampNeg p3))), (a_t_parts, .inl (cT 0, 24, .inl t_parts)), (a_t_spoonPlaces, .inl (cT 0, 5, .inl t_spoonPlaces)), (a_t_lastParts, .inl (cT 0, 24, .inl t_lastParts))] H := hP
        have hD : va_D A [(a_t, .inr (9, [.int t_tokens, .int t_stores, .int t_mostSpoons, .ref a_t_firsts, .ref a_t_kinds, .ref a_t_values, .ref a_t_parts, .ref a_t_lastParts, .ref a_t_spoonPlaces, .int t_spoons, .int t_awaitsLetter, .int t_awaitsDigit])), (a_t_firsts, .inl (cT 2, 24, .inl (upd t_firsts t_tokens.toNatClampNeg (vp_nar .char p2)))), (a_t_kinds, .inl (cT 0, 24, .inl (upd t_kinds t_tokens.toNatClampNeg p1))), (a_t_values, .inl (cT 0, 24, .inl (upd t_values t_tokens.toNatClampNeg p3))), (a_t_parts, .inl (cT 0, 24, .inl t_parts)), (a_t_spoonPlaces, .inl (cT 0, 5, .inl t_spoonPlaces)), (a_t_lastParts, .inl (cT 0, 24, .inl t_lastParts))] := hD
        refine lv_aload_n hx hb dX6_fitsToken_73 rfl (lv_at hl 1 rfl) ?_
        refine va_get (D := (dC, dI)) (ci := 9) (v := .ref a_t_parts) (C := RX6) (T := TX6) (N := 12) hx hb hta inX6w hown hK hP 0 rfl rfl 6 (by decide) (hta _ lk_X6_22) (fun _ h9 => h9) rfl dX6_fitsToken_74 ?_
        refine lv_aload_n hx hb dX6_fitsToken_77 rfl (lv_at hl 1 rfl) ?_
        refine va_get (D := (dC, dI)) (ci := 9) (v := .int t_tokens) (C := RX6) (T := TX6) (N := 12) hx hb hta inX6w hown hK hP 0 rfl rfl 0 (by decide) (hta _ lk_X6_31) (fun _ h9 => h9) rfl dX6_fitsToken_78 ?_
        refine lv_iload hx hb dX6_fitsToken_81 (lv_at hl 5 rfl) ?_
        refine lv_if_le (tgt := 101) hx hb dX6_fitsToken_83 (by decide) (fun c0 => ?_) (fun c0 => ?_)
        · have h := (if_pos c0).symm.trans h
          refine lv_iconst (v := -1) hx hb dX6_fitsToken_101 (by decide) ?_
          exact wB_102 (upd t_firsts t_tokens.toNatClampNeg (vp_nar .char p2)) (upd t_kinds t_tokens.toNatClampNeg p1) (upd t_values t_tokens.toNatClampNeg p3) v1 (-1) _ _ _ h hP hD hS (lv_sub hl [1, 5, 6, 0] rfl)
        · have h := (if_neg c0).symm.trans h
          refine lv_aload_n hx hb dX6_fitsToken_86 rfl (lv_at hl 1 rfl) ?_
          refine va_get (D := (dC, dI)) (ci := 9) (v := .ref a_t_spoonPlaces) (C := RX6) (T := TX6) (N := 12) hx hb hta inX6w hown hK hP 0 rfl rfl 8 (by decide) (hta _ lk_X6_28) (fun _ h9 => h9) rfl dX6_fitsToken_87 ?_
          refine lv_aload_n hx hb dX6_fitsToken_90 rfl (lv_at hl 1 rfl) ?_
          refine va_get (D := (dC, dI)) (ci := 9) (v := .int t_spoons) (C := RX6) (T := TX6) (N := 12) hx hb hta inX6w hown hK hP 0 rfl rfl 9 (by decide) (hta _ lk_X6_41) (fun _ h9 => h9) rfl dX6_fitsToken_91 ?_
          refine lv_iload hx hb dX6_fitsToken_94 (lv_at hl 5 rfl) ?_
          refine lv_isub hx hb dX6_fitsToken_96 ?_
          obtain ⟨hc, h⟩ := gc_some h
          refine va_iald hx hb hK hP 5 0 rfl rfl (inb_in hc) dX6_fitsToken_97 ?_
          refine lv_goto (tgt := 102) hx hb dX6_fitsToken_98 (by decide) ?_
          exact wB_102 (upd t_firsts t_tokens.toNatClampNeg (vp_nar .char p2)) (upd t_kinds t_tokens.toNatClampNeg p1) (upd t_values t_tokens.toNatClampNeg p3) v1 (t_spoonPlaces (t_spoons - p4).toNatClampNeg) _ _ _ h hP hD hS (lv_sub hl [1, 5, 6, 0] rfl)
      · have h := (if_neg c0).symm.trans h
        refine lv_iconst (v := 0) hx hb dX6_fitsToken_41 (by decide) ?_
        have ho := Option.some.inj h
        rw [hQ]
        exact W.zret (ty := .boolean) (v := 0) hx hb hr rfl (fun t ht hW => ⟨⟨0, (), rfl, by rw [← ho], by show va_P (dC, dI) vwCl _ t.heap; rw [ht, ← ho]; exact hP⟩, hS.F ht⟩) hS.2.2 dX6_fitsToken_42
set_option maxHeartbeats 4000000 in
set_option maxRecDepth 100000 in
theorem c_X6_fitsStore (l : Launch) (dC : Nat → ClassId) (dI : Nat → Nat → Nat) (cT : Nat → ClassId) {Hh : Heap} {a_t : Nat} {a_t_firsts : Nat} {a_t_kinds : Nat} {a_t_values : Nat} {a_t_parts : Nat} {a_t_spoonPlaces : Nat} {a_t_lastParts : Nat} {t_tokens : Int32} {t_stores : Int32} {t_mostSpoons : Int32} {t_spoons : Int32} {t_firsts : Nat → Int32} {t_kinds : Nat → Int32} {t_values : Nat → Int32} {t_parts : Nat → Int32} {t_spoonPlaces : Nat → Int32} {t_lastParts : Nat → Int32} {p1 : Int32} {t_awaitsLetter : Int32} {t_awaitsDigit : Int32} {o : Int32 × Int32 × Int32 × Int32 × Int32 × (Nat → Int32) × (Nat → Int32) × (Nat → Int32) × (Nat → Int32) × (Nat → Int32) × (Nat → Int32)} (h : g_X6_fitsStore t_tokens t_stores t_mostSpoons t_spoons t_firsts t_kinds t_values t_parts t_spoonPlaces t_lastParts p1 = some o) (hP0 : va_P (dC, dI) vwCl [(a_t, .inr (9, [.int t_tokens, .int t_stores, .int t_mostSpoons, .ref a_t_firsts, .ref a_t_kinds, .ref a_t_values, .ref a_t_parts, .ref a_t_lastParts, .ref a_t_spoonPlaces, .int t_spoons, .int t_awaitsLetter, .int t_awaitsDigit])), (a_t_firsts, .inl (cT 2, 24, .inl t_firsts)), (a_t_kinds, .inl (cT 0, 24, .inl t_kinds)), (a_t_values, .inl (cT 0, 24, .inl t_values)), (a_t_parts, .inl (cT 0, 24, .inl t_parts)), (a_t_spoonPlaces, .inl (cT 0, 5, .inl t_spoonPlaces)), (a_t_lastParts, .inl (cT 0, 24, .inl t_lastParts))] Hh) (hD0 : va_D (fun _ => True) [(a_t, .inr (9, [.int t_tokens, .int t_stores, .int t_mostSpoons, .ref a_t_firsts, .ref a_t_kinds, .ref a_t_values, .ref a_t_parts, .ref a_t_lastParts, .ref a_t_spoonPlaces, .int t_spoons, .int t_awaitsLetter, .int t_awaitsDigit])), (a_t_firsts, .inl (cT 2, 24, .inl t_firsts)), (a_t_kinds, .inl (cT 0, 24, .inl t_kinds)), (a_t_values, .inl (cT 0, 24, .inl t_values)), (a_t_parts, .inl (cT 0, 24, .inl t_parts)), (a_t_spoonPlaces, .inl (cT 0, 5, .inl t_spoonPlaces)), (a_t_lastParts, .inl (cT 0, 24, .inl t_lastParts))]) : Met l yX6_fitsStore (wA yX6_fitsStore cX6_fitsStore 2 (some .boolean)) ({ frames := 2, cells := 0, slots := 0, locals := 47 } : Room) (PK dC dI cT [.ref a_t, .int p1] Hh) (va_Qi (fun x (_ : Unit) => x = o.1) (fun _ t => va_P (dC, dI) vwCl [(a_t, .inr (9, [.int o.2.1, .int o.2.2.1, .int o.2.2.2.1, .ref a_t_firsts, .ref a_t_kinds, .ref a_t_values, .ref a_t_parts, .ref a_t_lastParts, .ref a_t_spoonPlaces, .int o.2.2.2.2.1, .int t_awaitsLetter, .int t_awaitsDigit])), (a_t_firsts, .inl (cT 2, 24, .inl o.2.2.2.2.2.1)), (a_t_kinds, .inl (cT 0, 24, .inl o.2.2.2.2.2.2.1)), (a_t_values, .inl (cT 0, 24, .inl o.2.2.2.2.2.2.2.1)), (a_t_parts, .inl (cT 0, 24, .inl o.2.2.2.2.2.2.2.2.1)), (a_t_spoonPlaces, .inl (cT 0, 5, .inl o.2.2.2.2.2.2.2.2.2.1)), (a_t_lastParts, .inl (cT 0, 24, .inl o.2.2.2.2.2.2.2.2.2.2))] t.heap) (va_A [(a_t, .inr (9, [.int t_tokens, .int t_stores, .int t_mostSpoons, .ref a_t_firsts, .ref a_t_kinds, .ref a_t_values, .ref a_t_parts, .ref a_t_lastParts, .ref a_t_spoonPlaces, .int t_spoons, .int t_awaitsLetter, .int t_awaitsDigit])), (a_t_firsts, .inl (cT 2, 24, .inl t_firsts)), (a_t_kinds, .inl (cT 0, 24, .inl t_kinds)), (a_t_values, .inl (cT 0, 24, .inl t_values)), (a_t_parts, .inl (cT 0, 24, .inl t_parts)), (a_t_spoonPlaces, .inl (cT 0, 5, .inl t_spoonPlaces)), (a_t_lastParts, .inl (cT 0, 24, .inl t_lastParts))] Hh.size)) 0 0 (va_A [(a_t, .inr (9, [.int t_tokens, .int t_stores, .int t_mostSpoons, .ref a_t_firsts, .ref a_t_kinds, .ref a_t_values, .ref a_t_parts, .ref a_t_lastParts, .ref a_t_spoonPlaces, .int t_spoons, .int t_awaitsLetter, .int t_awaitsDigit])), (a_t_firsts, .inl (cT 2, 24, .inl t_firsts)), (a_t_kinds, .inl (cT 0, 24, .inl t_kinds)), (a_t_values, .inl (cT 0, 24, .inl t_values)), (a_t_parts, .inl (cT 0, 24, .inl t_parts)), (a_t_spoonPlaces, .inl (cT 0, 5, .inl t_spoonPlaces)), (a_t_lastParts, .inl (cT 0, 24, .inl t_lastParts))] Hh.size) := by
  refine Met.ofW (cc := cX6_fitsStore) (maxL := 2) (ret := (some .boolean)) (by decide) rfl ?_
  intro p e s m args below meth c s₁ B hml hv
  obtain ⟨rfl, hH, hK⟩ := hv
  subst hH
  have hx := B.exec
  have hb := B.bytes
  have hr := B.returns
  have hta : ∀ w ∈ ALLW, w.before [.ref a_t, .int p1].toArray s = true := fun w hw => atoms_spec (ws := wA yX6_fitsStore cX6_fitsStore 2 (some .boolean)) B.pre w (List.mem_cons_of_mem _ hw)
  have hown : s.vm.findClass RX6 = some m.cls := findClass_of_methodNamed B.named
  have hlocks := B.notSynchronized
  have hD := hD0.self (sz := s.heap.size)
  generalize hAe : va_A [(a_t, .inr (9, [.int t_tokens, .int t_stores, .int t_mostSpoons, .ref a_t_firsts, .ref a_t_kinds, .ref a_t_values, .ref a_t_parts, .ref a_t_lastParts, .ref a_t_spoonPlaces, .int t_spoons, .int t_awaitsLetter, .int t_awaitsDigit])), (a_t_firsts, .inl (cT 2, 24, .inl t_firsts)), (a_t_kinds, .inl (cT 0, 24, .inl t_kinds)), (a_t_values, .inl (cT 0, 24, .inl t_values)), (a_t_parts, .inl (cT 0, 24, .inl t_parts)), (a_t_spoonPlaces, .inl (cT 0, 5, .inl t_spoonPlaces)), (a_t_lastParts, .inl (cT 0, 24, .inl t_lastParts))] s.heap.size = A at hD ⊢
  have hP := hP0
  have hA : ∀ q : Nat, s.heap.size ≤ q → A q := fun q h => by rw [← hAe]; exact Or.inr h
  have hS : va_S A s.heap s.heap [] := va_S.rf
  have hl := lv_entry [.ref a_t, .int p1] (n := 2) (Nat.le_of_ble_eq_true rfl)
  rw [lg_entry_eq]
  generalize (lg_sl [.ref a_t, .int p1] ++ List.replicate (2 - (lg_sl [.ref a_t, .int p1]).length) Slot.unset).toArray = ls at hl ⊢
  have hl : lv_has ls 2 [(0, .ref a_t), (1, .int p1)] := hl
  unfold g_X6_fitsStore at h
  refine lv_aload_n hx hb dX6_fitsStore_0 rfl (lv_at hl 0 rfl) ?_
  refine lv_dup hx hb dX6_fitsStore_1 rfl ?_
  refine va_get (D := (dC, dI)) (ci := 9) (v := .int t_stores) (C := RX6) (T := TX6) (N := 12) hx hb hta inX6w hown hK hP 0 rfl rfl 1 (by decide) (hta _ lk_X6_35) (fun _ h9 => h9) rfl dX6_fitsStore_2 ?_
  refine lv_iconst (v := 1) hx hb dX6_fitsStore_5 (by decide) ?_
  refine lv_iadd hx hb dX6_fitsStore_6 ?_
  refine lv_topi (fun v1 e_v1 => ?_)
  have h := gl_use e_v1 h
  refine va_put (D := (dC, dI)) (ci := 9) (v := .int v1) (ty := .int) (C := RX6) (T := TX6) (N := 12) hx hb hta inX6w tyX6 tyX6_ok nmX6 hown hK hP hD hS 0 rfl rfl 1 (by decide) (hta _ lk_X6_35) (fun _ h9 => h9) rfl (by decide +kernel) rfl rfl (Nat.le_of_ble_eq_true rfl) dX6_fitsStore_7 (fun H locs hP hD hS => ?_)
  have hP : va_P (dC, dI) vwCl [(a_t, .inr (9, [.int t_tokens, .int v1, .int t_mostSpoons, .ref a_t_firsts, .ref a_t_kinds, .ref a_t_values, .ref a_t_parts, .ref a_t_lastParts, .ref a_t_spoonPlaces, .int t_spoons, .int t_awaitsLetter, .int t_awaitsDigit])), (a_t_firsts, .inl (cT 2, 24, .inl t_firsts)), (a_t_kinds, .inl (cT 0, 24, .inl t_kinds)), (a_t_values, .inl (cT 0, 24, .inl t_values)), (a_t_parts, .inl (cT 0, 24, .inl t_parts)), (a_t_spoonPlaces, .inl (cT 0, 5, .inl t_spoonPlaces)), (a_t_lastParts, .inl (cT 0, 24, .inl t_lastParts))] H := hP
  have hD : va_D A [(a_t, .inr (9, [.int t_tokens, .int v1, .int t_mostSpoons, .ref a_t_firsts, .ref a_t_kinds, .ref a_t_values, .ref a_t_parts, .ref a_t_lastParts, .ref a_t_spoonPlaces, .int t_spoons, .int t_awaitsLetter, .int t_awaitsDigit])), (a_t_firsts, .inl (cT 2, 24, .inl t_firsts)), (a_t_kinds, .inl (cT 0, 24, .inl t_kinds)), (a_t_values, .inl (cT 0, 24, .inl t_values)), (a_t_parts, .inl (cT 0, 24, .inl t_parts)), (a_t_spoonPlaces, .inl (cT 0, 5, .inl t_spoonPlaces)), (a_t_lastParts, .inl (cT 0, 24, .inl t_lastParts))] := hD
  refine lv_aload_n hx hb dX6_fitsStore_10 rfl (lv_at hl 0 rfl) ?_
  refine lv_bipush (v := 7) hx hb dX6_fitsStore_11 (by decide) ?_
  refine lv_bipush (v := 61) hx hb dX6_fitsStore_13 (by decide) ?_
  refine lv_iload_n hx hb dX6_fitsStore_15 rfl (lv_at hl 1 rfl) ?_
  refine lv_iconst (v := 1) hx hb dX6_fitsStore_16 (by decide) ?_
  refine lv_iconst (v := 0) hx hb dX6_fitsStore_17 (by decide) ?_
  obtain ⟨r2, hq, h⟩ := gb_some h
  refine cxI (X2 := [(a_t, .inr (9, [.int r2.2.1, .int v1, .int r2.2.2.1, .ref a_t_firsts, .ref a_t_kinds, .ref a_t_values, .ref a_t_parts, .ref a_t_lastParts, .ref a_t_spoonPlaces, .int r2.2.2.2.1, .int t_awaitsLetter, .int t_awaitsDigit])), (a_t_firsts, .inl (cT 2, 24, .inl r2.2.2.2.2.1)), (a_t_kinds, .inl (cT 0, 24, .inl r2.2.2.2.2.2.1)), (a_t_values, .inl (cT 0, 24, .inl r2.2.2.2.2.2.2.1)), (a_t_parts, .inl (cT 0, 24, .inl r2.2.2.2.2.2.2.2.1)), (a_t_spoonPlaces, .inl (cT 0, 5, .inl r2.2.2.2.2.2.2.2.2.1)), (a_t_lastParts, .inl (cT 0, 24, .inl r2.2.2.2.2.2.2.2.2.2))]) (va_runV (As := [.int 7, .int 61, .int p1, .int 1, .int 0]) (rest := []) ⟨hx, hb, hml, hown, hta⟩ (c_X6_fitsToken l dC dI cT hq (hP.sub (ws' := [(a_t, .inr (9, [.int t_tokens, .int v1, .int t_mostSpoons, .ref a_t_firsts, .ref a_t_kinds, .ref a_t_values, .ref a_t_parts, .ref a_t_lastParts, .ref a_t_spoonPlaces, .int t_spoons, .int t_awaitsLetter, .int t_awaitsDigit])), (a_t_firsts, .inl (cT 2, 24, .inl t_firsts)), (a_t_kinds, .inl (cT 0, 24, .inl t_kinds)), (a_t_values, .inl (cT 0, 24, .inl t_values)), (a_t_parts, .inl (cT 0, 24, .inl t_parts)), (a_t_spoonPlaces, .inl (cT 0, 5, .inl t_spoonPlaces)), (a_t_lastParts, .inl (cT 0, 24, .inl t_lastParts))]) [0, 1, 2, 3, 4, 5, 6] rfl) (ds hD [0, 1, 2, 3, 4, 5, 6] (by decide) rfl)) (cV hta lm_X6_71 md_X6_fitsToken ⟨(Nat.le_of_ble_eq_true rfl), (Nat.le_of_ble_eq_true rfl)⟩) ⟨fbK, va_recv hK hP (ci := 9) (q0 := 0) rfl rfl, fun U hU hW => ⟨rfl, hU, va_K.moved hW.alike hK⟩⟩ rfl rfl hl.1 rfl (lv_room (Nat.le_of_ble_eq_true rfl)) dX6_fitsStore_18 ⟨(Nat.le_of_ble_eq_true rfl), (Nat.le_of_ble_eq_true rfl)⟩) hS hA hP hD [0, 1, 2, 3, 4, 5, 6] rfl [.inl 0, .inl 1, .inl 2, .inl 3, .inl 4, .inl 5, .inl 6] rfl rfl rfl (fun H locs hP hD hS => ?_)
  obtain ⟨hc, h⟩ := gc_some h
  have ho := Option.some.inj h
  exact W.zret (ty := .boolean) (v := r2.1) hx hb hr (bo_n hc) (fun t ht hW => ⟨⟨r2.1, (), rfl, by rw [← ho], by show va_P (dC, dI) vwCl _ t.heap; rw [ht, ← ho]; exact hP⟩, hS.F ht⟩) hS.2.2 dX6_fitsStore_21
set_option maxHeartbeats 4000000 in
set_option maxRecDepth 100000 in
theorem c_X6_fitsDigit (l : Launch) (dC : Nat → ClassId) (dI : Nat → Nat → Nat) (cT : Nat → ClassId) {Hh : Heap} {a_t : Nat} {a_t_values : Nat} {a_t_firsts : Nat} {a_t_kinds : Nat} {a_t_parts : Nat} {a_t_spoonPlaces : Nat} {a_t_lastParts : Nat} {t_tokens : Int32} {t_mostSpoons : Int32} {t_spoons : Int32} {t_awaitsDigit : Int32} {t_values : Nat → Int32} {t_firsts : Nat → Int32} {t_kinds : Nat → Int32} {t_parts : Nat → Int32} {t_spoonPlaces : Nat → Int32} {t_lastParts : Nat → Int32} {p1 : Int32} {t_stores : Int32} {t_awaitsLetter : Int32} {o : Int32 × Int32 × Int32 × Int32 × Int32 × (Nat → Int32) × (Nat → Int32) × (Nat → Int32) × (Nat → Int32) × (Nat → Int32) × (Nat → Int32)} (h : g_X6_fitsDigit t_tokens t_mostSpoons t_spoons t_awaitsDigit t_values t_firsts t_kinds t_parts t_spoonPlaces t_lastParts p1 = some o) (hP0 : va_P (dC, dI) vwCl [(a_t, .inr (9, [.int t_tokens, .int t_stores, .int t_mostSpoons, .ref a_t_firsts, .ref a_t_kinds, .ref a_t_values, .ref a_t_parts, .ref a_t_lastParts, .ref a_t_spoonPlaces, .int t_spoons, .int t_awaitsLetter, .int t_awaitsDigit])), (a_t_values, .inl (cT 0, 24, .inl t_values)), (a_t_firsts, .inl (cT 2, 24, .inl t_firsts)), (a_t_kinds, .inl (cT 0, 24, .inl t_kinds)), (a_t_parts, .inl (cT 0, 24, .inl t_parts)), (a_t_spoonPlaces, .inl (cT 0, 5, .inl t_spoonPlaces)), (a_t_lastParts, .inl (cT 0, 24, .inl t_lastParts))] Hh) (hD0 : va_D (fun _ => True) [(a_t, .inr (9, [.int t_tokens, .int t_stores, .int t_mostSpoons, .ref a_t_firsts, .ref a_t_kinds, .ref a_t_values, .ref a_t_parts, .ref a_t_lastParts, .ref a_t_spoonPlaces, .int t_spoons, .int t_awaitsLetter, .int t_awaitsDigit])), (a_t_values, .inl (cT 0, 24, .inl t_values)), (a_t_firsts, .inl (cT 2, 24, .inl t_firsts)), (a_t_kinds, .inl (cT 0, 24, .inl t_kinds)), (a_t_parts, .inl (cT 0, 24, .inl t_parts)), (a_t_spoonPlaces, .inl (cT 0, 5, .inl t_spoonPlaces)), (a_t_lastParts, .inl (cT 0, 24, .inl t_lastParts))]) : Met l yX6_fitsDigit (wA yX6_fitsDigit cX6_fitsDigit 4 (some .boolean)) ({ frames := 2, cells := 0, slots := 0, locals := 47 } : Room) (PK dC dI cT [.ref a_t, .int p1] Hh) (va_Qi (fun x (_ : Unit) => x = o.1) (fun _ t => va_P (dC, dI) vwCl [(a_t, .inr (9, [.int o.2.1, .int t_stores, .int o.2.2.1, .ref a_t_firsts, .ref a_t_kinds, .ref a_t_values, .ref a_t_parts, .ref a_t_lastParts, .ref a_t_spoonPlaces, .int o.2.2.2.1, .int t_awaitsLetter, .int o.2.2.2.2.1])), (a_t_values, .inl (cT 0, 24, .inl o.2.2.2.2.2.1)), (a_t_firsts, .inl (cT 2, 24, .inl o.2.2.2.2.2.2.1)), (a_t_kinds, .inl (cT 0, 24, .inl o.2.2.2.2.2.2.2.1)), (a_t_parts, .inl (cT 0, 24, .inl o.2.2.2.2.2.2.2.2.1)), (a_t_spoonPlaces, .inl (cT 0, 5, .inl o.2.2.2.2.2.2.2.2.2.1)), (a_t_lastParts, .inl (cT 0, 24, .inl o.2.2.2.2.2.2.2.2.2.2))] t.heap) (va_A [(a_t, .inr (9, [.int t_tokens, .int t_stores, .int t_mostSpoons, .ref a_t_firsts, .ref a_t_kinds, .ref a_t_values, .ref a_t_parts, .ref a_t_lastParts, .ref a_t_spoonPlaces, .int t_spoons, .int t_awaitsLetter, .int t_awaitsDigit])), (a_t_values, .inl (cT 0, 24, .inl t_values)), (a_t_firsts, .inl (cT 2, 24, .inl t_firsts)), (a_t_kinds, .inl (cT 0, 24, .inl t_kinds)), (a_t_parts, .inl (cT 0, 24, .inl t_parts)), (a_t_spoonPlaces, .inl (cT 0, 5, .inl t_spoonPlaces)), (a_t_lastParts, .inl (cT 0, 24, .inl t_lastParts))] Hh.size)) 0 0 (va_A [(a_t, .inr (9, [.int t_tokens, .int t_stores, .int t_mostSpoons, .ref a_t_firsts, .ref a_t_kinds, .ref a_t_values, .ref a_t_parts, .ref a_t_lastParts, .ref a_t_spoonPlaces, .int t_spoons, .int t_awaitsLetter, .int t_awaitsDigit])), (a_t_values, .inl (cT 0, 24, .inl t_values)), (a_t_firsts, .inl (cT 2, 24, .inl t_firsts)), (a_t_kinds, .inl (cT 0, 24, .inl t_kinds)), (a_t_parts, .inl (cT 0, 24, .inl t_parts)), (a_t_spoonPlaces, .inl (cT 0, 5, .inl t_spoonPlaces)), (a_t_lastParts, .inl (cT 0, 24, .inl t_lastParts))] Hh.size) := by
  refine Met.ofW (cc := cX6_fitsDigit) (maxL := 4) (ret := (some .boolean)) (by decide) rfl ?_
  intro p e s m args below meth c s₁ B hml hv
  obtain ⟨rfl, hH, hK⟩ := hv
  subst hH
  have hx := B.exec
  have hb := B.bytes
  have hr := B.returns
  have hta : ∀ w ∈ ALLW, w.before [.ref a_t, .int p1].toArray s = true := fun w hw => atoms_spec (ws := wA yX6_fitsDigit cX6_fitsDigit 4 (some .boolean)) B.pre w (List.mem_cons_of_mem _ hw)
  have hown : s.vm.findClass RX6 = some m.cls := findClass_of_methodNamed B.named
  have hlocks := B.notSynchronized
  have hD := hD0.self (sz := s.heap.size)
  generalize hAe : va_A [(a_t, .inr (9, [.int t_tokens, .int t_stores, .int t_mostSpoons, .ref a_t_firsts, .ref a_t_kinds, .ref a_t_values, .ref a_t_parts, .ref a_t_lastParts, .ref a_t_spoonPlaces, .int t_spoons, .int t_awaitsLetter, .int t_awaitsDigit])), (a_t_values, .inl (cT 0, 24, .inl t_values)), (a_t_firsts, .inl (cT 2, 24, .inl t_firsts)), (a_t_kinds, .inl (cT 0, 24, .inl t_kinds)), (a_t_parts, .inl (cT 0, 24, .inl t_parts)), (a_t_spoonPlaces, .inl (cT 0, 5, .inl t_spoonPlaces)), (a_t_lastParts, .inl (cT 0, 24, .inl t_lastParts))] s.heap.size = A at hD ⊢
  have hP := hP0
  have hA : ∀ q : Nat, s.heap.size ≤ q → A q := fun q h => by rw [← hAe]; exact Or.inr h
  have hS : va_S A s.heap s.heap [] := va_S.rf
  have hl := lv_entry [.ref a_t, .int p1] (n := 4) (Nat.le_of_ble_eq_true rfl)
  rw [lg_entry_eq]
  generalize (lg_sl [.ref a_t, .int p1] ++ List.replicate (4 - (lg_sl [.ref a_t, .int p1]).length) Slot.unset).toArray = ls at hl ⊢
  have hl : lv_has ls 4 [(0, .ref a_t), (1, .int p1)] := hl
  obtain ⟨Q, hQ⟩ : ∃ Q, Q = MQ below (va_Qi (fun x (_ : Unit) => x = o.1) (fun _ t => va_P (dC, dI) vwCl [(a_t, .inr (9, [.int o.2.1, .int t_stores, .int o.2.2.1, .ref a_t_firsts, .ref a_t_kinds, .ref a_t_values, .ref a_t_parts, .ref a_t_lastParts, .ref a_t_spoonPlaces, .int o.2.2.2.1, .int t_awaitsLetter, .int o.2.2.2.2.1])), (a_t_values, .inl (cT 0, 24, .inl o.2.2.2.2.2.1)), (a_t_firsts, .inl (cT 2, 24, .inl o.2.2.2.2.2.2.1)), (a_t_kinds, .inl (cT 0, 24, .inl o.2.2.2.2.2.2.2.1)), (a_t_parts, .inl (cT 0, 24, .inl o.2.2.2.2.2.2.2.2.1)), (a_t_spoonPlaces, .inl (cT 0, 5, .inl o.2.2.2.2.2.2.2.2.2.1)), (a_t_lastParts, .inl (cT 0, 24, .inl o.2.2.2.2.2.2.2.2.2.2))] t.heap) A) [.ref a_t, .int p1].toArray s 0 0 A := ⟨_, rfl⟩
  rw [← hQ]
  have wB_53 : ∀ (x2_53 : Int32) (H : Heap) (locs : List Loc) (ls : Array Slot), g_X6_fitsDigit_b53 t_tokens t_mostSpoons t_spoons t_values t_firsts t_kinds t_parts t_spoonPlaces t_lastParts p1 x2_53 = some o → va_P (dC, dI) vwCl [(a_t, .inr (9, [.int t_tokens, .int t_stores, .int t_mostSpoons, .ref a_t_firsts, .ref a_t_kinds, .ref a_t_values, .ref a_t_parts, .ref a_t_lastParts, .ref a_t_spoonPlaces, .int t_spoons, .int t_awaitsLetter, .int t_awaitsDigit])), (a_t_values, .inl (cT 0, 24, .inl t_values)), (a_t_firsts, .inl (cT 2, 24, .inl t_firsts)), (a_t_kinds, .inl (cT 0, 24, .inl t_kinds)), (a_t_parts, .inl (cT 0, 24, .inl t_parts)), (a_t_spoonPlaces, .inl (cT 0, 5, .inl t_spoonPlaces)), (a_t_lastParts, .inl (cT 0, 24, .inl t_lastParts))] H → va_D A [(a_t, .inr (9, [.int t_tokens, .int t_stores, .int t_mostSpoons, .ref a_t_firsts, .ref a_t_kinds, .ref a_t_values, .ref a_t_parts, .ref a_t_lastParts, .ref a_t_spoonPlaces, .int t_spoons, .int t_awaitsLetter, .int t_awaitsDigit])), (a_t_values, .inl (cT 0, 24, .inl t_values)), (a_t_firsts, .inl (cT 2, 24, .inl t_firsts)), (a_t_kinds, .inl (cT 0, 24, .inl t_kinds)), (a_t_parts, .inl (cT 0, 24, .inl t_parts)), (a_t_spoonPlaces, .inl (cT 0, 5, .inl t_spoonPlaces)), (a_t_lastParts, .inl (cT 0, 24, .inl t_lastParts))] → va_S A s.heap H locs → lv_has ls 4 [(0, .ref a_t), (1, .int p1), (2, .int x2_53)] → W p l e ({ frames := 2, cells := 0, slots := 0, locals := 47 } : Room) s m [.ref a_t, .int p1].toArray below meth c H locs 0 0 Q (F0 m 53 ls []) := by
    intro x2_53 H locs ls h hP hD hS hl
    unfold g_X6_fitsDigit_b53 at h
    refine lv_aload_n hx hb dX6_fitsDigit_53 rfl (lv_at hl 0 rfl) ?_
    refine lv_iconst (v := 1) hx hb dX6_fitsDigit_54 (by decide) ?_
    refine va_put (D := (dC, dI)) (ci := 9) (v := .int 1) (ty := .boolean) (C := RX6) (T := TX6) (N := 12) hx hb hta inX6w tyX6 tyX6_ok nmX6 hown hK hP hD hS 0 rfl rfl 11 (by decide) (hta _ lk_X6_48) (fun _ h9 => h9) rfl (by decide +kernel) rfl rfl (Nat.le_of_ble_eq_true rfl) dX6_fitsDigit_55 (fun H locs hP hD hS => ?_)
    have hP : va_P (dC, dI) vwCl [(a_t, .inr (9, [.int t_tokens, .int t_stores, .int t_mostSpoons, .ref a_t_firsts, .ref a_t_kinds, .ref a_t_values, .ref a_t_parts, .ref a_t_lastParts, .ref a_t_spoonPlaces, .int t_spoons, .int t_awaitsLetter, .int 1])), (a_t_values, .inl (cT 0, 24, .inl t_values)), (a_t_firsts, .inl (cT 2, 24, .inl t_firsts)), (a_t_kinds, .inl (cT 0, 24, .inl t_kinds)), (a_t_parts, .inl (cT 0, 24, .inl t_parts)), (a_t_spoonPlaces, .inl (cT 0, 5, .inl t_spoonPlaces)), (a_t_lastParts, .inl (cT 0, 24, .inl t_lastParts))] H := hP
    have hD : va_D A [(a_t, .inr (9, [.int t_tokens, .int t_stores, .int t_mostSpoons, .ref a_t_firsts, .ref a_t_kinds, .ref a_t_values, .ref a_t_parts, .ref a_t_lastParts, .ref a_t_spoonPlaces, .int t_spoons, .int t_awaitsLetter, .int 1])), (a_t_values, .inl (cT 0, 24, .inl t_values)), (a_t_firsts, .inl (cT 2, 24, .inl t_firsts)), (a_t_kinds, .inl (cT 0, 24, .inl t_kinds)), (a_t_parts, .inl (cT 0, 24, .inl t_parts)), (a_t_spoonPlaces, .inl (cT 0, 5, .inl t_spoonPlaces)), (a_t_lastParts, .inl (cT 0, 24, .inl t_lastParts))] := hD
    refine lv_aload_n hx hb dX6_fitsDigit_58 rfl (lv_at hl 0 rfl) ?_
    refine lv_iconst (v := 1) hx hb dX6_fitsDigit_59 (by decide) ?_
    refine lv_iload_n hx hb dX6_fitsDigit_60 rfl (lv_at hl 1 rfl) ?_
    refine lv_iload_n hx hb dX6_fitsDigit_61 rfl (lv_at hl 2 rfl) ?_
    refine lv_iconst (v := 0) hx hb dX6_fitsDigit_62 (by decide) ?_
    refine lv_iconst (v := 1) hx hb dX6_fitsDigit_63 (by decide) ?_
    obtain ⟨r3, hq, h⟩ := gb_some h
    refine cxI (X2 := [(a_t, .inr (9, [.int r3.2.1, .int t_stores, .int r3.2.2.1, .ref a_t_firsts, .ref a_t_kinds, .ref a_t_values, .ref a_t_parts, .ref a_t_lastParts, .ref a_t_spoonPlaces, .int r3.2.2.2.1, .int t_awaitsLetter, .int 1])), (a_t_values, .inl (cT 0, 24, .inl r3.2.2.2.2.2.2.1)), (a_t_firsts, .inl (cT 2, 24, .inl r3.2.2.2.2.1)), (a_t_kinds, .inl (cT 0, 24, .inl r3.2.2.2.2.2.1)), (a_t_parts, .inl (cT 0, 24, .inl r3.2.2.2.2.2.2.2.1)), (a_t_spoonPlaces, .inl (cT 0, 5, .inl r3.2.2.2.2.2.2.2.2.1)), (a_t_lastParts, .inl (cT 0, 24, .inl r3.2.2.2.2.2.2.2.2.2))]) (va_runV (As := [.int 1, .int p1, .int x2_53, .int 0, .int 1]) (rest := []) ⟨hx, hb, hml, hown, hta⟩ (c_X6_fitsToken l dC dI cT hq (hP.sub (ws' := [(a_t, .inr (9, [.int t_tokens, .int t_stores, .int t_mostSpoons, .ref a_t_firsts, .ref a_t_kinds, .ref a_t_values, .ref a_t_parts, .ref a_t_lastParts, .ref a_t_spoonPlaces, .int t_spoons, .int t_awaitsLetter, .int 1])), (a_t_firsts, .inl (cT 2, 24, .inl t_firsts)), (a_t_kinds, .inl (cT 0, 24, .inl t_kinds)), (a_t_values, .inl (cT 0, 24, .inl t_values)), (a_t_parts, .inl (cT 0, 24, .inl t_parts)), (a_t_spoonPlaces, .inl (cT 0, 5, .inl t_spoonPlaces)), (a_t_lastParts, .inl (cT 0, 24, .inl t_lastParts))]) [0, 2, 3, 1, 4, 5, 6] rfl) (ds hD [0, 2, 3, 1, 4, 5, 6] (by decide) rfl)) (cV hta lm_X6_71 md_X6_fitsToken ⟨(Nat.le_of_ble_eq_true rfl), (Nat.le_of_ble_eq_true rfl)⟩) ⟨fbK, va_recv hK hP (ci := 9) (q0 := 0) rfl rfl, fun U hU hW => ⟨rfl, hU, va_K.moved hW.alike hK⟩⟩ rfl rfl hl.1 rfl (lv_room (Nat.le_of_ble_eq_true rfl)) dX6_fitsDigit_64 ⟨(Nat.le_of_ble_eq_true rfl), (Nat.le_of_ble_eq_true rfl)⟩) hS hA hP hD [0, 2, 3, 1, 4, 5, 6] rfl [.inl 0, .inl 3, .inl 1, .inl 2, .inl 4, .inl 5, .inl 6] rfl rfl rfl (fun H locs hP hD hS => ?_)
    obtain ⟨hc, h⟩ := gc_some h
    have ho := Option.some.inj h
    rw [hQ]
    exact W.zret (ty := .boolean) (v := r3.1) hx hb hr (bo_n hc) (fun t ht hW => ⟨⟨r3.1, (), rfl, by rw [← ho], by show va_P (dC, dI) vwCl _ t.heap; rw [ht, ← ho]; exact hP⟩, hS.F ht⟩) hS.2.2 dX6_fitsDigit_67
  unfold g_X6_fitsDigit at h
  refine lv_iload_n hx hb dX6_fitsDigit_0 rfl (lv_at hl 1 rfl) ?_
  refine lv_bipush (v := 48) hx hb dX6_fitsDigit_1 (by decide) ?_
  refine lv_isub hx hb dX6_fitsDigit_3 ?_
  refine lv_topi (fun v1 e_v1 => ?_)
  have h := gl_use e_v1 h
  refine lv_istore_n (lv' := [(2, .int v1), (0, .ref a_t), (1, .int p1)]) hx hb dX6_fitsDigit_4 rfl hl (by decide) rfl (fun ls hl => ?_)
  refine lv_aload_n hx hb dX6_fitsDigit_5 rfl (lv_at hl 1 rfl) ?_
  refine va_get (D := (dC, dI)) (ci := 9) (v := .int t_tokens) (C := RX6) (T := TX6) (N := 12) hx hb hta inX6w hown hK hP 0 rfl rfl 0 (by decide) (hta _ lk_X6_31) (fun _ h9 => h9) rfl dX6_fitsDigit_6 ?_
  refine lv_iconst (v := 1) hx hb dX6_fitsDigit_9 (by decide) ?_
  refine lv_isub hx hb dX6_fitsDigit_10 ?_
  refine lv_topi (fun v2 e_v2 => ?_)
  have h := gl_use e_v2 h
  refine lv_istore_n (lv' := [(3, .int v2), (2, .int v1), (0, .ref a_t), (1, .int p1)]) hx hb dX6_fitsDigit_11 rfl hl (by decide) rfl (fun ls hl => ?_)
  refine lv_aload_n hx hb dX6_fitsDigit_12 rfl (lv_at hl 2 rfl) ?_
  refine va_get (D := (dC, dI)) (ci := 9) (v := .int t_awaitsDigit) (C := RX6) (T := TX6) (N := 12) hx hb hta inX6w hown hK hP 0 rfl rfl 11 (by decide) (hta _ lk_X6_48) (fun _ h9 => h9) rfl dX6_fitsDigit_13 ?_
  refine lv_if_eq (tgt := 53) hx hb dX6_fitsDigit_16 (by decide) (fun c0 => ?_) (fun c0 => ?_)
  · have h := (if_pos c0).symm.trans h
    exact wB_53 v1 _ _ _ h hP hD hS (lv_sub hl [2, 3, 1] rfl)
  · have h := (if_neg c0).symm.trans h
    refine lv_iload_n hx hb dX6_fitsDigit_19 rfl (lv_at hl 0 rfl) ?_
    refine lv_if_lt (tgt := 53) hx hb dX6_fitsDigit_20 (by decide) (fun c0 => ?_) (fun c0 => ?_)
    · have h := (if_pos c0).symm.trans h
      exact wB_53 v1 _ _ _ h hP hD hS (lv_sub hl [2, 3, 1] rfl)
    · have h := (if_neg c0).symm.trans h
      refine lv_iload_n hx hb dX6_fitsDigit_23 rfl (lv_at hl 0 rfl) ?_
      refine lv_bipush (v := 24) hx hb dX6_fitsDigit_24 (by decide) ?_
      refine lv_icmp_ge (tgt := 53) hx hb dX6_fitsDigit_26 (by decide) (fun c0 => ?_) (fun c0 => ?_)
      · have h := (if_pos c0).symm.trans h
        exact wB_53 v1 _ _ _ h hP hD hS (lv_sub hl [2, 3, 1] rfl)
      · have h := (if_neg c0).symm.trans h
        refine lv_aload_n hx hb dX6_fitsDigit_29 rfl (lv_at hl 2 rfl) ?_
        refine lv_iconst (v := 0) hx hb dX6_fitsDigit_30 (by decide) ?_
        refine va_put (D := (dC, dI)) (ci := 9) (v := .int 0) (ty := .boolean) (C := RX6) (T := TX6) (N := 12) hx hb hta inX6w tyX6 tyX6_ok nmX6 hown hK hP hD hS 0 rfl rfl 11 (by decide) (hta _ lk_X6_48) (fun _ h9 => h9) rfl (by decide +kernel) rfl rfl (Nat.le_of_ble_eq_true rfl) dX6_fitsDigit_31 (fun H locs hP hD hS => ?_)
        have hP : va_P (dC, dI) vwCl [(a_t, .inr (9, [.int t_tokens, .int t_stores, .int t_mostSpoons, .ref a_t_firsts, .ref a_t_kinds, .ref a_t_values, .ref a_t_parts, .ref a_t_lastParts, .ref a_t_spoonPlaces, .int t_spoons, .int t_awaitsLetter, .int 0])), (a_t_values, .inl (cT 0, 24, .inl t_values)), (a_t_firsts, .inl (cT 2, 24, .inl t_firsts)), (a_t_kinds, .inl (cT 0, 24, .inl t_kinds)), (a_t_parts, .inl (cT 0, 24, .inl t_parts)), (a_t_spoonPlaces, .inl (cT 0, 5, .inl t_spoonPlaces)), (a_t_lastParts, .inl (cT 0, 24, .inl t_lastParts))] H := hP
        have hD : va_D A [(a_t, .inr (9, [.int t_tokens, .int t_stores, .int t_mostSpoons, .ref a_t_firsts, .ref a_t_kinds, .ref a_t_values, .ref a_t_parts, .ref a_t_lastParts, .ref a_t_spoonPlaces, .int t_spoons, .int t_awaitsLetter, .int 0])), (a_t_values, .inl (cT 0, 24, .inl t_values)), (a_t_firsts, .inl (cT 2, 24, .inl t_firsts)), (a_t_kinds, .inl (cT 0, 24, .inl t_kinds)), (a_t_parts, .inl (cT 0, 24, .inl t_parts)), (a_t_spoonPlaces, .inl (cT 0, 5, .inl t_spoonPlaces)), (a_t_lastParts, .inl (cT 0, 24, .inl t_lastParts))] := hD
        refine lv_aload_n hx hb dX6_fitsDigit_34 rfl (lv_at hl 2 rfl) ?_
        refine va_get (D := (dC, dI)) (ci := 9) (v := .ref a_t_values) (C := RX6) (T := TX6) (N := 12) hx hb hta inX6w hown hK hP 0 rfl rfl 5 (by decide) (hta _ lk_X6_19) (fun _ h9 => h9) rfl dX6_fitsDigit_35 ?_
        refine lv_iload_n hx hb dX6_fitsDigit_38 rfl (lv_at hl 0 rfl) ?_
        refine lv_aload_n hx hb dX6_fitsDigit_39 rfl (lv_at hl 2 rfl) ?_
        refine va_get (D := (dC, dI)) (ci := 9) (v := .ref a_t_values) (C := RX6) (T := TX6) (N := 12) hx hb hta inX6w hown hK hP 0 rfl rfl 5 (by decide) (hta _ lk_X6_19) (fun _ h9 => h9) rfl dX6_fitsDigit_40 ?_
        refine lv_iload_n hx hb dX6_fitsDigit_43 rfl (lv_at hl 0 rfl) ?_
        obtain ⟨hc, h⟩ := gc_some h
        refine va_iald hx hb hK hP 1 0 rfl rfl (inb_in hc) dX6_fitsDigit_44 ?_
        refine lv_bipush (v := 10) hx hb dX6_fitsDigit_45 (by decide) ?_
        refine lv_imul hx hb dX6_fitsDigit_47 ?_
        refine lv_iload_n hx hb dX6_fitsDigit_48 rfl (lv_at hl 1 rfl) ?_
        refine lv_iadd hx hb dX6_fitsDigit_49 ?_
        obtain ⟨hc, h⟩ := gc_some h
        refine va_iast hx hb hK hP hD hS 1 0 rfl rfl (inb_in hc) dX6_fitsDigit_50 (fun H locs hP hD hS => ?_)
        have hP : va_P (dC, dI) vwCl [(a_t, .inr (9, [.int t_tokens, .int t_stores, .int t_mostSpoons, .ref a_t_firsts, .ref a_t_kinds, .ref a_t_values, .ref a_t_parts, .ref a_t_lastParts, .ref a_t_spoonPlaces, .int t_spoons, .int t_awaitsLetter, .int 0])), (a_t_values, .inl (cT 0, 24, .inl (upd t_values v2.toNatClampNeg (((t_values v2.toNatClampNeg) * 10) + v1)))), (a_t_firsts, .inl (cT 2, 24, .inl t_firsts)), (a_t_kinds, .inl (cT 0, 24, .inl t_kinds)), (a_t_parts, .inl (cT 0, 24, .inl t_parts)), (a_t_spoonPlaces, .inl (cT 0, 5, .inl t_spoonPlaces)), (a_t_lastParts, .inl (cT 0, 24, .inl t_lastParts))] H := hP
        have hD : va_D A [(a_t, .inr (9, [.int t_tokens, .int t_stores, .int t_mostSpoons, .ref a_t_firsts, .ref a_t_kinds, .ref a_t_values, .ref a_t_parts, .ref a_t_lastParts, .ref a_t_spoonPlaces, .int t_spoons, .int t_awaitsLetter, .int 0])), (a_t_values, .inl (cT 0, 24, .inl (upd t_values v2.toNatClampNeg (((t_values v2.toNatClampNeg) * 10) + v1)))), (a_t_firsts, .inl (cT 2, 24, .inl t_firsts)), (a_t_kinds, .inl (cT 0, 24, .inl t_kinds)), (a_t_parts, .inl (cT 0, 24, .inl t_parts)), (a_t_spoonPlaces, .inl (cT 0, 5, .inl t_spoonPlaces)), (a_t_lastParts, .inl (cT 0, 24, .inl t_lastParts))] := hD
        refine lv_iconst (v := 1) hx hb dX6_fitsDigit_51 (by decide) ?_
        have ho := Option.some.inj h
        rw [hQ]
        exact W.zret (ty := .boolean) (v := 1) hx hb hr rfl (fun t ht hW => ⟨⟨1, (), rfl, by rw [← ho], by show va_P (dC, dI) vwCl _ t.heap; rw [ht, ← ho]; exact hP⟩, hS.F ht⟩) hS.2.2 dX6_fitsDigit_52
set_option maxHeartbeats 4000000 in
set_option maxRecDepth 100000 in
theorem c_X6_fits (l : Launch) (dC : Nat → ClassId) (dI : Nat → Nat → Nat) (cT : Nat → ClassId) {Hh : Heap} {a_t : Nat} {a_t_values : Nat} {a_t_firsts : Nat} {a_t_kinds : Nat} {a_t_parts : Nat} {a_t_spoonPlaces : Nat} {a_t_lastParts : Nat} {t_tokens : Int32} {t_stores : Int32} {t_mostSpoons : Int32} {t_spoons : Int32} {t_awaitsLetter : Int32} {t_awaitsDigit : Int32} {t_values : Nat → Int32} {t_firsts : Nat → Int32} {t_kinds : Nat → Int32} {t_parts : Nat → Int32} {t_spoonPlaces : Nat → Int32} {t_lastParts : Nat → Int32} {p1 : Int32} {o : Int32 × Int32 × Int32 × Int32 × Int32 × Int32 × Int32 × (Nat → Int32) × (Nat → Int32) × (Nat → Int32) × (Nat → Int32) × (Nat → Int32) × (Nat → Int32)} (h : g_X6_fits t_tokens t_stores t_mostSpoons t_spoons t_awaitsLetter t_awaitsDigit t_values t_firsts t_kinds t_parts t_spoonPlaces t_lastParts p1 = some o) (hP0 : va_P (dC, dI) vwCl [(a_t, .inr (9, [.int t_tokens, .int t_stores, .int t_mostSpoons, .ref a_t_firsts, .ref a_t_kinds, .ref a_t_values, .ref a_t_parts, .ref a_t_lastParts, .ref a_t_spoonPlaces, .int t_spoons, .int t_awaitsLetter, .int t_awaitsDigit])), (a_t_values, .inl (cT 0, 24, .inl t_values)), (a_t_firsts, .inl (cT 2, 24, .inl t_firsts)), (a_t_kinds, .inl (cT 0, 24, .inl t_kinds)), (a_t_parts, .inl (cT 0, 24, .inl t_parts)), (a_t_spoonPlaces, .inl (cT 0, 5, .inl t_spoonPlaces)), (a_t_lastParts, .inl (cT 0, 24, .inl t_lastParts))] Hh) (hD0 : va_D (fun _ => True) [(a_t, .inr (9, [.int t_tokens, .int t_stores, .int t_mostSpoons, .ref a_t_firsts, .ref a_t_kinds, .ref a_t_values, .ref a_t_parts, .ref a_t_lastParts, .ref a_t_spoonPlaces, .int t_spoons, .int t_awaitsLetter, .int t_awaitsDigit])), (a_t_values, .inl (cT 0, 24, .inl t_values)), (a_t_firsts, .inl (cT 2, 24, .inl t_firsts)), (a_t_kinds, .inl (cT 0, 24, .inl t_kinds)), (a_t_parts, .inl (cT 0, 24, .inl t_parts)), (a_t_spoonPlaces, .inl (cT 0, 5, .inl t_spoonPlaces)), (a_t_lastParts, .inl (cT 0, 24, .inl t_lastParts))]) : Met l yX6_fits (wA yX6_fits cX6_fits 2 (some .boolean)) ({ frames := 3, cells := 0, slots := 0, locals := 70 } : Room) (PK dC dI cT [.ref a_t, .int p1] Hh) (va_Qi (fun x (_ : Unit) => x = o.1) (fun _ t => va_P (dC, dI) vwCl [(a_t, .inr (9, [.int o.2.1, .int o.2.2.1, .int o.2.2.2.1, .ref a_t_firsts, .ref a_t_kinds, .ref a_t_values, .ref a_t_parts, .ref a_t_lastParts, .ref a_t_spoonPlaces, .int o.2.2.2.2.1, .int o.2.2.2.2.2.1, .int o.2.2.2.2.2.2.1])), (a_t_values, .inl (cT 0, 24, .inl o.2.2.2.2.2.2.2.1)), (a_t_firsts, .inl (cT 2, 24, .inl o.2.2.2.2.2.2.2.2.1)), (a_t_kinds, .inl (cT 0, 24, .inl o.2.2.2.2.2.2.2.2.2.1)), (a_t_parts, .inl (cT 0, 24, .inl o.2.2.2.2.2.2.2.2.2.2.1)), (a_t_spoonPlaces, .inl (cT 0, 5, .inl o.2.2.2.2.2.2.2.2.2.2.2.1)), (a_t_lastParts, .inl (cT 0, 24, .inl o.2.2.2.2.2.2.2.2.2.2.2.2))] t.heap) (va_A [(a_t, .inr (9, [.int t_tokens, .int t_stores, .int t_mostSpoons, .ref a_t_firsts, .ref a_t_kinds, .ref a_t_values, .ref a_t_parts, .ref a_t_lastParts, .ref a_t_spoonPlaces, .int t_spoons, .int t_awaitsLetter, .int t_awaitsDigit])), (a_t_values, .inl (cT 0, 24, .inl t_values)), (a_t_firsts, .inl (cT 2, 24, .inl t_firsts)), (a_t_kinds, .inl (cT 0, 24, .inl t_kinds)), (a_t_parts, .inl (cT 0, 24, .inl t_parts)), (a_t_spoonPlaces, .inl (cT 0, 5, .inl t_spoonPlaces)), (a_t_lastParts, .inl (cT 0, 24, .inl t_lastParts))] Hh.size)) 0 0 (va_A [(a_t, .inr (9, [.int t_tokens, .int t_stores, .int t_mostSpoons, .ref a_t_firsts, .ref a_t_kinds, .ref a_t_values, .ref a_t_parts, .ref a_t_lastParts, .ref a_t_spoonPlaces, .int t_spoons, .int t_awaitsLetter, .int t_awaitsDigit])), (a_t_values, .inl (cT 0, 24, .inl t_values)), (a_t_firsts, .inl (cT 2, 24, .inl t_firsts)), (a_t_kinds, .inl (cT 0, 24, .inl t_kinds)), (a_t_parts, .inl (cT 0, 24, .inl t_parts)), (a_t_spoonPlaces, .inl (cT 0, 5, .inl t_spoonPlaces)), (a_t_lastParts, .inl (cT 0, 24, .inl t_lastParts))] Hh.size) := by
  refine Met.ofW (cc := cX6_fits) (maxL := 2) (ret := (some .boolean)) (by decide) rfl ?_
  intro p e s m args below meth c s₁ B hml hv
  obtain ⟨rfl, hH, hK⟩ := hv
  subst hH
  have hx := B.exec
  have hb := B.bytes
  have hr := B.returns
  have hta : ∀ w ∈ ALLW, w.before [.ref a_t, .int p1].toArray s = true := fun w hw => atoms_spec (ws := wA yX6_fits cX6_fits 2 (some .boolean)) B.pre w (List.mem_cons_of_mem _ hw)
  have hown : s.vm.findClass RX6 = some m.cls := findClass_of_methodNamed B.named
  have hlocks := B.notSynchronized
  have hD := hD0.self (sz := s.heap.size)
  generalize hAe : va_A [(a_t, .inr (9, [.int t_tokens, .int t_stores, .int t_mostSpoons, .ref a_t_firsts, .ref a_t_kinds, .ref a_t_values, .ref a_t_parts, .ref a_t_lastParts, .ref a_t_spoonPlaces, .int t_spoons, .int t_awaitsLetter, .int t_awaitsDigit])), (a_t_values, .inl (cT 0, 24, .inl t_values)), (a_t_firsts, .inl (cT 2, 24, .inl t_firsts)), (a_t_kinds, .inl (cT 0, 24, .inl t_kinds)), (a_t_parts, .inl (cT 0, 24, .inl t_parts)), (a_t_spoonPlaces, .inl (cT 0, 5, .inl t_spoonPlaces)), (a_t_lastParts, .inl (cT 0, 24, .inl t_lastParts))] s.heap.size = A at hD ⊢
  have hP := hP0
  have hA : ∀ q : Nat, s.heap.size ≤ q → A q := fun q h => by rw [← hAe]; exact Or.inr h
  have hS : va_S A s.heap s.heap [] := va_S.rf
  have hl := lv_entry [.ref a_t, .int p1] (n := 2) (Nat.le_of_ble_eq_true rfl)
  rw [lg_entry_eq]
  generalize (lg_sl [.ref a_t, .int p1] ++ List.replicate (2 - (lg_sl [.ref a_t, .int p1]).length) Slot.unset).toArray = ls at hl ⊢
  have hl : lv_has ls 2 [(0, .ref a_t), (1, .int p1)] := hl
  obtain ⟨Q, hQ⟩ : ∃ Q, Q = MQ below (va_Qi (fun x (_ : Unit) => x = o.1) (fun _ t => va_P (dC, dI) vwCl [(a_t, .inr (9, [.int o.2.1, .int o.2.2.1, .int o.2.2.2.1, .ref a_t_firsts, .ref a_t_kinds, .ref a_t_values, .ref a_t_parts, .ref a_t_lastParts, .ref a_t_spoonPlaces, .int o.2.2.2.2.1, .int o.2.2.2.2.2.1, .int o.2.2.2.2.2.2.1])), (a_t_values, .inl (cT 0, 24, .inl o.2.2.2.2.2.2.2.1)), (a_t_firsts, .inl (cT 2, 24, .inl o.2.2.2.2.2.2.2.2.1)), (a_t_kinds, .inl (cT 0, 24, .inl o.2.2.2.2.2.2.2.2.2.1)), (a_t_parts, .inl (cT 0, 24, .inl o.2.2.2.2.2.2.2.2.2.2.1)), (a_t_spoonPlaces, .inl (cT 0, 5, .inl o.2.2.2.2.2.2.2.2.2.2.2.1)), (a_t_lastParts, .inl (cT 0, 24, .inl o.2.2.2.2.2.2.2.2.2.2.2.2))] t.heap) A) [.ref a_t, .int p1].toArray s 0 0 A := ⟨_, rfl⟩
  rw [← hQ]
  have wB_55 : ∀ (H : Heap) (locs : List Loc) (ls : Array Slot), g_X6_fits_b55 t_tokens t_stores t_mostSpoons t_spoons t_awaitsLetter t_values t_firsts t_kinds t_parts t_spoonPlaces t_lastParts p1 = some o → va_P (dC, dI) vwCl [(a_t, .inr (9, [.int t_tokens, .int t_stores, .int t_mostSpoons, .ref a_t_firsts, .ref a_t_kinds, .ref a_t_values, .ref a_t_parts, .ref a_t_lastParts, .ref a_t_spoonPlaces, .int t_spoons, .int t_awaitsLetter, .int t_awaitsDigit])), (a_t_values, .inl (cT 0, 24, .inl t_values)), (a_t_firsts, .inl (cT 2, 24, .inl t_firsts)), (a_t_kinds, .inl (cT 0, 24, .inl t_kinds)), (a_t_parts, .inl (cT 0, 24, .inl t_parts)), (a_t_spoonPlaces, .inl (cT 0, 5, .inl t_spoonPlaces)), (a_t_lastParts, .inl (cT 0, 24, .inl t_lastParts))] H → va_D A [(a_t, .inr (9, [.int t_tokens, .int t_stores, .int t_mostSpoons, .ref a_t_firsts, .ref a_t_kinds, .ref a_t_values, .ref a_t_parts, .ref a_t_lastParts, .ref a_t_spoonPlaces, .int t_spoons, .int t_awaitsLetter, .int t_awaitsDigit])), (a_t_values, .inl (cT 0, 24, .inl t_values)), (a_t_firsts, .inl (cT 2, 24, .inl t_firsts)), (a_t_kinds, .inl (cT 0, 24, .inl t_kinds)), (a_t_parts, .inl (cT 0, 24, .inl t_parts)), (a_t_spoonPlaces, .inl (cT 0, 5, .inl t_spoonPlaces)), (a_t_lastParts, .inl (cT 0, 24, .inl t_lastParts))] → va_S A s.heap H locs → lv_has ls 2 [(0, .ref a_t), (1, .int p1)] → W p l e ({ frames := 3, cells := 0, slots := 0, locals := 70 } : Room) s m [.ref a_t, .int p1].toArray below meth c H locs 0 0 Q (F0 m 55 ls []) := by
    intro H locs ls h hP hD hS hl
    unfold g_X6_fits_b55 at h
    refine lv_aload_n hx hb dX6_fits_55 rfl (lv_at hl 0 rfl) ?_
    refine lv_iconst (v := 0) hx hb dX6_fits_56 (by decide) ?_
    refine va_put (D := (dC, dI)) (ci := 9) (v := .int 0) (ty := .boolean) (C := RX6) (T := TX6) (N := 12) hx hb hta inX6w tyX6 tyX6_ok nmX6 hown hK hP hD hS 0 rfl rfl 11 (by decide) (hta _ lk_X6_48) (fun _ h9 => h9) rfl (by decide +kernel) rfl rfl (Nat.le_of_ble_eq_true rfl) dX6_fits_57 (fun H locs hP hD hS => ?_)
    have hP : va_P (dC, dI) vwCl [(a_t, .inr (9, [.int t_tokens, .int t_stores, .int t_mostSpoons, .ref a_t_firsts, .ref a_t_kinds, .ref a_t_values, .ref a_t_parts, .ref a_t_lastParts, .ref a_t_spoonPlaces, .int t_spoons, .int t_awaitsLetter, .int 0])), (a_t_values, .inl (cT 0, 24, .inl t_values)), (a_t_firsts, .inl (cT 2, 24, .inl t_firsts)), (a_t_kinds, .inl (cT 0, 24, .inl t_kinds)), (a_t_parts, .inl (cT 0, 24, .inl t_parts)), (a_t_spoonPlaces, .inl (cT 0, 5, .inl t_spoonPlaces)), (a_t_lastParts, .inl (cT 0, 24, .inl t_lastParts))] H := hP
    have hD : va_D A [(a_t, .inr (9, [.int t_tokens, .int t_stores, .int t_mostSpoons, .ref a_t_firsts, .ref a_t_kinds, .ref a_t_values, .ref a_t_parts, .ref a_t_lastParts, .ref a_t_spoonPlaces, .int t_spoons, .int t_awaitsLetter, .int 0])), (a_t_values, .inl (cT 0, 24, .inl t_values)), (a_t_firsts, .inl (cT 2, 24, .inl t_firsts)), (a_t_kinds, .inl (cT 0, 24, .inl t_kinds)), (a_t_parts, .inl (cT 0, 24, .inl t_parts)), (a_t_spoonPlaces, .inl (cT 0, 5, .inl t_spoonPlaces)), (a_t_lastParts, .inl (cT 0, 24, .inl t_lastParts))] := hD
    refine lv_aload_n hx hb dX6_fits_60 rfl (lv_at hl 0 rfl) ?_
    refine lv_iload_n hx hb dX6_fits_61 rfl (lv_at hl 1 rfl) ?_
    obtain ⟨r4, hq, h⟩ := gb_some h
    refine crI (va_runV (As := [.int p1]) (rest := []) ⟨hx, hb, hml, hown, hta⟩ (c_X6_isLetter l dC dI cT hq (hP.sub (ws' := [(a_t, .inr (9, [.int t_tokens, .int t_stores, .int t_mostSpoons, .ref a_t_firsts, .ref a_t_kinds, .ref a_t_values, .ref a_t_parts, .ref a_t_lastParts, .ref a_t_spoonPlaces, .int t_spoons, .int t_awaitsLetter, .int 0]))]) [0] rfl)) (cV hta lm_X6_61 md_X6_isLetter ⟨(Nat.le_of_ble_eq_true rfl), (Nat.le_of_ble_eq_true rfl)⟩) ⟨fbK, va_recv hK hP (ci := 9) (q0 := 0) rfl rfl, fun U hU hW => ⟨rfl, hU, va_K.moved hW.alike hK⟩⟩ rfl rfl hl.1 rfl (lv_room (Nat.le_of_ble_eq_true rfl)) dX6_fits_62 ⟨(Nat.le_of_ble_eq_true rfl), (Nat.le_of_ble_eq_true rfl)⟩) hS hA (fun locs hS => ?_)
    refine lv_if_eq (tgt := 81) hx hb dX6_fits_65 (by decide) (fun c0 => ?_) (fun c0 => ?_)
    · have h := (if_pos c0).symm.trans h
      refine lv_iload_n hx hb dX6_fits_81 rfl (lv_at hl 1 rfl) ?_
      by_cases cs6 : p1 = 33
      · have h := (if_pos cs6).symm.trans h
        refine lv_lookup (tgt := 180) hx hb dX6_fits_82 (by decide) (by first | (rw [cs6]; done) | (rw [cs6]; rfl)) (by decide) ?_
        refine lv_aload_n hx hb dX6_fits_180 rfl (lv_at hl 0 rfl) ?_
        refine lv_bipush (v := 6) hx hb dX6_fits_181 (by decide) ?_
        refine lv_iload_n hx hb dX6_fits_183 rfl (lv_at hl 1 rfl) ?_
        refine lv_iconst (v := 0) hx hb dX6_fits_184 (by decide) ?_
        refine lv_iconst (v := 1) hx hb dX6_fits_185 (by decide) ?_
        refine lv_iconst (v := 1) hx hb dX6_fits_186 (by decide) ?_
        obtain ⟨r5, hq, h⟩ := gb_some h
        refine cxI (X2 := [(a_t, .inr (9, [.int r5.2.1, .int t_stores, .int r5.2.2.1, .ref a_t_firsts, .ref a_t_kinds, .ref a_t_values, .ref a_t_parts, .ref a_t_lastParts, .ref a_t_spoonPlaces, .int r5.2.2.2.1, .int t_awaitsLetter, .int 0])), (a_t_values, .inl (cT 0, 24, .inl r5.2.2.2.2.2.2.1)), (a_t_firsts, .inl (cT 2, 24, .inl r5.2.2.2.2.1)), (a_t_kinds, .inl (cT 0, 24, .inl r5.2.2.2.2.2.1)), (a_t_parts, .inl (cT 0, 24, .inl r5.2.2.2.2.2.2.2.1)), (a_t_spoonPlaces, .inl (cT 0, 5, .inl r5.2.2.2.2.2.2.2.2.1)), (a_t_lastParts, .inl (cT 0, 24, .inl r5.2.2.2.2.2.2.2.2.2))]) (va_runV (As := [.int 6, .int p1, .int 0, .int 1, .int 1]) (rest := []) ⟨hx, hb, hml, hown, hta⟩ (c_X6_fitsToken l dC dI cT hq (hP.sub (ws' := [(a_t, .inr (9, [.int t_tokens, .int t_stores, .int t_mostSpoons, .ref a_t_firsts, .ref a_t_kinds, .ref a_t_values, .ref a_t_parts, .ref a_t_lastParts, .ref a_t_spoonPlaces, .int t_spoons, .int t_awaitsLetter, .int 0])), (a_t_firsts, .inl (cT 2, 24, .inl t_firsts)), (a_t_kinds, .inl (cT 0, 24, .inl t_kinds)), (a_t_values, .inl (cT 0, 24, .inl t_values)), (a_t_parts, .inl (cT 0, 24, .inl t_parts)), (a_t_spoonPlaces, .inl (cT 0, 5, .inl t_spoonPlaces)), (a_t_lastParts, .inl (cT 0, 24, .inl t_lastParts))]) [0, 2, 3, 1, 4, 5, 6] rfl) (ds hD [0, 2, 3, 1, 4, 5, 6] (by decide) rfl)) (cV hta lm_X6_71 md_X6_fitsToken ⟨(Nat.le_of_ble_eq_true rfl), (Nat.le_of_ble_eq_true rfl)⟩) ⟨fbK, va_recv hK hP (ci := 9) (q0 := 0) rfl rfl, fun U hU hW => ⟨rfl, hU, va_K.moved hW.alike hK⟩⟩ rfl rfl hl.1 rfl (lv_room (Nat.le_of_ble_eq_true rfl)) dX6_fits_187 ⟨(Nat.le_of_ble_eq_true rfl), (Nat.le_of_ble_eq_true rfl)⟩) hS hA hP hD [0, 2, 3, 1, 4, 5, 6] rfl [.inl 0, .inl 3, .inl 1, .inl 2, .inl 4, .inl 5, .inl 6] rfl rfl rfl (fun H locs hP hD hS => ?_)
        obtain ⟨hc, h⟩ := gc_some h
        have ho := Option.some.inj h
        rw [hQ]
        exact W.zret (ty := .boolean) (v := r5.1) hx hb hr (bo_n hc) (fun t ht hW => ⟨⟨r5.1, (), rfl, by rw [← ho], by show va_P (dC, dI) vwCl _ t.heap; rw [ht, ← ho]; exact hP⟩, hS.F ht⟩) hS.2.2 dX6_fits_190
      · have h := (if_neg cs6).symm.trans h
        by_cases cs5 : p1 = 42
        · have h := (if_pos cs5).symm.trans h
          refine lv_lookup (tgt := 160) hx hb dX6_fits_82 (by decide) (by first | (rw [cs5]; done) | (rw [cs5]; rfl)) (by decide) ?_
          refine lv_aload_n hx hb dX6_fits_160 rfl (lv_at hl 0 rfl) ?_
          refine lv_iconst (v := 4) hx hb dX6_fits_161 (by decide) ?_
          refine lv_iload_n hx hb dX6_fits_162 rfl (lv_at hl 1 rfl) ?_
          refine lv_iconst (v := 0) hx hb dX6_fits_163 (by decide) ?_
          refine lv_iconst (v := 2) hx hb dX6_fits_164 (by decide) ?_
          refine lv_iconst (v := 1) hx hb dX6_fits_165 (by decide) ?_
          obtain ⟨r6, hq, h⟩ := gb_some h
          refine cxI (X2 := [(a_t, .inr (9, [.int r6.2.1, .int t_stores, .int r6.2.2.1, .ref a_t_firsts, .ref a_t_kinds, .ref a_t_values, .ref a_t_parts, .ref a_t_lastParts, .ref a_t_spoonPlaces, .int r6.2.2.2.1, .int t_awaitsLetter, .int 0])), (a_t_values, .inl (cT 0, 24, .inl r6.2.2.2.2.2.2.1)), (a_t_firsts, .inl (cT 2, 24, .inl r6.2.2.2.2.1)), (a_t_kinds, .inl (cT 0, 24, .inl r6.2.2.2.2.2.1)), (a_t_parts, .inl (cT 0, 24, .inl r6.2.2.2.2.2.2.2.1)), (a_t_spoonPlaces, .inl (cT 0, 5, .inl r6.2.2.2.2.2.2.2.2.1)), (a_t_lastParts, .inl (cT 0, 24, .inl r6.2.2.2.2.2.2.2.2.2))]) (va_runV (As := [.int 4, .int p1, .int 0, .int 2, .int 1]) (rest := []) ⟨hx, hb, hml, hown, hta⟩ (c_X6_fitsToken l dC dI cT hq (hP.sub (ws' := [(a_t, .inr (9, [.int t_tokens, .int t_stores, .int t_mostSpoons, .ref a_t_firsts, .ref a_t_kinds, .ref a_t_values, .ref a_t_parts, .ref a_t_lastParts, .ref a_t_spoonPlaces, .int t_spoons, .int t_awaitsLetter, .int 0])), (a_t_firsts, .inl (cT 2, 24, .inl t_firsts)), (a_t_kinds, .inl (cT 0, 24, .inl t_kinds)), (a_t_values, .inl (cT 0, 24, .inl t_values)), (a_t_parts, .inl (cT 0, 24, .inl t_parts)), (a_t_spoonPlaces, .inl (cT 0, 5, .inl t_spoonPlaces)), (a_t_lastParts, .inl (cT 0, 24, .inl t_lastParts))]) [0, 2, 3, 1, 4, 5, 6] rfl) (ds hD [0, 2, 3, 1, 4, 5, 6] (by decide) rfl)) (cV hta lm_X6_71 md_X6_fitsToken ⟨(Nat.le_of_ble_eq_true rfl), (Nat.le_of_ble_eq_true rfl)⟩) ⟨fbK, va_recv hK hP (ci := 9) (q0 := 0) rfl rfl, fun U hU hW => ⟨rfl, hU, va_K.moved hW.alike hK⟩⟩ rfl rfl hl.1 rfl (lv_room (Nat.le_of_ble_eq_true rfl)) dX6_fits_166 ⟨(Nat.le_of_ble_eq_true rfl), (Nat.le_of_ble_eq_true rfl)⟩) hS hA hP hD [0, 2, 3, 1, 4, 5, 6] rfl [.inl 0, .inl 3, .inl 1, .inl 2, .inl 4, .inl 5, .inl 6] rfl rfl rfl (fun H locs hP hD hS => ?_)
          obtain ⟨hc, h⟩ := gc_some h
          have ho := Option.some.inj h
          rw [hQ]
          exact W.zret (ty := .boolean) (v := r6.1) hx hb hr (bo_n hc) (fun t ht hW => ⟨⟨r6.1, (), rfl, by rw [← ho], by show va_P (dC, dI) vwCl _ t.heap; rw [ht, ← ho]; exact hP⟩, hS.F ht⟩) hS.2.2 dX6_fits_169
        · have h := (if_neg cs5).symm.trans h
          by_cases cs4 : p1 = 43
          · have h := (if_pos cs4).symm.trans h
            refine lv_lookup (tgt := 140) hx hb dX6_fits_82 (by decide) (by first | (rw [cs4]; done) | (rw [cs4]; rfl)) (by decide) ?_
            refine lv_aload_n hx hb dX6_fits_140 rfl (lv_at hl 0 rfl) ?_
            refine lv_iconst (v := 2) hx hb dX6_fits_141 (by decide) ?_
            refine lv_iload_n hx hb dX6_fits_142 rfl (lv_at hl 1 rfl) ?_
            refine lv_iconst (v := 0) hx hb dX6_fits_143 (by decide) ?_
            refine lv_iconst (v := 2) hx hb dX6_fits_144 (by decide) ?_
            refine lv_iconst (v := 1) hx hb dX6_fits_145 (by decide) ?_
            obtain ⟨r7, hq, h⟩ := gb_some h
            refine cxI (X2 := [(a_t, .inr (9, [.int r7.2.1, .int t_stores, .int r7.2.2.1, .ref a_t_firsts, .ref a_t_kinds, .ref a_t_values, .ref a_t_parts, .ref a_t_lastParts, .ref a_t_spoonPlaces, .int r7.2.2.2.1, .int t_awaitsLetter, .int 0])), (a_t_values, .inl (cT 0, 24, .inl r7.2.2.2.2.2.2.1)), (a_t_firsts, .inl (cT 2, 24, .inl r7.2.2.2.2.1)), (a_t_kinds, .inl (cT 0, 24, .inl r7.2.2.2.2.2.1)), (a_t_parts, .inl (cT 0, 24, .inl r7.2.2.2.2.2.2.2.1)), (a_t_spoonPlaces, .inl (cT 0, 5, .inl r7.2.2.2.2.2.2.2.2.1)), (a_t_lastParts, .inl (cT 0, 24, .inl r7.2.2.2.2.2.2.2.2.2))]) (va_runV (As := [.int 2, .int p1, .int 0, .int 2, .int 1]) (rest := []) ⟨hx, hb, hml, hown, hta⟩ (c_X6_fitsToken l dC dI cT hq (hP.sub (ws' := [(a_t, .inr (9, [.int t_tokens, .int t_stores, .int t_mostSpoons, .ref a_t_firsts, .ref a_t_kinds, .ref a_t_values, .ref a_t_parts, .ref a_t_lastParts, .ref a_t_spoonPlaces, .int t_spoons, .int t_awaitsLetter, .int 0])), (a_t_firsts, .inl (cT 2, 24, .inl t_firsts)), (a_t_kinds, .inl (cT 0, 24, .inl t_kinds)), (a_t_values, .inl (cT 0, 24, .inl t_values)), (a_t_parts, .inl (cT 0, 24, .inl t_parts)), (a_t_spoonPlaces, .inl (cT 0, 5, .inl t_spoonPlaces)), (a_t_lastParts, .inl (cT 0, 24, .inl t_lastParts))]) [0, 2, 3, 1, 4, 5, 6] rfl) (ds hD [0, 2, 3, 1, 4, 5, 6] (by decide) rfl)) (cV hta lm_X6_71 md_X6_fitsToken ⟨(Nat.le_of_ble_eq_true rfl), (Nat.le_of_ble_eq_true rfl)⟩) ⟨fbK, va_recv hK hP (ci := 9) (q0 := 0) rfl rfl, fun U hU hW => ⟨rfl, hU, va_K.moved hW.alike hK⟩⟩ rfl rfl hl.1 rfl (lv_room (Nat.le_of_ble_eq_true rfl)) dX6_fits_146 ⟨(Nat.le_of_ble_eq_true rfl), (Nat.le_of_ble_eq_true rfl)⟩) hS hA hP hD [0, 2, 3, 1, 4, 5, 6] rfl [.inl 0, .inl 3, .inl 1, .inl 2, .inl 4, .inl 5, .inl 6] rfl rfl rfl (fun H locs hP hD hS => ?_)
            obtain ⟨hc, h⟩ := gc_some h
            have ho := Option.some.inj h
            rw [hQ]
            exact W.zret (ty := .boolean) (v := r7.1) hx hb hr (bo_n hc) (fun t ht hW => ⟨⟨r7.1, (), rfl, by rw [← ho], by show va_P (dC, dI) vwCl _ t.heap; rw [ht, ← ho]; exact hP⟩, hS.F ht⟩) hS.2.2 dX6_fits_149
          · have h := (if_neg cs4).symm.trans h
            by_cases cs3 : p1 = 45
            · have h := (if_pos cs3).symm.trans h
              refine lv_lookup (tgt := 150) hx hb dX6_fits_82 (by decide) (by first | (rw [cs3]; done) | (rw [cs3]; rfl)) (by decide) ?_
              refine lv_aload_n hx hb dX6_fits_150 rfl (lv_at hl 0 rfl) ?_
              refine lv_iconst (v := 3) hx hb dX6_fits_151 (by decide) ?_
              refine lv_iload_n hx hb dX6_fits_152 rfl (lv_at hl 1 rfl) ?_
              refine lv_iconst (v := 0) hx hb dX6_fits_153 (by decide) ?_
              refine lv_iconst (v := 2) hx hb dX6_fits_154 (by decide) ?_
              refine lv_iconst (v := 1) hx hb dX6_fits_155 (by decide) ?_
              obtain ⟨r8, hq, h⟩ := gb_some h
              refine cxI (X2 := [(a_t, .inr (9, [.int r8.2.1, .int t_stores, .int r8.2.2.1, .ref a_t_firsts, .ref a_t_kinds, .ref a_t_values, .ref a_t_parts, .ref a_t_lastParts, .ref a_t_spoonPlaces, .int r8.2.2.2.1, .int t_awaitsLetter, .int 0])), (a_t_values, .inl (cT 0, 24, .inl r8.2.2.2.2.2.2.1)), (a_t_firsts, .inl (cT 2, 24, .inl r8.2.2.2.2.1)), (a_t_kinds, .inl (cT 0, 24, .inl r8.2.2.2.2.2.1)), (a_t_parts, .inl (cT 0, 24, .inl r8.2.2.2.2.2.2.2.1)), (a_t_spoonPlaces, .inl (cT 0, 5, .inl r8.2.2.2.2.2.2.2.2.1)), (a_t_lastParts, .inl (cT 0, 24, .inl r8.2.2.2.2.2.2.2.2.2))]) (va_runV (As := [.int 3, .int p1, .int 0, .int 2, .int 1]) (rest := []) ⟨hx, hb, hml, hown, hta⟩ (c_X6_fitsToken l dC dI cT hq (hP.sub (ws' := [(a_t, .inr (9, [.int t_tokens, .int t_stores, .int t_mostSpoons, .ref a_t_firsts, .ref a_t_kinds, .ref a_t_values, .ref a_t_parts, .ref a_t_lastParts, .ref a_t_spoonPlaces, .int t_spoons, .int t_awaitsLetter, .int 0])), (a_t_firsts, .inl (cT 2, 24, .inl t_firsts)), (a_t_kinds, .inl (cT 0, 24, .inl t_kinds)), (a_t_values, .inl (cT 0, 24, .inl t_values)), (a_t_parts, .inl (cT 0, 24, .inl t_parts)), (a_t_spoonPlaces, .inl (cT 0, 5, .inl t_spoonPlaces)), (a_t_lastParts, .inl (cT 0, 24, .inl t_lastParts))]) [0, 2, 3, 1, 4, 5, 6] rfl) (ds hD [0, 2, 3, 1, 4, 5, 6] (by decide) rfl)) (cV hta lm_X6_71 md_X6_fitsToken ⟨(Nat.le_of_ble_eq_true rfl), (Nat.le_of_ble_eq_true rfl)⟩) ⟨fbK, va_recv hK hP (ci := 9) (q0 := 0) rfl rfl, fun U hU hW => ⟨rfl, hU, va_K.moved hW.alike hK⟩⟩ rfl rfl hl.1 rfl (lv_room (Nat.le_of_ble_eq_true rfl)) dX6_fits_156 ⟨(Nat.le_of_ble_eq_true rfl), (Nat.le_of_ble_eq_true rfl)⟩) hS hA hP hD [0, 2, 3, 1, 4, 5, 6] rfl [.inl 0, .inl 3, .inl 1, .inl 2, .inl 4, .inl 5, .inl 6] rfl rfl rfl (fun H locs hP hD hS => ?_)
              obtain ⟨hc, h⟩ := gc_some h
              have ho := Option.some.inj h
              rw [hQ]
              exact W.zret (ty := .boolean) (v := r8.1) hx hb hr (bo_n hc) (fun t ht hW => ⟨⟨r8.1, (), rfl, by rw [← ho], by show va_P (dC, dI) vwCl _ t.heap; rw [ht, ← ho]; exact hP⟩, hS.F ht⟩) hS.2.2 dX6_fits_159
            · have h := (if_neg cs3).symm.trans h
              by_cases cs2 : p1 = 61
              · have h := (if_pos cs2).symm.trans h
                refine lv_lookup (tgt := 191) hx hb dX6_fits_82 (by decide) (by first | (rw [cs2]; done) | (rw [cs2]; rfl)) (by decide) ?_
                refine lv_aload_n hx hb dX6_fits_191 rfl (lv_at hl 0 rfl) ?_
                refine lv_iconst (v := 1) hx hb dX6_fits_192 (by decide) ?_
                refine va_put (D := (dC, dI)) (ci := 9) (v := .int 1) (ty := .boolean) (C := RX6) (T := TX6) (N := 12) hx hb hta inX6w tyX6 tyX6_ok nmX6 hown hK hP hD hS 0 rfl rfl 10 (by decide) (hta _ lk_X6_44) (fun _ h9 => h9) rfl (by decide +kernel) rfl rfl (Nat.le_of_ble_eq_true rfl) dX6_fits_193 (fun H locs hP hD hS => ?_)
                have hP : va_P (dC, dI) vwCl [(a_t, .inr (9, [.int t_tokens, .int t_stores, .int t_mostSpoons, .ref a_t_firsts, .ref a_t_kinds, .ref a_t_values, .ref a_t_parts, .ref a_t_lastParts, .ref a_t_spoonPlaces, .int t_spoons, .int 1, .int 0])), (a_t_values, .inl (cT 0, 24, .inl t_values)), (a_t_firsts, .inl (cT 2, 24, .inl t_firsts)), (a_t_kinds, .inl (cT 0, 24, .inl t_kinds)), (a_t_parts, .inl (cT 0, 24, .inl t_parts)), (a_t_spoonPlaces, .inl (cT 0, 5, .inl t_spoonPlaces)), (a_t_lastParts, .inl (cT 0, 24, .inl t_lastParts))] H := hP
                have hD : va_D A [(a_t, .inr (9, [.int t_tokens, .int t_stores, .int t_mostSpoons, .ref a_t_firsts, .ref a_t_kinds, .ref a_t_values, .ref a_t_parts, .ref a_t_lastParts, .ref a_t_spoonPlaces, .int t_spoons, .int 1, .int 0])), (a_t_values, .inl (cT 0, 24, .inl t_values)), (a_t_firsts, .inl (cT 2, 24, .inl t_firsts)), (a_t_kinds, .inl (cT 0, 24, .inl t_kinds)), (a_t_parts, .inl (cT 0, 24, .inl t_parts)), (a_t_spoonPlaces, .inl (cT 0, 5, .inl t_spoonPlaces)), (a_t_lastParts, .inl (cT 0, 24, .inl t_lastParts))] := hD
                refine lv_aload_n hx hb dX6_fits_196 rfl (lv_at hl 0 rfl) ?_
                refine va_get (D := (dC, dI)) (ci := 9) (v := .int t_spoons) (C := RX6) (T := TX6) (N := 12) hx hb hta inX6w hown hK hP 0 rfl rfl 9 (by decide) (hta _ lk_X6_41) (fun _ h9 => h9) rfl dX6_fits_197 ?_
                refine lv_if_le (tgt := 207) hx hb dX6_fits_200 (by decide) (fun c0 => ?_) (fun c0 => ?_)
                · have h := (if_pos c0).symm.trans h
                  refine lv_iconst (v := 0) hx hb dX6_fits_207 (by decide) ?_
                  have ho := Option.some.inj h
                  rw [hQ]
                  exact W.zret (ty := .boolean) (v := 0) hx hb hr rfl (fun t ht hW => ⟨⟨0, (), rfl, by rw [← ho], by show va_P (dC, dI) vwCl _ t.heap; rw [ht, ← ho]; exact hP⟩, hS.F ht⟩) hS.2.2 dX6_fits_208
                · have h := (if_neg c0).symm.trans h
                  refine lv_iconst (v := 1) hx hb dX6_fits_203 (by decide) ?_
                  refine lv_goto (tgt := 208) hx hb dX6_fits_204 (by decide) ?_
                  have ho := Option.some.inj h
                  rw [hQ]
                  exact W.zret (ty := .boolean) (v := 1) hx hb hr rfl (fun t ht hW => ⟨⟨1, (), rfl, by rw [← ho], by show va_P (dC, dI) vwCl _ t.heap; rw [ht, ← ho]; exact hP⟩, hS.F ht⟩) hS.2.2 dX6_fits_208
              · have h := (if_neg cs2).symm.trans h
                by_cases cs1 : p1 = 126
                · have h := (if_pos cs1).symm.trans h
                  refine lv_lookup (tgt := 170) hx hb dX6_fits_82 (by decide) (by first | (rw [cs1]; done) | (rw [cs1]; rfl)) (by decide) ?_
                  refine lv_aload_n hx hb dX6_fits_170 rfl (lv_at hl 0 rfl) ?_
                  refine lv_iconst (v := 5) hx hb dX6_fits_171 (by decide) ?_
                  refine lv_iload_n hx hb dX6_fits_172 rfl (lv_at hl 1 rfl) ?_
                  refine lv_iconst (v := 0) hx hb dX6_fits_173 (by decide) ?_
                  refine lv_iconst (v := 1) hx hb dX6_fits_174 (by decide) ?_
                  refine lv_iconst (v := 1) hx hb dX6_fits_175 (by decide) ?_
                  obtain ⟨r9, hq, h⟩ := gb_some h
                  refine cxI (X2 := [(a_t, .inr (9, [.int r9.2.1, .int t_stores, .int r9.2.2.1, .ref a_t_firsts, .ref a_t_kinds, .ref a_t_values, .ref a_t_parts, .ref a_t_lastParts, .ref a_t_spoonPlaces, .int r9.2.2.2.1, .int t_awaitsLetter, .int 0])), (a_t_values, .inl (cT 0, 24, .inl r9.2.2.2.2.2.2.1)), (a_t_firsts, .inl (cT 2, 24, .inl r9.2.2.2.2.1)), (a_t_kinds, .inl (cT 0, 24, .inl r9.2.2.2.2.2.1)), (a_t_parts, .inl (cT 0, 24, .inl r9.2.2.2.2.2.2.2.1)), (a_t_spoonPlaces, .inl (cT 0, 5, .inl r9.2.2.2.2.2.2.2.2.1)), (a_t_lastParts, .inl (cT 0, 24, .inl r9.2.2.2.2.2.2.2.2.2))]) (va_runV (As := [.int 5, .int p1, .int 0, .int 1, .int 1]) (rest := []) ⟨hx, hb, hml, hown, hta⟩ (c_X6_fitsToken l dC dI cT hq (hP.sub (ws' := [(a_t, .inr (9, [.int t_tokens, .int t_stores, .int t_mostSpoons, .ref a_t_firsts, .ref a_t_kinds, .ref a_t_values, .ref a_t_parts, .ref a_t_lastParts, .ref a_t_spoonPlaces, .int t_spoons, .int t_awaitsLetter, .int 0])), (a_t_firsts, .inl (cT 2, 24, .inl t_firsts)), (a_t_kinds, .inl (cT 0, 24, .inl t_kinds)), (a_t_values, .inl (cT 0, 24, .inl t_values)), (a_t_parts, .inl (cT 0, 24, .inl t_parts)), (a_t_spoonPlaces, .inl (cT 0, 5, .inl t_spoonPlaces)), (a_t_lastParts, .inl (cT 0, 24, .inl t_lastParts))]) [0, 2, 3, 1, 4, 5, 6] rfl) (ds hD [0, 2, 3, 1, 4, 5, 6] (by decide) rfl)) (cV hta lm_X6_71 md_X6_fitsToken ⟨(Nat.le_of_ble_eq_true rfl), (Nat.le_of_ble_eq_true rfl)⟩) ⟨fbK, va_recv hK hP (ci := 9) (q0 := 0) rfl rfl, fun U hU hW => ⟨rfl, hU, va_K.moved hW.alike hK⟩⟩ rfl rfl hl.1 rfl (lv_room (Nat.le_of_ble_eq_true rfl)) dX6_fits_176 ⟨(Nat.le_of_ble_eq_true rfl), (Nat.le_of_ble_eq_true rfl)⟩) hS hA hP hD [0, 2, 3, 1, 4, 5, 6] rfl [.inl 0, .inl 3, .inl 1, .inl 2, .inl 4, .inl 5, .inl 6] rfl rfl rfl (fun H locs hP hD hS => ?_)
                  obtain ⟨hc, h⟩ := gc_some h
                  have ho := Option.some.inj h
                  rw [hQ]
                  exact W.zret (ty := .boolean) (v := r9.1) hx hb hr (bo_n hc) (fun t ht hW => ⟨⟨r9.1, (), rfl, by rw [← ho], by show va_P (dC, dI) vwCl _ t.heap; rw [ht, ← ho]; exact hP⟩, hS.F ht⟩) hS.2.2 dX6_fits_179
                · have h := (if_neg cs1).symm.trans h
                  refine lv_lookup (tgt := 209) (off := 127) hx hb dX6_fits_82 (by decide) (by show Op.lookupswitch.offset [(33, 98), (42, 78), (43, 58), (45, 68), (61, 109), (126, 88)] _ _ = _; first | (rw [lv_osw cs6 (a := 33) (by decide), lv_osw cs5 (a := 42) (by decide), lv_osw cs4 (a := 43) (by decide), lv_osw cs3 (a := 45) (by decide), lv_osw cs2 (a := 61) (by decide), lv_osw cs1 (a := 126) (by decide)]; done) | (rw [lv_osw cs6 (a := 33) (by decide), lv_osw cs5 (a := 42) (by decide), lv_osw cs4 (a := 43) (by decide), lv_osw cs3 (a := 45) (by decide), lv_osw cs2 (a := 61) (by decide), lv_osw cs1 (a := 126) (by decide)]; rfl)) (by decide) ?_
                  refine lv_iconst (v := 0) hx hb dX6_fits_209 (by decide) ?_
                  have ho := Option.some.inj h
                  rw [hQ]
                  exact W.zret (ty := .boolean) (v := 0) hx hb hr rfl (fun t ht hW => ⟨⟨0, (), rfl, by rw [← ho], by show va_P (dC, dI) vwCl _ t.heap; rw [ht, ← ho]; exact hP⟩, hS.F ht⟩) hS.2.2 dX6_fits_210
    · have h := (if_neg c0).symm.trans h
      refine lv_aload_n hx hb dX6_fits_68 rfl (lv_at hl 0 rfl) ?_
      refine lv_iconst (v := 0) hx hb dX6_fits_69 (by decide) ?_
      refine lv_iload_n hx hb dX6_fits_70 rfl (lv_at hl 1 rfl) ?_
      refine lv_iload_n hx hb dX6_fits_71 rfl (lv_at hl 1 rfl) ?_
      refine lv_bipush (v := 97) hx hb dX6_fits_72 (by decide) ?_
      refine lv_isub hx hb dX6_fits_74 ?_
      refine lv_iconst (v := 0) hx hb dX6_fits_75 (by decide) ?_
      refine lv_iconst (v := 1) hx hb dX6_fits_76 (by decide) ?_
      obtain ⟨r10, hq, h⟩ := gb_some h
      refine cxI (X2 := [(a_t, .inr (9, [.int r10.2.1, .int t_stores, .int r10.2.2.1, .ref a_t_firsts, .ref a_t_kinds, .ref a_t_values, .ref a_t_parts, .ref a_t_lastParts, .ref a_t_spoonPlaces, .int r10.2.2.2.1, .int t_awaitsLetter, .int 0])), (a_t_values, .inl (cT 0, 24, .inl r10.2.2.2.2.2.2.1)), (a_t_firsts, .inl (cT 2, 24, .inl r10.2.2.2.2.1)), (a_t_kinds, .inl (cT 0, 24, .inl r10.2.2.2.2.2.1)), (a_t_parts, .inl (cT 0, 24, .inl r10.2.2.2.2.2.2.2.1)), (a_t_spoonPlaces, .inl (cT 0, 5, .inl r10.2.2.2.2.2.2.2.2.1)), (a_t_lastParts, .inl (cT 0, 24, .inl r10.2.2.2.2.2.2.2.2.2))]) (va_runV (As := [.int 0, .int p1, .int (p1 - 97), .int 0, .int 1]) (rest := []) ⟨hx, hb, hml, hown, hta⟩ (c_X6_fitsToken l dC dI cT hq (hP.sub (ws' := [(a_t, .inr (9, [.int t_tokens, .int t_stores, .int t_mostSpoons, .ref a_t_firsts, .ref a_t_kinds, .ref a_t_values, .ref a_t_parts, .ref a_t_lastParts, .ref a_t_spoonPlaces, .int t_spoons, .int t_awaitsLetter, .int 0])), (a_t_firsts, .inl (cT 2, 24, .inl t_firsts)), (a_t_kinds, .inl (cT 0, 24, .inl t_kinds)), (a_t_values, .inl (cT 0, 24, .inl t_values)), (a_t_parts, .inl (cT 0, 24, .inl t_parts)), (a_t_spoonPlaces, .inl (cT 0, 5, .inl t_spoonPlaces)), (a_t_lastParts, .inl (cT 0, 24, .inl t_lastParts))]) [0, 2, 3, 1, 4, 5, 6] rfl) (ds hD [0, 2, 3, 1, 4, 5, 6] (by decide) rfl)) (cV hta lm_X6_71 md_X6_fitsToken ⟨(Nat.le_of_ble_eq_true rfl), (Nat.le_of_ble_eq_true rfl)⟩) ⟨fbK, va_recv hK hP (ci := 9) (q0 := 0) rfl rfl, fun U hU hW => ⟨rfl, hU, va_K.moved hW.alike hK⟩⟩ rfl rfl hl.1 rfl (lv_room (Nat.le_of_ble_eq_true rfl)) dX6_fits_77 ⟨(Nat.le_of_ble_eq_true rfl), (Nat.le_of_ble_eq_true rfl)⟩) hS hA hP hD [0, 2, 3, 1, 4, 5, 6] rfl [.inl 0, .inl 3, .inl 1, .inl 2, .inl 4, .inl 5, .inl 6] rfl rfl rfl (fun H locs hP hD hS => ?_)
      obtain ⟨hc, h⟩ := gc_some h
      have ho := Option.some.inj h
      rw [hQ]
      exact W.zret (ty := .boolean) (v := r10.1) hx hb hr (bo_n hc) (fun t ht hW => ⟨⟨r10.1, (), rfl, by rw [← ho], by show va_P (dC, dI) vwCl _ t.heap; rw [ht, ← ho]; exact hP⟩, hS.F ht⟩) hS.2.2 dX6_fits_80
  unfold g_X6_fits at h
  refine lv_aload_n hx hb dX6_fits_0 rfl (lv_at hl 0 rfl) ?_
  refine va_get (D := (dC, dI)) (ci := 9) (v := .int t_awaitsLetter) (C := RX6) (T := TX6) (N := 12) hx hb hta inX6w hown hK hP 0 rfl rfl 10 (by decide) (hta _ lk_X6_44) (fun _ h9 => h9) rfl dX6_fits_1 ?_
  refine lv_if_eq (tgt := 37) hx hb dX6_fits_4 (by decide) (fun c0 => ?_) (fun c0 => ?_)
  · have h := (if_pos c0).symm.trans h
    refine lv_iload_n hx hb dX6_fits_37 rfl (lv_at hl 1 rfl) ?_
    refine lv_bipush (v := 48) hx hb dX6_fits_38 (by decide) ?_
    refine lv_icmp_lt (tgt := 55) hx hb dX6_fits_40 (by decide) (fun c0 => ?_) (fun c0 => ?_)
    · have h := (if_pos c0).symm.trans h
      exact wB_55 _ _ _ h hP hD hS (lv_sub hl [0, 1] rfl)
    · have h := (if_neg c0).symm.trans h
      refine lv_iload_n hx hb dX6_fits_43 rfl (lv_at hl 1 rfl) ?_
      refine lv_bipush (v := 57) hx hb dX6_fits_44 (by decide) ?_
      refine lv_icmp_gt (tgt := 55) hx hb dX6_fits_46 (by decide) (fun c0 => ?_) (fun c0 => ?_)
      · have h := (if_pos c0).symm.trans h
        exact wB_55 _ _ _ h hP hD hS (lv_sub hl [0, 1] rfl)
      · have h := (if_neg c0).symm.trans h
        refine lv_aload_n hx hb dX6_fits_49 rfl (lv_at hl 0 rfl) ?_
        refine lv_iload_n hx hb dX6_fits_50 rfl (lv_at hl 1 rfl) ?_
        obtain ⟨r1, hq, h⟩ := gb_some h
        refine cxI (X2 := [(a_t, .inr (9, [.int r1.2.1, .int t_stores, .int r1.2.2.1, .ref a_t_firsts, .ref a_t_kinds, .ref a_t_values, .ref a_t_parts, .ref a_t_lastParts, .ref a_t_spoonPlaces, .int r1.2.2.2.1, .int t_awaitsLetter, .int r1.2.2.2.2.1])), (a_t_values, .inl (cT 0, 24, .inl r1.2.2.2.2.2.1)), (a_t_firsts, .inl (cT 2, 24, .inl r1.2.2.2.2.2.2.1)), (a_t_kinds, .inl (cT 0, 24, .inl r1.2.2.2.2.2.2.2.1)), (a_t_parts, .inl (cT 0, 24, .inl r1.2.2.2.2.2.2.2.2.1)), (a_t_spoonPlaces, .inl (cT 0, 5, .inl r1.2.2.2.2.2.2.2.2.2.1)), (a_t_lastParts, .inl (cT 0, 24, .inl r1.2.2.2.2.2.2.2.2.2.2))]) (va_runV (As := [.int p1]) (rest := []) ⟨hx, hb, hml, hown, hta⟩ (c_X6_fitsDigit l dC dI cT hq (hP.sub (ws' := [(a_t, .inr (9, [.int t_tokens, .int t_stores, .int t_mostSpoons, .ref a_t_firsts, .ref a_t_kinds, .ref a_t_values, .ref a_t_parts, .ref a_t_lastParts, .ref a_t_spoonPlaces, .int t_spoons, .int t_awaitsLetter, .int t_awaitsDigit])), (a_t_values, .inl (cT 0, 24, .inl t_values)), (a_t_firsts, .inl (cT 2, 24, .inl t_firsts)), (a_t_kinds, .inl (cT 0, 24, .inl t_kinds)), (a_t_parts, .inl (cT 0, 24, .inl t_parts)), (a_t_spoonPlaces, .inl (cT 0, 5, .inl t_spoonPlaces)), (a_t_lastParts, .inl (cT 0, 24, .inl t_lastParts))]) [0, 1, 2, 3, 4, 5, 6] rfl) (ds hD [0, 1, 2, 3, 4, 5, 6] (by decide) rfl)) (cV hta lm_X6_68 md_X6_fitsDigit ⟨(Nat.le_of_ble_eq_true rfl), (Nat.le_of_ble_eq_true rfl)⟩) ⟨fbK, va_recv hK hP (ci := 9) (q0 := 0) rfl rfl, fun U hU hW => ⟨rfl, hU, va_K.moved hW.alike hK⟩⟩ rfl rfl hl.1 rfl (lv_room (Nat.le_of_ble_eq_true rfl)) dX6_fits_51 ⟨(Nat.le_of_ble_eq_true rfl), (Nat.le_of_ble_eq_true rfl)⟩) hS hA hP hD [0, 1, 2, 3, 4, 5, 6] rfl [.inl 0, .inl 1, .inl 2, .inl 3, .inl 4, .inl 5, .inl 6] rfl rfl rfl (fun H locs hP hD hS => ?_)
        obtain ⟨hc, h⟩ := gc_some h
        have ho := Option.some.inj h
        rw [hQ]
        exact W.zret (ty := .boolean) (v := r1.1) hx hb hr (bo_n hc) (fun t ht hW => ⟨⟨r1.1, (), rfl, by rw [← ho], by show va_P (dC, dI) vwCl _ t.heap; rw [ht, ← ho]; exact hP⟩, hS.F ht⟩) hS.2.2 dX6_fits_54
  · have h := (if_neg c0).symm.trans h
    refine lv_aload_n hx hb dX6_fits_7 rfl (lv_at hl 0 rfl) ?_
    refine lv_iconst (v := 0) hx hb dX6_fits_8 (by decide) ?_
    refine va_put (D := (dC, dI)) (ci := 9) (v := .int 0) (ty := .boolean) (C := RX6) (T := TX6) (N := 12) hx hb hta inX6w tyX6 tyX6_ok nmX6 hown hK hP hD hS 0 rfl rfl 10 (by decide) (hta _ lk_X6_44) (fun _ h9 => h9) rfl (by decide +kernel) rfl rfl (Nat.le_of_ble_eq_true rfl) dX6_fits_9 (fun H locs hP hD hS => ?_)
    have hP : va_P (dC, dI) vwCl [(a_t, .inr (9, [.int t_tokens, .int t_stores, .int t_mostSpoons, .ref a_t_firsts, .ref a_t_kinds, .ref a_t_values, .ref a_t_parts, .ref a_t_lastParts, .ref a_t_spoonPlaces, .int t_spoons, .int 0, .int t_awaitsDigit])), (a_t_values, .inl (cT 0, 24, .inl t_values)), (a_t_firsts, .inl (cT 2, 24, .inl t_firsts)), (a_t_kinds, .inl (cT 0, 24, .inl t_kinds)), (a_t_parts, .inl (cT 0, 24, .inl t_parts)), (a_t_spoonPlaces, .inl (cT 0, 5, .inl t_spoonPlaces)), (a_t_lastParts, .inl (cT 0, 24, .inl t_lastParts))] H := hP
    have hD : va_D A [(a_t, .inr (9, [.int t_tokens, .int t_stores, .int t_mostSpoons, .ref a_t_firsts, .ref a_t_kinds, .ref a_t_values, .ref a_t_parts, .ref a_t_lastParts, .ref a_t_spoonPlaces, .int t_spoons, .int 0, .int t_awaitsDigit])), (a_t_values, .inl (cT 0, 24, .inl t_values)), (a_t_firsts, .inl (cT 2, 24, .inl t_firsts)), (a_t_kinds, .inl (cT 0, 24, .inl t_kinds)), (a_t_parts, .inl (cT 0, 24, .inl t_parts)), (a_t_spoonPlaces, .inl (cT 0, 5, .inl t_spoonPlaces)), (a_t_lastParts, .inl (cT 0, 24, .inl t_lastParts))] := hD
    refine lv_aload_n hx hb dX6_fits_12 rfl (lv_at hl 0 rfl) ?_
    refine lv_iload_n hx hb dX6_fits_13 rfl (lv_at hl 1 rfl) ?_
    obtain ⟨r2, hq, h⟩ := gb_some h
    refine crI (va_runV (As := [.int p1]) (rest := []) ⟨hx, hb, hml, hown, hta⟩ (c_X6_isLetter l dC dI cT hq (hP.sub (ws' := [(a_t, .inr (9, [.int t_tokens, .int t_stores, .int t_mostSpoons, .ref a_t_firsts, .ref a_t_kinds, .ref a_t_values, .ref a_t_parts, .ref a_t_lastParts, .ref a_t_spoonPlaces, .int t_spoons, .int 0, .int t_awaitsDigit]))]) [0] rfl)) (cV hta lm_X6_61 md_X6_isLetter ⟨(Nat.le_of_ble_eq_true rfl), (Nat.le_of_ble_eq_true rfl)⟩) ⟨fbK, va_recv hK hP (ci := 9) (q0 := 0) rfl rfl, fun U hU hW => ⟨rfl, hU, va_K.moved hW.alike hK⟩⟩ rfl rfl hl.1 rfl (lv_room (Nat.le_of_ble_eq_true rfl)) dX6_fits_14 ⟨(Nat.le_of_ble_eq_true rfl), (Nat.le_of_ble_eq_true rfl)⟩) hS hA (fun locs hS => ?_)
    refine lv_if_eq (tgt := 35) hx hb dX6_fits_17 (by decide) (fun c0 => ?_) (fun c0 => ?_)
    · have h := (if_pos c0).symm.trans h
      refine lv_iconst (v := 0) hx hb dX6_fits_35 (by decide) ?_
      have ho := Option.some.inj h
      rw [hQ]
      exact W.zret (ty := .boolean) (v := 0) hx hb hr rfl (fun t ht hW => ⟨⟨0, (), rfl, by rw [← ho], by show va_P (dC, dI) vwCl _ t.heap; rw [ht, ← ho]; exact hP⟩, hS.F ht⟩) hS.2.2 dX6_fits_36
    · have h := (if_neg c0).symm.trans h
      refine lv_aload_n hx hb dX6_fits_20 rfl (lv_at hl 0 rfl) ?_
      refine lv_iload_n hx hb dX6_fits_21 rfl (lv_at hl 1 rfl) ?_
      refine lv_bipush (v := 97) hx hb dX6_fits_22 (by decide) ?_
      refine lv_isub hx hb dX6_fits_24 ?_
      obtain ⟨r3, hq, h⟩ := gb_some h
      refine cxI (X2 := [(a_t, .inr (9, [.int r3.2.1, .int r3.2.2.1, .int r3.2.2.2.1, .ref a_t_firsts, .ref a_t_kinds, .ref a_t_values, .ref a_t_parts, .ref a_t_lastParts, .ref a_t_spoonPlaces, .int r3.2.2.2.2.1, .int 0, .int t_awaitsDigit])), (a_t_values, .inl (cT 0, 24, .inl r3.2.2.2.2.2.2.2.1)), (a_t_firsts, .inl (cT 2, 24, .inl r3.2.2.2.2.2.1)), (a_t_kinds, .inl (cT 0, 24, .inl r3.2.2.2.2.2.2.1)), (a_t_parts, .inl (cT 0, 24, .inl r3.2.2.2.2.2.2.2.2.1)), (a_t_spoonPlaces, .inl (cT 0, 5, .inl r3.2.2.2.2.2.2.2.2.2.1)), (a_t_lastParts, .inl (cT 0, 24, .inl r3.2.2.2.2.2.2.2.2.2.2))]) (va_runV (As := [.int (p1 - 97)]) (rest := []) ⟨hx, hb, hml, hown, hta⟩ (c_X6_fitsStore l dC dI cT hq (hP.sub (ws' := [(a_t, .inr (9, [.int t_tokens, .int t_stores, .int t_mostSpoons, .ref a_t_firsts, .ref a_t_kinds, .ref a_t_values, .ref a_t_parts, .ref a_t_lastParts, .ref a_t_spoonPlaces, .int t_spoons, .int 0, .int t_awaitsDigit])), (a_t_firsts, .inl (cT 2, 24, .inl t_firsts)), (a_t_kinds, .inl (cT 0, 24, .inl t_kinds)), (a_t_values, .inl (cT 0, 24, .inl t_values)), (a_t_parts, .inl (cT 0, 24, .inl t_parts)), (a_t_spoonPlaces, .inl (cT 0, 5, .inl t_spoonPlaces)), (a_t_lastParts, .inl (cT 0, 24, .inl t_lastParts))]) [0, 2, 3, 1, 4, 5, 6] rfl) (ds hD [0, 2, 3, 1, 4, 5, 6] (by decide) rfl)) (cV hta lm_X6_64 md_X6_fitsStore ⟨(Nat.le_of_ble_eq_true rfl), (Nat.le_of_ble_eq_true rfl)⟩) ⟨fbK, va_recv hK hP (ci := 9) (q0 := 0) rfl rfl, fun U hU hW => ⟨rfl, hU, va_K.moved hW.alike hK⟩⟩ rfl rfl hl.1 rfl (lv_room (Nat.le_of_ble_eq_true rfl)) dX6_fits_25 ⟨(Nat.le_of_ble_eq_true rfl), (Nat.le_of_ble_eq_true rfl)⟩) hS hA hP hD [0, 2, 3, 1, 4, 5, 6] rfl [.inl 0, .inl 3, .inl 1, .inl 2, .inl 4, .inl 5, .inl 6] rfl rfl rfl (fun H locs hP hD hS => ?_)
      refine lv_if_eq (tgt := 35) hx hb dX6_fits_28 (by decide) (fun c0 => ?_) (fun c0 => ?_)
      · have h := (if_pos c0).symm.trans h
        refine lv_iconst (v := 0) hx hb dX6_fits_35 (by decide) ?_
        have ho := Option.some.inj h
        rw [hQ]
        exact W.zret (ty := .boolean) (v := 0) hx hb hr rfl (fun t ht hW => ⟨⟨0, (), rfl, by rw [← ho], by show va_P (dC, dI) vwCl _ t.heap; rw [ht, ← ho]; exact hP⟩, hS.F ht⟩) hS.2.2 dX6_fits_36
      · have h := (if_neg c0).symm.trans h
        refine lv_iconst (v := 1) hx hb dX6_fits_31 (by decide) ?_
        refine lv_goto (tgt := 36) hx hb dX6_fits_32 (by decide) ?_
        have ho := Option.some.inj h
        rw [hQ]
        exact W.zret (ty := .boolean) (v := 1) hx hb hr rfl (fun t ht hW => ⟨⟨1, (), rfl, by rw [← ho], by show va_P (dC, dI) vwCl _ t.heap; rw [ht, ← ho]; exact hP⟩, hS.F ht⟩) hS.2.2 dX6_fits_36
set_option maxHeartbeats 4000000 in
set_option maxRecDepth 100000 in
theorem c_X6_errorIn (l : Launch) (dC : Nat → ClassId) (dI : Nat → Nat → Nat) (cT : Nat → ClassId) {Hh : Heap} {a_t : Nat} {a_p1 : Nat} {a_t_values : Nat} {a_t_firsts : Nat} {a_t_kinds : Nat} {a_t_parts : Nat} {a_t_spoonPlaces : Nat} {a_t_lastParts : Nat} {n_p1 : Nat} {t_tokens : Int32} {t_stores : Int32} {t_mostSpoons : Int32} {t_spoons : Int32} {t_awaitsLetter : Int32} {t_awaitsDigit : Int32} {p1 : Nat → Int32} {t_values : Nat → Int32} {t_firsts : Nat → Int32} {t_kinds : Nat → Int32} {t_parts : Nat → Int32} {t_spoonPlaces : Nat → Int32} {t_lastParts : Nat → Int32} {p2 : Int32} {o : Int32 × Int32 × Int32 × Int32 × Int32 × Int32 × Int32 × (Nat → Int32) × (Nat → Int32) × (Nat → Int32) × (Nat → Int32) × (Nat → Int32) × (Nat → Int32)} (h : g_X6_errorIn n_p1 t_tokens t_stores t_mostSpoons t_spoons t_awaitsLetter t_awaitsDigit p1 t_values t_firsts t_kinds t_parts t_spoonPlaces t_lastParts p2 = some o) (hP0 : va_P (dC, dI) vwCl [(a_t, .inr (9, [.int t_tokens, .int t_stores, .int t_mostSpoons, .ref a_t_firsts, .ref a_t_kinds, .ref a_t_values, .ref a_t_parts, .ref a_t_lastParts, .ref a_t_spoonPlaces, .int t_spoons, .int t_awaitsLetter, .int t_awaitsDigit])), (a_t_values, .inl (cT 0, 24, .inl t_values)), (a_t_firsts, .inl (cT 2, 24, .inl t_firsts)), (a_t_kinds, .inl (cT 0, 24, .inl t_kinds)), (a_t_parts, .inl (cT 0, 24, .inl t_parts)), (a_t_spoonPlaces, .inl (cT 0, 5, .inl t_spoonPlaces)), (a_t_lastParts, .inl (cT 0, 24, .inl t_lastParts))] Hh) (hR0 : va_P (dC, dI) vwCl [(a_p1, .inl (cT 2, n_p1, .inl p1))] Hh) (hD0 : va_D (fun _ => True) [(a_t, .inr (9, [.int t_tokens, .int t_stores, .int t_mostSpoons, .ref a_t_firsts, .ref a_t_kinds, .ref a_t_values, .ref a_t_parts, .ref a_t_lastParts, .ref a_t_spoonPlaces, .int t_spoons, .int t_awaitsLetter, .int t_awaitsDigit])), (a_t_values, .inl (cT 0, 24, .inl t_values)), (a_t_firsts, .inl (cT 2, 24, .inl t_firsts)), (a_t_kinds, .inl (cT 0, 24, .inl t_kinds)), (a_t_parts, .inl (cT 0, 24, .inl t_parts)), (a_t_spoonPlaces, .inl (cT 0, 5, .inl t_spoonPlaces)), (a_t_lastParts, .inl (cT 0, 24, .inl t_lastParts))]) (hN0 : ∀ (k : Nat) (q : Nat × va_E), ([(a_p1, .inl (cT 2, n_p1, .inl p1))] : va_W)[k]? = some q → ¬ va_A [(a_t, .inr (9, [.int t_tokens, .int t_stores, .int t_mostSpoons, .ref a_t_firsts, .ref a_t_kinds, .ref a_t_values, .ref a_t_parts, .ref a_t_lastParts, .ref a_t_spoonPlaces, .int t_spoons, .int t_awaitsLetter, .int t_awaitsDigit])), (a_t_values, .inl (cT 0, 24, .inl t_values)), (a_t_firsts, .inl (cT 2, 24, .inl t_firsts)), (a_t_kinds, .inl (cT 0, 24, .inl t_kinds)), (a_t_parts, .inl (cT 0, 24, .inl t_parts)), (a_t_spoonPlaces, .inl (cT 0, 5, .inl t_spoonPlaces)), (a_t_lastParts, .inl (cT 0, 24, .inl t_lastParts))] Hh.size q.1) : Met l yX6_errorIn (wA yX6_errorIn cX6_errorIn 5 (some .int)) ({ frames := 4, cells := 0, slots := 0, locals := 91 } : Room) (PK dC dI cT [.ref a_t, .ref a_p1, .int p2] Hh) (va_Qi (fun x (_ : Unit) => x = o.1) (fun _ t => va_P (dC, dI) vwCl [(a_t, .inr (9, [.int o.2.1, .int o.2.2.1, .int o.2.2.2.1, .ref a_t_firsts, .ref a_t_kinds, .ref a_t_values, .ref a_t_parts, .ref a_t_lastParts, .ref a_t_spoonPlaces, .int o.2.2.2.2.1, .int o.2.2.2.2.2.1, .int o.2.2.2.2.2.2.1])), (a_t_values, .inl (cT 0, 24, .inl o.2.2.2.2.2.2.2.1)), (a_t_firsts, .inl (cT 2, 24, .inl o.2.2.2.2.2.2.2.2.1)), (a_t_kinds, .inl (cT 0, 24, .inl o.2.2.2.2.2.2.2.2.2.1)), (a_t_parts, .inl (cT 0, 24, .inl o.2.2.2.2.2.2.2.2.2.2.1)), (a_t_spoonPlaces, .inl (cT 0, 5, .inl o.2.2.2.2.2.2.2.2.2.2.2.1)), (a_t_lastParts, .inl (cT 0, 24, .inl o.2.2.2.2.2.2.2.2.2.2.2.2))] t.heap) (va_A [(a_t, .inr (9, [.int t_tokens, .int t_stores, .int t_mostSpoons, .ref a_t_firsts, .ref a_t_kinds, .ref a_t_values, .ref a_t_parts, .ref a_t_lastParts, .ref a_t_spoonPlaces, .int t_spoons, .int t_awaitsLetter, .int t_awaitsDigit])), (a_t_values, .inl (cT 0, 24, .inl t_values)), (a_t_firsts, .inl (cT 2, 24, .inl t_firsts)), (a_t_kinds, .inl (cT 0, 24, .inl t_kinds)), (a_t_parts, .inl (cT 0, 24, .inl t_parts)), (a_t_spoonPlaces, .inl (cT 0, 5, .inl t_spoonPlaces)), (a_t_lastParts, .inl (cT 0, 24, .inl t_lastParts))] Hh.size)) 0 0 (va_A [(a_t, .inr (9, [.int t_tokens, .int t_stores, .int t_mostSpoons, .ref a_t_firsts, .ref a_t_kinds, .ref a_t_values, .ref a_t_parts, .ref a_t_lastParts, .ref a_t_spoonPlaces, .int t_spoons, .int t_awaitsLetter, .int t_awaitsDigit])), (a_t_values, .inl (cT 0, 24, .inl t_values)), (a_t_firsts, .inl (cT 2, 24, .inl t_firsts)), (a_t_kinds, .inl (cT 0, 24, .inl t_kinds)), (a_t_parts, .inl (cT 0, 24, .inl t_parts)), (a_t_spoonPlaces, .inl (cT 0, 5, .inl t_spoonPlaces)), (a_t_lastParts, .inl (cT 0, 24, .inl t_lastParts))] Hh.size) := by
  refine Met.ofW (cc := cX6_errorIn) (maxL := 5) (ret := (some .int)) (by decide) rfl ?_
  intro p e s m args below meth c s₁ B hml hv
  obtain ⟨rfl, hH, hK⟩ := hv
  subst hH
  have hx := B.exec
  have hb := B.bytes
  have hr := B.returns
  have hta : ∀ w ∈ ALLW, w.before [.ref a_t, .ref a_p1, .int p2].toArray s = true := fun w hw => atoms_spec (ws := wA yX6_errorIn cX6_errorIn 5 (some .int)) B.pre w (List.mem_cons_of_mem _ hw)
  have hown : s.vm.findClass RX6 = some m.cls := findClass_of_methodNamed B.named
  have hlocks := B.notSynchronized
  have hD := hD0.self (sz := s.heap.size)
  have hNA := hN0
  generalize hAe : va_A [(a_t, .inr (9, [.int t_tokens, .int t_stores, .int t_mostSpoons, .ref a_t_firsts, .ref a_t_kinds, .ref a_t_values, .ref a_t_parts, .ref a_t_lastParts, .ref a_t_spoonPlaces, .int t_spoons, .int t_awaitsLetter, .int t_awaitsDigit])), (a_t_values, .inl (cT 0, 24, .inl t_values)), (a_t_firsts, .inl (cT 2, 24, .inl t_firsts)), (a_t_kinds, .inl (cT 0, 24, .inl t_kinds)), (a_t_parts, .inl (cT 0, 24, .inl t_parts)), (a_t_spoonPlaces, .inl (cT 0, 5, .inl t_spoonPlaces)), (a_t_lastParts, .inl (cT 0, 24, .inl t_lastParts))] s.heap.size = A at hD hNA ⊢
  have hP := hP0
  have hA : ∀ q : Nat, s.heap.size ≤ q → A q := fun q h => by rw [← hAe]; exact Or.inr h
  have hS : va_S A s.heap s.heap [] := va_S.rf
  have hl := lv_entry [.ref a_t, .ref a_p1, .int p2] (n := 5) (Nat.le_of_ble_eq_true rfl)
  rw [lg_entry_eq]
  generalize (lg_sl [.ref a_t, .ref a_p1, .int p2] ++ List.replicate (5 - (lg_sl [.ref a_t, .ref a_p1, .int p2]).length) Slot.unset).toArray = ls at hl ⊢
  have hl : lv_has ls 5 [(0, .ref a_t), (1, .ref a_p1), (2, .int p2)] := hl
  obtain ⟨Q, hQ⟩ : ∃ Q, Q = MQ below (va_Qi (fun x (_ : Unit) => x = o.1) (fun _ t => va_P (dC, dI) vwCl [(a_t, .inr (9, [.int o.2.1, .int o.2.2.1, .int o.2.2.2.1, .ref a_t_firsts, .ref a_t_kinds, .ref a_t_values, .ref a_t_parts, .ref a_t_lastParts, .ref a_t_spoonPlaces, .int o.2.2.2.2.1, .int o.2.2.2.2.2.1, .int o.2.2.2.2.2.2.1])), (a_t_values, .inl (cT 0, 24, .inl o.2.2.2.2.2.2.2.1)), (a_t_firsts, .inl (cT 2, 24, .inl o.2.2.2.2.2.2.2.2.1)), (a_t_kinds, .inl (cT 0, 24, .inl o.2.2.2.2.2.2.2.2.2.1)), (a_t_parts, .inl (cT 0, 24, .inl o.2.2.2.2.2.2.2.2.2.2.1)), (a_t_spoonPlaces, .inl (cT 0, 5, .inl o.2.2.2.2.2.2.2.2.2.2.2.1)), (a_t_lastParts, .inl (cT 0, 24, .inl o.2.2.2.2.2.2.2.2.2.2.2.2))] t.heap) A) [.ref a_t, .ref a_p1, .int p2].toArray s 0 0 A := ⟨_, rfl⟩
  rw [← hQ]
  have wB_40 : ∀ (n_40 : Nat), ∀ (t_firsts_40 : Nat → Int32) (t_kinds_40 : Nat → Int32) (t_lastParts_40 : Nat → Int32) (t_parts_40 : Nat → Int32) (t_spoonPlaces_40 : Nat → Int32) (t_values_40 : Nat → Int32) (t_tokens_40 : Int32) (t_stores_40 : Int32) (t_awaitsLetter_40 : Int32) (t_awaitsDigit_40 : Int32) (t_mostSpoons_40 : Int32) (t_spoons_40 : Int32) (x3_40 : Int32) (x4_40 : Int32) (H : Heap) (locs : List Loc) (ls : Array Slot), g_X6_errorIn_b40 n_p1 p1 n_40 t_firsts_40 t_kinds_40 t_lastParts_40 t_parts_40 t_spoonPlaces_40 t_values_40 t_tokens_40 t_stores_40 t_awaitsLetter_40 t_awaitsDigit_40 t_mostSpoons_40 t_spoons_40 x3_40 x4_40 = some o → va_P (dC, dI) vwCl [(a_t, .inr (9, [.int t_tokens_40, .int t_stores_40, .int t_mostSpoons_40, .ref a_t_firsts, .ref a_t_kinds, .ref a_t_values, .ref a_t_parts, .ref a_t_lastParts, .ref a_t_spoonPlaces, .int t_spoons_40, .int t_awaitsLetter_40, .int t_awaitsDigit_40])), (a_t_values, .inl (cT 0, 24, .inl t_values_40)), (a_t_firsts, .inl (cT 2, 24, .inl t_firsts_40)), (a_t_kinds, .inl (cT 0, 24, .inl t_kinds_40)), (a_t_parts, .inl (cT 0, 24, .inl t_parts_40)), (a_t_spoonPlaces, .inl (cT 0, 5, .inl t_spoonPlaces_40)), (a_t_lastParts, .inl (cT 0, 24, .inl t_lastParts_40))] H → va_D A [(a_t, .inr (9, [.int t_tokens_40, .int t_stores_40, .int t_mostSpoons_40, .ref a_t_firsts, .ref a_t_kinds, .ref a_t_values, .ref a_t_parts, .ref a_t_lastParts, .ref a_t_spoonPlaces, .int t_spoons_40, .int t_awaitsLetter_40, .int t_awaitsDigit_40])), (a_t_values, .inl (cT 0, 24, .inl t_values_40)), (a_t_firsts, .inl (cT 2, 24, .inl t_firsts_40)), (a_t_kinds, .inl (cT 0, 24, .inl t_kinds_40)), (a_t_parts, .inl (cT 0, 24, .inl t_parts_40)), (a_t_spoonPlaces, .inl (cT 0, 5, .inl t_spoonPlaces_40)), (a_t_lastParts, .inl (cT 0, 24, .inl t_lastParts_40))] → va_S A s.heap H locs → lv_has ls 5 [(0, .ref a_t), (1, .ref a_p1), (3, .int x3_40), (4, .int x4_40)] → W p l e ({ frames := 4, cells := 0, slots := 0, locals := 91 } : Room) s m [.ref a_t, .ref a_p1, .int p2].toArray below meth c H locs 0 0 Q (F0 m 40 ls []) := by
    intro n_40
    induction n_40 with
    | zero =>
      intro t_firsts_40 t_kinds_40 t_lastParts_40 t_parts_40 t_spoonPlaces_40 t_values_40 t_tokens_40 t_stores_40 t_awaitsLetter_40 t_awaitsDigit_40 t_mostSpoons_40 t_spoons_40 x3_40 x4_40 H locs ls h hP hD hS hl
      simp [g_X6_errorIn_b40] at h
    | succ n_40 ih_40 =>
      intro t_firsts_40 t_kinds_40 t_lastParts_40 t_parts_40 t_spoonPlaces_40 t_values_40 t_tokens_40 t_stores_40 t_awaitsLetter_40 t_awaitsDigit_40 t_mostSpoons_40 t_spoons_40 x3_40 x4_40 H locs ls h hP hD hS hl
      rw [g_X6_errorIn_b40] at h
      refine lv_iload hx hb dX6_errorIn_40 (lv_at hl 3 rfl) ?_
      refine lv_iload_n hx hb dX6_errorIn_42 rfl (lv_at hl 2 rfl) ?_
      refine lv_icmp_ge (tgt := 66) hx hb dX6_errorIn_43 (by decide) (fun c0 => ?_) (fun c0 => ?_)
      · have h := (if_pos c0).symm.trans h
        refine lv_aload_n hx hb dX6_errorIn_66 rfl (lv_at hl 0 rfl) ?_
        refine va_get (D := (dC, dI)) (ci := 9) (v := .int t_stores_40) (C := RX6) (T := TX6) (N := 12) hx hb hta inX6w hown hK hP 0 rfl rfl 1 (by decide) (hta _ lk_X6_35) (fun _ h9 => h9) rfl dX6_errorIn_67 ?_
        refine lv_if_le (tgt := 91) hx hb dX6_errorIn_70 (by decide) (fun c0 => ?_) (fun c0 => ?_)
        · have h := (if_pos c0).symm.trans h
          refine lv_iload_n hx hb dX6_errorIn_91 rfl (lv_at hl 2 rfl) ?_
          have ho := Option.some.inj h
          rw [hQ]
          exact W.iret (v := x3_40) hx hb hr (fun t ht hW => ⟨⟨x3_40, (), rfl, by rw [← ho], by show va_P (dC, dI) vwCl _ t.heap; rw [ht, ← ho]; exact hP⟩, hS.F ht⟩) hS.2.2 dX6_errorIn_92
        · have h := (if_neg c0).symm.trans h
          refine lv_aload_n hx hb dX6_errorIn_73 rfl (lv_at hl 0 rfl) ?_
          refine va_get (D := (dC, dI)) (ci := 9) (v := .int t_spoons_40) (C := RX6) (T := TX6) (N := 12) hx hb hta inX6w hown hK hP 0 rfl rfl 9 (by decide) (hta _ lk_X6_41) (fun _ h9 => h9) rfl dX6_errorIn_74 ?_
          refine lv_if_ne (tgt := 91) hx hb dX6_errorIn_77 (by decide) (fun c0 => ?_) (fun c0 => ?_)
          · have h := (if_neg c0).symm.trans h
            refine lv_iload_n hx hb dX6_errorIn_91 rfl (lv_at hl 2 rfl) ?_
            have ho := Option.some.inj h
            rw [hQ]
            exact W.iret (v := x3_40) hx hb hr (fun t ht hW => ⟨⟨x3_40, (), rfl, by rw [← ho], by show va_P (dC, dI) vwCl _ t.heap; rw [ht, ← ho]; exact hP⟩, hS.F ht⟩) hS.2.2 dX6_errorIn_92
          · have h := (if_pos c0).symm.trans h
            refine lv_aload_n hx hb dX6_errorIn_80 rfl (lv_at hl 0 rfl) ?_
            refine va_get (D := (dC, dI)) (ci := 9) (v := .int t_awaitsLetter_40) (C := RX6) (T := TX6) (N := 12) hx hb hta inX6w hown hK hP 0 rfl rfl 10 (by decide) (hta _ lk_X6_44) (fun _ h9 => h9) rfl dX6_errorIn_81 ?_
            refine lv_if_ne (tgt := 91) hx hb dX6_errorIn_84 (by decide) (fun c0 => ?_) (fun c0 => ?_)
            · have h := (if_neg c0).symm.trans h
              refine lv_iload_n hx hb dX6_errorIn_91 rfl (lv_at hl 2 rfl) ?_
              have ho := Option.some.inj h
              rw [hQ]
              exact W.iret (v := x3_40) hx hb hr (fun t ht hW => ⟨⟨x3_40, (), rfl, by rw [← ho], by show va_P (dC, dI) vwCl _ t.heap; rw [ht, ← ho]; exact hP⟩, hS.F ht⟩) hS.2.2 dX6_errorIn_92
            · have h := (if_pos c0).symm.trans h
              refine lv_iconst (v := -1) hx hb dX6_errorIn_87 (by decide) ?_
              refine lv_goto (tgt := 92) hx hb dX6_errorIn_88 (by decide) ?_
              have ho := Option.some.inj h
              rw [hQ]
              exact W.iret (v := (-1)) hx hb hr (fun t ht hW => ⟨⟨(-1), (), rfl, by rw [← ho], by show va_P (dC, dI) vwCl _ t.heap; rw [ht, ← ho]; exact hP⟩, hS.F ht⟩) hS.2.2 dX6_errorIn_92
      · have h := (if_neg c0).symm.trans h
        refine lv_aload_n hx hb dX6_errorIn_46 rfl (lv_at hl 0 rfl) ?_
        refine lv_aload_n hx hb dX6_errorIn_47 rfl (lv_at hl 1 rfl) ?_
        refine lv_iload hx hb dX6_errorIn_48 (lv_at hl 3 rfl) ?_
        obtain ⟨hc, h⟩ := gc_some h
        refine va_cald hx hb hK (rk hR0 hNA hS) 0 2 rfl rfl (inb_in hc) dX6_errorIn_50 ?_
        obtain ⟨r2, hq, h⟩ := gb_some h
        refine cxI (X2 := [(a_t, .inr (9, [.int r2.2.1, .int r2.2.2.1, .int r2.2.2.2.1, .ref a_t_firsts, .ref a_t_kinds, .ref a_t_values, .ref a_t_parts, .ref a_t_lastParts, .ref a_t_spoonPlaces, .int r2.2.2.2.2.1, .int r2.2.2.2.2.2.1, .int r2.2.2.2.2.2.2.1])), (a_t_values, .inl (cT 0, 24, .inl r2.2.2.2.2.2.2.2.1)), (a_t_firsts, .inl (cT 2, 24, .inl r2.2.2.2.2.2.2.2.2.1)), (a_t_kinds, .inl (cT 0, 24, .inl r2.2.2.2.2.2.2.2.2.2.1)), (a_t_parts, .inl (cT 0, 24, .inl r2.2.2.2.2.2.2.2.2.2.2.1)), (a_t_spoonPlaces, .inl (cT 0, 5, .inl r2.2.2.2.2.2.2.2.2.2.2.2.1)), (a_t_lastParts, .inl (cT 0, 24, .inl r2.2.2.2.2.2.2.2.2.2.2.2.2))]) (va_runV (As := [.int (p1 x4_40.toNatClampNeg)]) (rest := []) ⟨hx, hb, hml, hown, hta⟩ (c_X6_fits l dC dI cT hq (hP.sub (ws' := [(a_t, .inr (9, [.int t_tokens_40, .int t_stores_40, .int t_mostSpoons_40, .ref a_t_firsts, .ref a_t_kinds, .ref a_t_values, .ref a_t_parts, .ref a_t_lastParts, .ref a_t_spoonPlaces, .int t_spoons_40, .int t_awaitsLetter_40, .int t_awaitsDigit_40])), (a_t_values, .inl (cT 0, 24, .inl t_values_40)), (a_t_firsts, .inl (cT 2, 24, .inl t_firsts_40)), (a_t_kinds, .inl (cT 0, 24, .inl t_kinds_40)), (a_t_parts, .inl (cT 0, 24, .inl t_parts_40)), (a_t_spoonPlaces, .inl (cT 0, 5, .inl t_spoonPlaces_40)), (a_t_lastParts, .inl (cT 0, 24, .inl t_lastParts_40))]) [0, 1, 2, 3, 4, 5, 6] rfl) (ds hD [0, 1, 2, 3, 4, 5, 6] (by decide) rfl)) (cV hta lm_X6_57 md_X6_fits ⟨(Nat.le_of_ble_eq_true rfl), (Nat.le_of_ble_eq_true rfl)⟩) ⟨fbK, va_recv hK hP (ci := 9) (q0 := 0) rfl rfl, fun U hU hW => ⟨rfl, hU, va_K.moved hW.alike hK⟩⟩ rfl rfl hl.1 rfl (lv_room (Nat.le_of_ble_eq_true rfl)) dX6_errorIn_51 ⟨(Nat.le_of_ble_eq_true rfl), (Nat.le_of_ble_eq_true rfl)⟩) hS hA hP hD [0, 1, 2, 3, 4, 5, 6] rfl [.inl 0, .inl 1, .inl 2, .inl 3, .inl 4, .inl 5, .inl 6] rfl rfl rfl (fun H locs hP hD hS => ?_)
        refine lv_if_ne (tgt := 60) hx hb dX6_errorIn_54 (by decide) (fun c0 => ?_) (fun c0 => ?_)
        · have h := (if_neg c0).symm.trans h
          obtain ⟨v3, e_v3⟩ : ∃ y : Int32, y = x4_40 + 1 := ⟨_, rfl⟩
          have h := gl_use e_v3 h
          refine lv_iinc (v := v3) (lv' := [(4, .int v3), (0, .ref a_t), (1, .ref a_p1), (3, .int x3_40)]) hx hb dX6_errorIn_60 hl (k := 3) rfl (by rw [e_v3]; rfl) (by decide) rfl (fun ls hl => ?_)
          refine lv_goto (tgt := 40) hx hb dX6_errorIn_63 (by decide) ?_
          exact ih_40 r2.2.2.2.2.2.2.2.2.1 r2.2.2.2.2.2.2.2.2.2.1 r2.2.2.2.2.2.2.2.2.2.2.2.2 r2.2.2.2.2.2.2.2.2.2.2.1 r2.2.2.2.2.2.2.2.2.2.2.2.1 r2.2.2.2.2.2.2.2.1 r2.2.1 r2.2.2.1 r2.2.2.2.2.2.1 r2.2.2.2.2.2.2.1 r2.2.2.2.1 r2.2.2.2.2.1 x3_40 v3 _ _ _ h hP hD hS (lv_sub hl [1, 2, 3, 0] rfl)
        · have h := (if_pos c0).symm.trans h
          refine lv_iload hx hb dX6_errorIn_57 (lv_at hl 3 rfl) ?_
          have ho := Option.some.inj h
          rw [hQ]
          exact W.iret (v := x4_40) hx hb hr (fun t ht hW => ⟨⟨x4_40, (), rfl, by rw [← ho], by show va_P (dC, dI) vwCl _ t.heap; rw [ht, ← ho]; exact hP⟩, hS.F ht⟩) hS.2.2 dX6_errorIn_59
  unfold g_X6_errorIn at h
  refine lv_aload_n hx hb dX6_errorIn_0 rfl (lv_at hl 0 rfl) ?_
  refine lv_iconst (v := 0) hx hb dX6_errorIn_1 (by decide) ?_
  refine va_put (D := (dC, dI)) (ci := 9) (v := .int 0) (ty := .int) (C := RX6) (T := TX6) (N := 12) hx hb hta inX6w tyX6 tyX6_ok nmX6 hown hK hP hD hS 0 rfl rfl 0 (by decide) (hta _ lk_X6_31) (fun _ h9 => h9) rfl (by decide +kernel) rfl rfl (Nat.le_of_ble_eq_true rfl) dX6_errorIn_2 (fun H locs hP hD hS => ?_)
  have hP : va_P (dC, dI) vwCl [(a_t, .inr (9, [.int 0, .int t_stores, .int t_mostSpoons, .ref a_t_firsts, .ref a_t_kinds, .ref a_t_values, .ref a_t_parts, .ref a_t_lastParts, .ref a_t_spoonPlaces, .int t_spoons, .int t_awaitsLetter, .int t_awaitsDigit])), (a_t_values, .inl (cT 0, 24, .inl t_values)), (a_t_firsts, .inl (cT 2, 24, .inl t_firsts)), (a_t_kinds, .inl (cT 0, 24, .inl t_kinds)), (a_t_parts, .inl (cT 0, 24, .inl t_parts)), (a_t_spoonPlaces, .inl (cT 0, 5, .inl t_spoonPlaces)), (a_t_lastParts, .inl (cT 0, 24, .inl t_lastParts))] H := hP
  have hD : va_D A [(a_t, .inr (9, [.int 0, .int t_stores, .int t_mostSpoons, .ref a_t_firsts, .ref a_t_kinds, .ref a_t_values, .ref a_t_parts, .ref a_t_lastParts, .ref a_t_spoonPlaces, .int t_spoons, .int t_awaitsLetter, .int t_awaitsDigit])), (a_t_values, .inl (cT 0, 24, .inl t_values)), (a_t_firsts, .inl (cT 2, 24, .inl t_firsts)), (a_t_kinds, .inl (cT 0, 24, .inl t_kinds)), (a_t_parts, .inl (cT 0, 24, .inl t_parts)), (a_t_spoonPlaces, .inl (cT 0, 5, .inl t_spoonPlaces)), (a_t_lastParts, .inl (cT 0, 24, .inl t_lastParts))] := hD
  refine lv_aload_n hx hb dX6_errorIn_5 rfl (lv_at hl 0 rfl) ?_
  refine lv_iconst (v := 0) hx hb dX6_errorIn_6 (by decide) ?_
  refine va_put (D := (dC, dI)) (ci := 9) (v := .int 0) (ty := .int) (C := RX6) (T := TX6) (N := 12) hx hb hta inX6w tyX6 tyX6_ok nmX6 hown hK hP hD hS 0 rfl rfl 1 (by decide) (hta _ lk_X6_35) (fun _ h9 => h9) rfl (by decide +kernel) rfl rfl (Nat.le_of_ble_eq_true rfl) dX6_errorIn_7 (fun H locs hP hD hS => ?_)
  have hP : va_P (dC, dI) vwCl [(a_t, .inr (9, [.int 0, .int 0, .int t_mostSpoons, .ref a_t_firsts, .ref a_t_kinds, .ref a_t_values, .ref a_t_parts, .ref a_t_lastParts, .ref a_t_spoonPlaces, .int t_spoons, .int t_awaitsLetter, .int t_awaitsDigit])), (a_t_values, .inl (cT 0, 24, .inl t_values)), (a_t_firsts, .inl (cT 2, 24, .inl t_firsts)), (a_t_kinds, .inl (cT 0, 24, .inl t_kinds)), (a_t_parts, .inl (cT 0, 24, .inl t_parts)), (a_t_spoonPlaces, .inl (cT 0, 5, .inl t_spoonPlaces)), (a_t_lastParts, .inl (cT 0, 24, .inl t_lastParts))] H := hP
  have hD : va_D A [(a_t, .inr (9, [.int 0, .int 0, .int t_mostSpoons, .ref a_t_firsts, .ref a_t_kinds, .ref a_t_values, .ref a_t_parts, .ref a_t_lastParts, .ref a_t_spoonPlaces, .int t_spoons, .int t_awaitsLetter, .int t_awaitsDigit])), (a_t_values, .inl (cT 0, 24, .inl t_values)), (a_t_firsts, .inl (cT 2, 24, .inl t_firsts)), (a_t_kinds, .inl (cT 0, 24, .inl t_kinds)), (a_t_parts, .inl (cT 0, 24, .inl t_parts)), (a_t_spoonPlaces, .inl (cT 0, 5, .inl t_spoonPlaces)), (a_t_lastParts, .inl (cT 0, 24, .inl t_lastParts))] := hD
  refine lv_aload_n hx hb dX6_errorIn_10 rfl (lv_at hl 0 rfl) ?_
  refine lv_iconst (v := 0) hx hb dX6_errorIn_11 (by decide) ?_
  refine va_put (D := (dC, dI)) (ci := 9) (v := .int 0) (ty := .int) (C := RX6) (T := TX6) (N := 12) hx hb hta inX6w tyX6 tyX6_ok nmX6 hown hK hP hD hS 0 rfl rfl 2 (by decide) (hta _ lk_X6_38) (fun _ h9 => h9) rfl (by decide +kernel) rfl rfl (Nat.le_of_ble_eq_true rfl) dX6_errorIn_12 (fun H locs hP hD hS => ?_)
  have hP : va_P (dC, dI) vwCl [(a_t, .inr (9, [.int 0, .int 0, .int 0, .ref a_t_firsts, .ref a_t_kinds, .ref a_t_values, .ref a_t_parts, .ref a_t_lastParts, .ref a_t_spoonPlaces, .int t_spoons, .int t_awaitsLetter, .int t_awaitsDigit])), (a_t_values, .inl (cT 0, 24, .inl t_values)), (a_t_firsts, .inl (cT 2, 24, .inl t_firsts)), (a_t_kinds, .inl (cT 0, 24, .inl t_kinds)), (a_t_parts, .inl (cT 0, 24, .inl t_parts)), (a_t_spoonPlaces, .inl (cT 0, 5, .inl t_spoonPlaces)), (a_t_lastParts, .inl (cT 0, 24, .inl t_lastParts))] H := hP
  have hD : va_D A [(a_t, .inr (9, [.int 0, .int 0, .int 0, .ref a_t_firsts, .ref a_t_kinds, .ref a_t_values, .ref a_t_parts, .ref a_t_lastParts, .ref a_t_spoonPlaces, .int t_spoons, .int t_awaitsLetter, .int t_awaitsDigit])), (a_t_values, .inl (cT 0, 24, .inl t_values)), (a_t_firsts, .inl (cT 2, 24, .inl t_firsts)), (a_t_kinds, .inl (cT 0, 24, .inl t_kinds)), (a_t_parts, .inl (cT 0, 24, .inl t_parts)), (a_t_spoonPlaces, .inl (cT 0, 5, .inl t_spoonPlaces)), (a_t_lastParts, .inl (cT 0, 24, .inl t_lastParts))] := hD
  refine lv_aload_n hx hb dX6_errorIn_15 rfl (lv_at hl 0 rfl) ?_
  refine lv_iconst (v := 0) hx hb dX6_errorIn_16 (by decide) ?_
  refine va_put (D := (dC, dI)) (ci := 9) (v := .int 0) (ty := .int) (C := RX6) (T := TX6) (N := 12) hx hb hta inX6w tyX6 tyX6_ok nmX6 hown hK hP hD hS 0 rfl rfl 9 (by decide) (hta _ lk_X6_41) (fun _ h9 => h9) rfl (by decide +kernel) rfl rfl (Nat.le_of_ble_eq_true rfl) dX6_errorIn_17 (fun H locs hP hD hS => ?_)
  have hP : va_P (dC, dI) vwCl [(a_t, .inr (9, [.int 0, .int 0, .int 0, .ref a_t_firsts, .ref a_t_kinds, .ref a_t_values, .ref a_t_parts, .ref a_t_lastParts, .ref a_t_spoonPlaces, .int 0, .int t_awaitsLetter, .int t_awaitsDigit])), (a_t_values, .inl (cT 0, 24, .inl t_values)), (a_t_firsts, .inl (cT 2, 24, .inl t_firsts)), (a_t_kinds, .inl (cT 0, 24, .inl t_kinds)), (a_t_parts, .inl (cT 0, 24, .inl t_parts)), (a_t_spoonPlaces, .inl (cT 0, 5, .inl t_spoonPlaces)), (a_t_lastParts, .inl (cT 0, 24, .inl t_lastParts))] H := hP
  have hD : va_D A [(a_t, .inr (9, [.int 0, .int 0, .int 0, .ref a_t_firsts, .ref a_t_kinds, .ref a_t_values, .ref a_t_parts, .ref a_t_lastParts, .ref a_t_spoonPlaces, .int 0, .int t_awaitsLetter, .int t_awaitsDigit])), (a_t_values, .inl (cT 0, 24, .inl t_values)), (a_t_firsts, .inl (cT 2, 24, .inl t_firsts)), (a_t_kinds, .inl (cT 0, 24, .inl t_kinds)), (a_t_parts, .inl (cT 0, 24, .inl t_parts)), (a_t_spoonPlaces, .inl (cT 0, 5, .inl t_spoonPlaces)), (a_t_lastParts, .inl (cT 0, 24, .inl t_lastParts))] := hD
  refine lv_aload_n hx hb dX6_errorIn_20 rfl (lv_at hl 0 rfl) ?_
  refine lv_iconst (v := 0) hx hb dX6_errorIn_21 (by decide) ?_
  refine va_put (D := (dC, dI)) (ci := 9) (v := .int 0) (ty := .boolean) (C := RX6) (T := TX6) (N := 12) hx hb hta inX6w tyX6 tyX6_ok nmX6 hown hK hP hD hS 0 rfl rfl 10 (by decide) (hta _ lk_X6_44) (fun _ h9 => h9) rfl (by decide +kernel) rfl rfl (Nat.le_of_ble_eq_true rfl) dX6_errorIn_22 (fun H locs hP hD hS => ?_)
  have hP : va_P (dC, dI) vwCl [(a_t, .inr (9, [.int 0, .int 0, .int 0, .ref a_t_firsts, .ref a_t_kinds, .ref a_t_values, .ref a_t_parts, .ref a_t_lastParts, .ref a_t_spoonPlaces, .int 0, .int 0, .int t_awaitsDigit])), (a_t_values, .inl (cT 0, 24, .inl t_values)), (a_t_firsts, .inl (cT 2, 24, .inl t_firsts)), (a_t_kinds, .inl (cT 0, 24, .inl t_kinds)), (a_t_parts, .inl (cT 0, 24, .inl t_parts)), (a_t_spoonPlaces, .inl (cT 0, 5, .inl t_spoonPlaces)), (a_t_lastParts, .inl (cT 0, 24, .inl t_lastParts))] H := hP
  have hD : va_D A [(a_t, .inr (9, [.int 0, .int 0, .int 0, .ref a_t_firsts, .ref a_t_kinds, .ref a_t_values, .ref a_t_parts, .ref a_t_lastParts, .ref a_t_spoonPlaces, .int 0, .int 0, .int t_awaitsDigit])), (a_t_values, .inl (cT 0, 24, .inl t_values)), (a_t_firsts, .inl (cT 2, 24, .inl t_firsts)), (a_t_kinds, .inl (cT 0, 24, .inl t_kinds)), (a_t_parts, .inl (cT 0, 24, .inl t_parts)), (a_t_spoonPlaces, .inl (cT 0, 5, .inl t_spoonPlaces)), (a_t_lastParts, .inl (cT 0, 24, .inl t_lastParts))] := hD
  refine lv_aload_n hx hb dX6_errorIn_25 rfl (lv_at hl 0 rfl) ?_
  refine lv_iconst (v := 0) hx hb dX6_errorIn_26 (by decide) ?_
  refine va_put (D := (dC, dI)) (ci := 9) (v := .int 0) (ty := .boolean) (C := RX6) (T := TX6) (N := 12) hx hb hta inX6w tyX6 tyX6_ok nmX6 hown hK hP hD hS 0 rfl rfl 11 (by decide) (hta _ lk_X6_48) (fun _ h9 => h9) rfl (by decide +kernel) rfl rfl (Nat.le_of_ble_eq_true rfl) dX6_errorIn_27 (fun H locs hP hD hS => ?_)
  have hP : va_P (dC, dI) vwCl [(a_t, .inr (9, [.int 0, .int 0, .int 0, .ref a_t_firsts, .ref a_t_kinds, .ref a_t_values, .ref a_t_parts, .ref a_t_lastParts, .ref a_t_spoonPlaces, .int 0, .int 0, .int 0])), (a_t_values, .inl (cT 0, 24, .inl t_values)), (a_t_firsts, .inl (cT 2, 24, .inl t_firsts)), (a_t_kinds, .inl (cT 0, 24, .inl t_kinds)), (a_t_parts, .inl (cT 0, 24, .inl t_parts)), (a_t_spoonPlaces, .inl (cT 0, 5, .inl t_spoonPlaces)), (a_t_lastParts, .inl (cT 0, 24, .inl t_lastParts))] H := hP
  have hD : va_D A [(a_t, .inr (9, [.int 0, .int 0, .int 0, .ref a_t_firsts, .ref a_t_kinds, .ref a_t_values, .ref a_t_parts, .ref a_t_lastParts, .ref a_t_spoonPlaces, .int 0, .int 0, .int 0])), (a_t_values, .inl (cT 0, 24, .inl t_values)), (a_t_firsts, .inl (cT 2, 24, .inl t_firsts)), (a_t_kinds, .inl (cT 0, 24, .inl t_kinds)), (a_t_parts, .inl (cT 0, 24, .inl t_parts)), (a_t_spoonPlaces, .inl (cT 0, 5, .inl t_spoonPlaces)), (a_t_lastParts, .inl (cT 0, 24, .inl t_lastParts))] := hD
  refine lv_iload_n hx hb dX6_errorIn_30 rfl (lv_at hl 2 rfl) ?_
  refine lv_aload_n hx hb dX6_errorIn_31 rfl (lv_at hl 1 rfl) ?_
  refine va_alen hx hb hK (rk hR0 hNA hS) 0 2 rfl rfl rfl dX6_errorIn_32 ?_
  refine va_mmin hx hb (hml.trans hl.1.symm) hown (hta _ lm_X6_51) (hta _ mth_minint_s) (hta _ mth_i) (hta _ mth_minint_c) (Nat.le_of_ble_eq_true rfl) (Nat.le_of_ble_eq_true rfl) (Nat.le_of_ble_eq_true rfl) (Nat.le_of_ble_eq_true rfl) dX6_errorIn_33 ?_
  refine lv_topi (fun v1 e_v1 => ?_)
  have h := gl_use e_v1 h
  refine lv_istore_n (lv' := [(3, .int v1), (0, .ref a_t), (1, .ref a_p1), (2, .int p2)]) hx hb dX6_errorIn_36 rfl hl (by decide) rfl (fun ls hl => ?_)
  refine lv_iconst (v := 0) hx hb dX6_errorIn_37 (by decide) ?_
  refine lv_istore (lv' := [(4, .int 0), (3, .int v1), (0, .ref a_t), (1, .ref a_p1), (2, .int p2)]) hx hb dX6_errorIn_38 hl (by decide) rfl (fun ls hl => ?_)
  exact wB_40 100 t_firsts t_kinds t_lastParts t_parts t_spoonPlaces t_values 0 0 0 0 0 0 v1 0 _ _ _ h hP hD hS (lv_sub hl [2, 3, 1, 0] rfl)
set_option maxHeartbeats 4000000 in
set_option maxRecDepth 100000 in
theorem c_X6_placeBeyond (l : Launch) (dC : Nat → ClassId) (dI : Nat → Nat → Nat) (cT : Nat → ClassId) {Hh : Heap} {a_t : Nat} {a_t_kinds : Nat} {a_t_values : Nat} {a_t_firsts : Nat} {a_t_parts : Nat} {a_t_lastParts : Nat} {a_t_spoonPlaces : Nat} {t_tokens : Int32} {t_kinds : Nat → Int32} {t_values : Nat → Int32} {p1 : Int32} {t_stores : Int32} {t_mostSpoons : Int32} {t_spoons : Int32} {t_awaitsLetter : Int32} {t_awaitsDigit : Int32} {o : Int32} (h : g_X6_placeBeyond t_tokens t_kinds t_values p1 = some o) (hR0 : va_P (dC, dI) vwCl [(a_t, .inr (9, [.int t_tokens, .int t_stores, .int t_mostSpoons, .ref a_t_firsts, .ref a_t_kinds, .ref a_t_values, .ref a_t_parts, .ref a_t_lastParts, .ref a_t_spoonPlaces, .int t_spoons, .int t_awaitsLetter, .int t_awaitsDigit])), (a_t_kinds, .inl (cT 0, 24, .inl t_kinds)), (a_t_values, .inl (cT 0, 24, .inl t_values))] Hh) : Met l yX6_placeBeyond (wA yX6_placeBeyond cX6_placeBeyond 3 (some .int)) ({ frames := 0, cells := 0, slots := 0, locals := 0 } : Room) (PK dC dI cT [.ref a_t, .int p1] Hh) (va_Qi (fun x (_ : Unit) => x = o) (fun _ t => t.heap = Hh) (va_A [] Hh.size)) 0 0 (va_A [] Hh.size) := by
  refine Met.ofW (cc := cX6_placeBeyond) (maxL := 3) (ret := (some .int)) (by decide) rfl ?_
  intro p e s m args below meth c s₁ B hml hv
  obtain ⟨rfl, hH, hK⟩ := hv
  subst hH
  have hx := B.exec
  have hb := B.bytes
  have hr := B.returns
  have hta : ∀ w ∈ ALLW, w.before [.ref a_t, .int p1].toArray s = true := fun w hw => atoms_spec (ws := wA yX6_placeBeyond cX6_placeBeyond 3 (some .int)) B.pre w (List.mem_cons_of_mem _ hw)
  have hown : s.vm.findClass RX6 = some m.cls := findClass_of_methodNamed B.named
  have hlocks := B.notSynchronized
  generalize hAe : va_A [] s.heap.size = A
  have hA : ∀ q : Nat, s.heap.size ≤ q → A q := fun q h => by rw [← hAe]; exact Or.inr h
  have hS : va_S A s.heap s.heap [] := va_S.rf
  have hl := lv_entry [.ref a_t, .int p1] (n := 3) (Nat.le_of_ble_eq_true rfl)
  rw [lg_entry_eq]
  generalize (lg_sl [.ref a_t, .int p1] ++ List.replicate (3 - (lg_sl [.ref a_t, .int p1]).length) Slot.unset).toArray = ls at hl ⊢
  have hl : lv_has ls 3 [(0, .ref a_t), (1, .int p1)] := hl
  obtain ⟨Q, hQ⟩ : ∃ Q, Q = MQ below (va_Qi (fun x (_ : Unit) => x = o) (fun _ t => t.heap = s.heap) A) [.ref a_t, .int p1].toArray s 0 0 A := ⟨_, rfl⟩
  rw [← hQ]
  have wB_2 : ∀ (n_2 : Nat), ∀ (x2_2 : Int32) (locs : List Loc) (ls : Array Slot), g_X6_placeBeyond_b2 t_tokens t_kinds t_values p1 n_2 x2_2 = some o → va_S A s.heap s.heap locs → lv_has ls 3 [(0, .ref a_t), (1, .int p1), (2, .int x2_2)] → W p l e ({ frames := 0, cells := 0, slots := 0, locals := 0 } : Room) s m [.ref a_t, .int p1].toArray below meth c s.heap locs 0 0 Q (F0 m 2 ls []) := by
    intro n_2
    induction n_2 with
    | zero =>
      intro x2_2 locs ls h hS hl
      simp [g_X6_placeBeyond_b2] at h
    | succ n_2 ih_2 =>
      have wB_48 : ∀ (x2_48 : Int32) (locs : List Loc) (ls : Array Slot), g_X6_placeBeyond_b48 t_tokens t_kinds t_values p1 (g_X6_placeBeyond_b2 t_tokens t_kinds t_values p1 n_2) x2_48 = some o → va_S A s.heap s.heap locs → lv_has ls 3 [(0, .ref a_t), (1, .int p1), (2, .int x2_48)] → W p l e ({ frames := 0, cells := 0, slots := 0, locals := 0 } : Room) s m [.ref a_t, .int p1].toArray below meth c s.heap locs 0 0 Q (F0 m 48 ls []) := by
        intro x2_48 locs ls h hS hl
        unfold g_X6_placeBeyond_b48 at h
        obtain ⟨v1, e_v1⟩ : ∃ y : Int32, y = x2_48 + 1 := ⟨_, rfl⟩
        have h := gl_use e_v1 h
        refine lv_iinc (v := v1) (lv' := [(2, .int v1), (0, .ref a_t), (1, .int p1)]) hx hb dX6_placeBeyond_48 hl (k := 2) rfl (by rw [e_v1]; rfl) (by decide) rfl (fun ls hl => ?_)
        refine lv_goto (tgt := 2) hx hb dX6_placeBeyond_51 (by decide) ?_
        exact ih_2 v1 _ _ h hS (lv_sub hl [1, 2, 0] rfl)
      have wB_36 : ∀ (x2_36 : Int32) (locs : List Loc) (ls : Array Slot), g_X6_placeBeyond_b36 t_tokens t_kinds t_values p1 (g_X6_placeBeyond_b2 t_tokens t_kinds t_values p1 n_2) x2_36 = some o → va_S A s.heap s.heap locs → lv_has ls 3 [(0, .ref a_t), (1, .int p1), (2, .int x2_36)] → W p l e ({ frames := 0, cells := 0, slots := 0, locals := 0 } : Room) s m [.ref a_t, .int p1].toArray below meth c s.heap locs 0 0 Q (F0 m 36 ls []) := by
        intro x2_36 locs ls h hS hl
        unfold g_X6_placeBeyond_b36 at h
        refine lv_aload_n hx hb dX6_placeBeyond_36 rfl (lv_at hl 0 rfl) ?_
        refine va_get (D := (dC, dI)) (ci := 9) (v := .ref a_t_values) (C := RX6) (T := TX6) (N := 12) hx hb hta inX6w hown hK hR0 0 rfl rfl 5 (by decide) (hta _ lk_X6_19) (fun _ h9 => h9) rfl dX6_placeBeyond_37 ?_
        refine lv_iload_n hx hb dX6_placeBeyond_40 rfl (lv_at hl 2 rfl) ?_
        obtain ⟨hc, h⟩ := gc_some h
        refine va_iald hx hb hK hR0 2 0 rfl rfl (inb_in hc) dX6_placeBeyond_41 ?_
        refine lv_iload_n hx hb dX6_placeBeyond_42 rfl (lv_at hl 1 rfl) ?_
        refine lv_icmp_lt (tgt := 48) hx hb dX6_placeBeyond_43 (by decide) (fun c0 => ?_) (fun c0 => ?_)
        · have h := (if_pos c0).symm.trans h
          exact wB_48 x2_36 _ _ h hS (lv_sub hl [0, 1, 2] rfl)
        · have h := (if_neg c0).symm.trans h
          refine lv_iload_n hx hb dX6_placeBeyond_46 rfl (lv_at hl 2 rfl) ?_
          have ho := Option.some.inj h
          rw [hQ]
          exact W.iret (v := x2_36) hx hb hr (fun t ht hW => ⟨⟨x2_36, (), rfl, by rw [← ho], ht⟩, hS.F ht⟩) hS.2.2 dX6_placeBeyond_47
      intro x2_2 locs ls h hS hl
      rw [g_X6_placeBeyond_b2] at h
      refine lv_iload_n hx hb dX6_placeBeyond_2 rfl (lv_at hl 2 rfl) ?_
      refine lv_aload_n hx hb dX6_placeBeyond_3 rfl (lv_at hl 0 rfl) ?_
      refine va_get (D := (dC, dI)) (ci := 9) (v := .int t_tokens) (C := RX6) (T := TX6) (N := 12) hx hb hta inX6w hown hK hR0 0 rfl rfl 0 (by decide) (hta _ lk_X6_31) (fun _ h9 => h9) rfl dX6_placeBeyond_4 ?_
      refine lv_icmp_ge (tgt := 54) hx hb dX6_placeBeyond_7 (by decide) (fun c0 => ?_) (fun c0 => ?_)
      · have h := (if_pos c0).symm.trans h
        refine lv_iconst (v := -1) hx hb dX6_placeBeyond_54 (by decide) ?_
        have ho := Option.some.inj h
        rw [hQ]
        exact W.iret (v := (-1)) hx hb hr (fun t ht hW => ⟨⟨(-1), (), rfl, by rw [← ho], ht⟩, hS.F ht⟩) hS.2.2 dX6_placeBeyond_55
      · have h := (if_neg c0).symm.trans h
        refine lv_iload_n hx hb dX6_placeBeyond_10 rfl (lv_at hl 2 rfl) ?_
        refine lv_bipush (v := 24) hx hb dX6_placeBeyond_11 (by decide) ?_
        refine lv_icmp_ge (tgt := 54) hx hb dX6_placeBeyond_13 (by decide) (fun c0 => ?_) (fun c0 => ?_)
        · have h := (if_pos c0).symm.trans h
          refine lv_iconst (v := -1) hx hb dX6_placeBeyond_54 (by decide) ?_
          have ho := Option.some.inj h
          rw [hQ]
          exact W.iret (v := (-1)) hx hb hr (fun t ht hW => ⟨⟨(-1), (), rfl, by rw [← ho], ht⟩, hS.F ht⟩) hS.2.2 dX6_placeBeyond_55
        · have h := (if_neg c0).symm.trans h
          refine lv_aload_n hx hb dX6_placeBeyond_16 rfl (lv_at hl 0 rfl) ?_
          refine va_get (D := (dC, dI)) (ci := 9) (v := .ref a_t_kinds) (C := RX6) (T := TX6) (N := 12) hx hb hta inX6w hown hK hR0 0 rfl rfl 4 (by decide) (hta _ lk_X6_15) (fun _ h9 => h9) rfl dX6_placeBeyond_17 ?_
          refine lv_iload_n hx hb dX6_placeBeyond_20 rfl (lv_at hl 2 rfl) ?_
          obtain ⟨hc, h⟩ := gc_some h
          refine va_iald hx hb hK hR0 1 0 rfl rfl (inb_in hc) dX6_placeBeyond_21 ?_
          refine lv_if_eq (tgt := 36) hx hb dX6_placeBeyond_22 (by decide) (fun c0 => ?_) (fun c0 => ?_)
          · have h := (if_pos c0).symm.trans h
            exact wB_36 x2_2 _ _ h hS (lv_sub hl [0, 1, 2] rfl)
          · have h := (if_neg c0).symm.trans h
            refine lv_aload_n hx hb dX6_placeBeyond_25 rfl (lv_at hl 0 rfl) ?_
            refine va_get (D := (dC, dI)) (ci := 9) (v := .ref a_t_kinds) (C := RX6) (T := TX6) (N := 12) hx hb hta inX6w hown hK hR0 0 rfl rfl 4 (by decide) (hta _ lk_X6_15) (fun _ h9 => h9) rfl dX6_placeBeyond_26 ?_
            refine lv_iload_n hx hb dX6_placeBeyond_29 rfl (lv_at hl 2 rfl) ?_
            obtain ⟨hc, h⟩ := gc_some h
            refine va_iald hx hb hK hR0 1 0 rfl rfl (inb_in hc) dX6_placeBeyond_30 ?_
            refine lv_bipush (v := 7) hx hb dX6_placeBeyond_31 (by decide) ?_
            refine lv_icmp_ne (tgt := 48) hx hb dX6_placeBeyond_33 (by decide) (fun c0 => ?_) (fun c0 => ?_)
            · have h := (if_neg c0).symm.trans h
              exact wB_48 x2_2 _ _ h hS (lv_sub hl [0, 1, 2] rfl)
            · have h := (if_pos c0).symm.trans h
              exact wB_36 x2_2 _ _ h hS (lv_sub hl [0, 1, 2] rfl)
  unfold g_X6_placeBeyond at h
  refine lv_iconst (v := 0) hx hb dX6_placeBeyond_0 (by decide) ?_
  refine lv_istore_n (lv' := [(2, .int 0), (0, .ref a_t), (1, .int p1)]) hx hb dX6_placeBeyond_1 rfl hl (by decide) rfl (fun ls hl => ?_)
  exact wB_2 100 0 _ _ h hS (lv_sub hl [1, 2, 0] rfl)
