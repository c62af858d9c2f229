set_option maxHeartbeats 4000000 in
set_option maxRecDepth 100000 in
theorem c_X2_begin (l : Launch) (dC : Nat → ClassId) (dI : Nat → Nat → Nat) (cT : Nat → ClassId) {Hh : Heap} {a_t : Nat} {a_p1 : Nat} {a_t_now : Nat} {a_p1_contents : Nat} {a_t_now_many : Nat} {a_p1_contents_many : Nat} {a_t_now_much : Nat} {a_p1_contents_much : Nat} {a_t_storesIn : Nat} {a_t_before : Nat} {a_t_isBroth : Nat} {a_t_many : Nat} {a_t_much : Nat} {a_p1_isBroth : Nat} {a_p1_low : Nat} {a_p1_high : Nat} {a_p1_storesIn : Nat} {a_p1_texts : Nat} {a_p1_cooked : Nat} {t_now_many : Nat → Int32} {p1_contents_many : Nat → Int32} {t_now_much : Nat → UInt32} {p1_contents_much : Nat → UInt32} {t_boilsAt : Int32} {t_cause : Int32} {t_causeDetail : Int32} {t_spoons : Int32} {p1_cauldrons : Int32} {p1_spells : Int32} {p1_cookedSoFar : Int32} {p1_storesSoFar : Int32} {o : (Nat → Int32) × (Nat → UInt32)} (h : g_X2_begin t_now_many p1_contents_many t_now_much p1_contents_much = some o) (hP0 : va_P (dC, dI) vwCl [(a_t_now_many, .inl (cT 0, 6, .inl t_now_many)), (a_t_now_much, .inl (cT 4, 6, .inr (.inr (.inl t_now_much))))] Hh) (hR0 : va_P (dC, dI) vwCl [(a_t, .inr (6, [.ref a_t_now, .ref a_t_storesIn, .int t_boilsAt, .int t_cause, .int t_causeDetail, .ref a_t_before, .ref a_t_isBroth, .ref a_t_many, .ref a_t_much, .int t_spoons])), (a_p1, .inr (4, [.int p1_cauldrons, .ref a_p1_isBroth, .ref a_p1_low, .ref a_p1_high, .ref a_p1_contents, .ref a_p1_storesIn, .int p1_spells, .ref a_p1_texts, .ref a_p1_cooked, .int p1_cookedSoFar, .int p1_storesSoFar])), (a_t_now, .inr (5, [.ref a_t_now_many, .ref a_t_now_much])), (a_p1_contents, .inr (5, [.ref a_p1_contents_many, .ref a_p1_contents_much])), (a_p1_contents_many, .inl (cT 0, 6, .inl p1_contents_many)), (a_p1_contents_much, .inl (cT 4, 6, .inr (.inr (.inl p1_contents_much))))] Hh) (hD0 : va_D (fun _ => True) [(a_t_now_many, .inl (cT 0, 6, .inl t_now_many)), (a_t_now_much, .inl (cT 4, 6, .inr (.inr (.inl t_now_much))))]) (hN0 : ∀ (k : Nat) (q : Nat × va_E), ([(a_t, .inr (6, [.ref a_t_now, .ref a_t_storesIn, .int t_boilsAt, .int t_cause, .int t_causeDetail, .ref a_t_before, .ref a_t_isBroth, .ref a_t_many, .ref a_t_much, .int t_spoons])), (a_p1, .inr (4, [.int p1_cauldrons, .ref a_p1_isBroth, .ref a_p1_low, .ref a_p1_high, .ref a_p1_contents, .ref a_p1_storesIn, .int p1_spells, .ref a_p1_texts, .ref a_p1_cooked, .int p1_cookedSoFar, .int p1_storesSoFar])), (a_t_now, .inr (5, [.ref a_t_now_many, .ref a_t_now_much])), (a_p1_contents, .inr (5, [.ref a_p1_contents_many, .ref a_p1_contents_much])), (a_p1_contents_many, .inl (cT 0, 6, .inl p1_contents_many)), (a_p1_contents_much, .inl (cT 4, 6, .inr (.inr (.inl p1_contents_much))))] : va_W)[k]? = some q → ¬ va_A [(a_t_now_many, .inl (cT 0, 6, .inl t_now_many)), (a_t_now_much, .inl (cT 4, 6, .inr (.inr (.inl t_now_much))))] Hh.size q.1) : Met l yX2_begin (wA yX2_begin cX2_begin 2 none) ({ frames := 1, cells := 0, slots := 0, locals := 22 } : Room) (PK dC dI cT [.ref a_t, .ref a_p1] Hh) (va_Qv (fun (_ : Unit) => True) (fun _ t => va_P (dC, dI) vwCl [(a_t_now_many, .inl (cT 0, 6, .inl o.1)), (a_t_now_much, .inl (cT 4, 6, .inr (.inr (.inl o.2))))] t.heap) (va_A [(a_t_now_many, .inl (cT 0, 6, .inl t_now_many)), (a_t_now_much, .inl (cT 4, 6, .inr (.inr (.inl t_now_much))))] Hh.size)) 0 0 (va_A [(a_t_now_many, .inl (cT 0, 6, .inl t_now_many)), (a_t_now_much, .inl (cT 4, 6, .inr (.inr (.inl t_now_much))))] Hh.size) := by
  refine Met.ofW (cc := cX2_begin) (maxL := 2) (ret := none) (by decide) rfl ?_
  intro p e s m args below meth c s₁ B hml hv
  obtain ⟨rfl, hH, hK⟩ := hv
  subst hH
  have hx := B.exec
  have hb := B.bytes
  have hr := B.returns
  have hta : ∀ w ∈ ALLW, w.before [.ref a_t, .ref a_p1].toArray s = true := fun w hw => atoms_spec (ws := wA yX2_begin cX2_begin 2 none) B.pre w (List.mem_cons_of_mem _ hw)
  have hown : s.vm.findClass RX2 = some m.cls := findClass_of_methodNamed B.named
  have hlocks := B.notSynchronized
  have hD := hD0.self (sz := s.heap.size)
  have hNA := hN0
  generalize hAe : va_A [(a_t_now_many, .inl (cT 0, 6, .inl t_now_many)), (a_t_now_much, .inl (cT 4, 6, .inr (.inr (.inl t_now_much))))] s.heap.size = A at hD hNA ⊢
  have hP := hP0
  have hA : ∀ q : Nat, s.heap.size ≤ q → A q := fun q h => by rw [← hAe]; exact Or.inr h
  have hS : va_S A s.heap s.heap [] := va_S.rf
  have hl := lv_entry [.ref a_t, .ref a_p1] (n := 2) (Nat.le_of_ble_eq_true rfl)
  rw [lg_entry_eq]
  generalize (lg_sl [.ref a_t, .ref a_p1] ++ List.replicate (2 - (lg_sl [.ref a_t, .ref a_p1]).length) Slot.unset).toArray = ls at hl ⊢
  have hl : lv_has ls 2 [(0, .ref a_t), (1, .ref a_p1)] := hl
  unfold g_X2_begin at h
  refine lv_aload_n hx hb dX2_begin_0 rfl (lv_at hl 0 rfl) ?_
  refine va_get (D := (dC, dI)) (ci := 6) (v := .ref a_t_now) (C := RX2) (T := TX2) (N := 10) hx hb hta inX2w hown hK (rk hR0 hNA hS) 0 rfl rfl 0 (by decide) (hta _ lk_X2_12) (fun _ h9 => h9) rfl dX2_begin_1 ?_
  refine lv_aload_n hx hb dX2_begin_4 rfl (lv_at hl 1 rfl) ?_
  refine va_get (D := (dC, dI)) (ci := 4) (v := .ref a_p1_contents) (C := RX0) (T := TX0) (N := 11) hx hb hta inX0w hown hK (rk hR0 hNA hS) 1 rfl rfl 4 (by decide) (hta _ lk_X2_36) (fun _ h9 => h9) rfl dX2_begin_5 ?_
  obtain ⟨r1, hq, h⟩ := gb_some h
  refine cxV (X2 := [(a_t_now_many, .inl (cT 0, 6, .inl r1.1)), (a_t_now_much, .inl (cT 4, 6, .inr (.inr (.inl r1.2))))]) (va_runV (As := [.ref a_p1_contents]) (rest := []) ⟨hx, hb, hml, hown, hta⟩ (c_X1_copy l dC dI cT hq (hP.sub (ws' := [(a_t_now_many, .inl (cT 0, 6, .inl t_now_many)), (a_t_now_much, .inl (cT 4, 6, .inr (.inr (.inl t_now_much))))]) [0, 1] rfl) ((va_P.app hP (rk hR0 hNA hS)).sub (ws' := [(a_t_now, .inr (5, [.ref a_t_now_many, .ref a_t_now_much])), (a_p1_contents, .inr (5, [.ref a_p1_contents_many, .ref a_p1_contents_much])), (a_p1_contents_many, .inl (cT 0, 6, .inl p1_contents_many)), (a_p1_contents_much, .inl (cT 4, 6, .inr (.inr (.inl p1_contents_much))))]) [4, 5, 6, 7] rfl) (ds hD [0, 1] (by decide) rfl) (nac hP hD [0, 1] rfl (va_free hD hS hA [0, 1] rfl) hNA [.inl 2, .inl 3, .inl 4, .inl 5] rfl rfl)) (cV hta lm_X2_41 md_X1_copy ⟨(Nat.le_of_ble_eq_true rfl), (Nat.le_of_ble_eq_true rfl)⟩) ⟨fbK, va_recv hK (rk hR0 hNA hS) (ci := 5) (q0 := 2) rfl rfl, fun U hU hW => ⟨rfl, hU, va_K.moved hW.alike hK⟩⟩ rfl rfl hl.1 rfl (lv_room (Nat.le_of_ble_eq_true rfl)) dX2_begin_8 ⟨(Nat.le_of_ble_eq_true rfl), (Nat.le_of_ble_eq_true rfl)⟩) hS hA hP hD [0, 1] rfl [.inl 0, .inl 1] rfl rfl rfl (fun H locs hP hD hS => ?_)
  have ho := Option.some.inj h
  exact W.vret hx hb hr (fun t ht hW => ⟨⟨(), rfl, trivial, by show va_P (dC, dI) vwCl _ t.heap; rw [ht, ← ho]; exact hP⟩, hS.F ht⟩) hS.2.2 dX2_begin_11
set_option maxHeartbeats 4000000 in
set_option maxRecDepth 100000 in
theorem c_X2_lay (l : Launch) (dC : Nat → ClassId) (dI : Nat → Nat → Nat) (cT : Nat → ClassId) {Hh : Heap} {a_t : Nat} {a_t_isBroth : Nat} {a_t_many : Nat} {a_t_much : Nat} {a_t_now : Nat} {a_t_storesIn : Nat} {a_t_before : Nat} {t_spoons : Int32} {t_isBroth : Nat → Int32} {t_many : Nat → Int32} {t_much : Nat → UInt32} {p1 : Int32} {p2 : Int32} {p3 : UInt32} {t_boilsAt : Int32} {t_cause : Int32} {t_causeDetail : Int32} {o : Int32 × Int32 × (Nat → Int32) × (Nat → Int32) × (Nat → UInt32)} (h : g_X2_lay t_spoons t_isBroth t_many t_much p1 p2 p3 = some o) (hP0 : va_P (dC, dI) vwCl [(a_t, .inr (6, [.ref a_t_now, .ref a_t_storesIn, .int t_boilsAt, .int t_cause, .int t_causeDetail, .ref a_t_before, .ref a_t_isBroth, .ref a_t_many, .ref a_t_much, .int t_spoons])), (a_t_isBroth, .inl (cT 1, 5, .inl t_isBroth)), (a_t_many, .inl (cT 0, 5, .inl t_many)), (a_t_much, .inl (cT 4, 5, .inr (.inr (.inl t_much))))] Hh) (hD0 : va_D (fun _ => True) [(a_t, .inr (6, [.ref a_t_now, .ref a_t_storesIn, .int t_boilsAt, .int t_cause, .int t_causeDetail, .ref a_t_before, .ref a_t_isBroth, .ref a_t_many, .ref a_t_much, .int t_spoons])), (a_t_isBroth, .inl (cT 1, 5, .inl t_isBroth)), (a_t_many, .inl (cT 0, 5, .inl t_many)), (a_t_much, .inl (cT 4, 5, .inr (.inr (.inl t_much))))]) : Met l yX2_lay (wA yX2_lay cX2_lay 4 (some .boolean)) ({ frames := 0, cells := 0, slots := 0, locals := 0 } : Room) (PK dC dI cT [.ref a_t, .int p1, .int p2, .float p3] Hh) (va_Qi (fun x (_ : Unit) => x = o.1) (fun _ t => va_P (dC, dI) vwCl [(a_t, .inr (6, [.ref a_t_now, .ref a_t_storesIn, .int t_boilsAt, .int t_cause, .int t_causeDetail, .ref a_t_before, .ref a_t_isBroth, .ref a_t_many, .ref a_t_much, .int o.2.1])), (a_t_isBroth, .inl (cT 1, 5, .inl o.2.2.1)), (a_t_many, .inl (cT 0, 5, .inl o.2.2.2.1)), (a_t_much, .inl (cT 4, 5, .inr (.inr (.inl o.2.2.2.2))))] t.heap) (va_A [(a_t, .inr (6, [.ref a_t_now, .ref a_t_storesIn, .int t_boilsAt, .int t_cause, .int t_causeDetail, .ref a_t_before, .ref a_t_isBroth, .ref a_t_many, .ref a_t_much, .int t_spoons])), (a_t_isBroth, .inl (cT 1, 5, .inl t_isBroth)), (a_t_many, .inl (cT 0, 5, .inl t_many)), (a_t_much, .inl (cT 4, 5, .inr (.inr (.inl t_much))))] Hh.size)) 0 0 (va_A [(a_t, .inr (6, [.ref a_t_now, .ref a_t_storesIn, .int t_boilsAt, .int t_cause, .int t_causeDetail, .ref a_t_before, .ref a_t_isBroth, .ref a_t_many, .ref a_t_much, .int t_spoons])), (a_t_isBroth, .inl (cT 1, 5, .inl t_isBroth)), (a_t_many, .inl (cT 0, 5, .inl t_many)), (a_t_much, .inl (cT 4, 5, .inr (.inr (.inl t_much))))] Hh.size) := by
  refine Met.ofW (cc := cX2_lay) (maxL := 4) (ret := (some .boolean)) (by decide) rfl ?_
  intro p e s m args below meth c s₁ B hml hv
  obtain ⟨rfl, hH, hK⟩ := hv
  subst hH
  have hx := B.exec
  have hb := B.bytes
  have hr := B.returns
  have hta : ∀ w ∈ ALLW, w.before [.ref a_t, .int p1, .int p2, .float p3].toArray s = true := fun w hw => atoms_spec (ws := wA yX2_lay cX2_lay 4 (some .boolean)) B.pre w (List.mem_cons_of_mem _ hw)
  have hown : s.vm.findClass RX2 = some m.cls := findClass_of_methodNamed B.named
  have hlocks := B.notSynchronized
  have hD := hD0.self (sz := s.heap.size)
  generalize hAe : va_A [(a_t, .inr (6, [.ref a_t_now, .ref a_t_storesIn, .int t_boilsAt, .int t_cause, .int t_causeDetail, .ref a_t_before, .ref a_t_isBroth, .ref a_t_many, .ref a_t_much, .int t_spoons])), (a_t_isBroth, .inl (cT 1, 5, .inl t_isBroth)), (a_t_many, .inl (cT 0, 5, .inl t_many)), (a_t_much, .inl (cT 4, 5, .inr (.inr (.inl t_much))))] s.heap.size = A at hD ⊢
  have hP := hP0
  have hA : ∀ q : Nat, s.heap.size ≤ q → A q := fun q h => by rw [← hAe]; exact Or.inr h
  have hS : va_S A s.heap s.heap [] := va_S.rf
  have hl := lv_entry [.ref a_t, .int p1, .int p2, .float p3] (n := 4) (Nat.le_of_ble_eq_true rfl)
  rw [lg_entry_eq]
  generalize (lg_sl [.ref a_t, .int p1, .int p2, .float p3] ++ List.replicate (4 - (lg_sl [.ref a_t, .int p1, .int p2, .float p3]).length) Slot.unset).toArray = ls at hl ⊢
  have hl : lv_has ls 4 [(0, .ref a_t), (1, .int p1), (2, .int p2), (3, .float p3)] := hl
  unfold g_X2_lay at h
  refine lv_aload_n hx hb dX2_lay_0 rfl (lv_at hl 0 rfl) ?_
  refine va_get (D := (dC, dI)) (ci := 6) (v := .int t_spoons) (C := RX2) (T := TX2) (N := 10) hx hb hta inX2w hown hK hP 0 rfl rfl 9 (by decide) (hta _ lk_X2_45) (fun _ h9 => h9) rfl dX2_lay_1 ?_
  refine lv_if_lt (tgt := 15) hx hb dX2_lay_4 (by decide) (fun c0 => ?_) (fun c0 => ?_)
  · have h := (if_pos c0).symm.trans h
    refine lv_iconst (v := 0) hx hb dX2_lay_15 (by decide) ?_
    have ho := Option.some.inj h
    exact W.zret (ty := .boolean) (v := 0) hx hb hr rfl (fun t ht hW => ⟨⟨0, (), rfl, by rw [← ho], by show va_P (dC, dI) vwCl _ t.heap; rw [ht, ← ho]; exact hP⟩, hS.F ht⟩) hS.2.2 dX2_lay_16
  · have h := (if_neg c0).symm.trans h
    refine lv_aload_n hx hb dX2_lay_7 rfl (lv_at hl 0 rfl) ?_
    refine va_get (D := (dC, dI)) (ci := 6) (v := .int t_spoons) (C := RX2) (T := TX2) (N := 10) hx hb hta inX2w hown hK hP 0 rfl rfl 9 (by decide) (hta _ lk_X2_45) (fun _ h9 => h9) rfl dX2_lay_8 ?_
    refine lv_iconst (v := 5) hx hb dX2_lay_11 (by decide) ?_
    refine lv_icmp_lt (tgt := 17) hx hb dX2_lay_12 (by decide) (fun c0 => ?_) (fun c0 => ?_)
    · have h := (if_pos c0).symm.trans h
      refine lv_aload_n hx hb dX2_lay_17 rfl (lv_at hl 0 rfl) ?_
      refine va_get (D := (dC, dI)) (ci := 6) (v := .ref a_t_isBroth) (C := RX2) (T := TX2) (N := 10) hx hb hta inX2w hown hK hP 0 rfl rfl 6 (by decide) (hta _ lk_X2_25) (fun _ h9 => h9) rfl dX2_lay_18 ?_
      refine lv_aload_n hx hb dX2_lay_21 rfl (lv_at hl 0 rfl) ?_
      refine va_get (D := (dC, dI)) (ci := 6) (v := .int t_spoons) (C := RX2) (T := TX2) (N := 10) hx hb hta inX2w hown hK hP 0 rfl rfl 9 (by decide) (hta _ lk_X2_45) (fun _ h9 => h9) rfl dX2_lay_22 ?_
      refine lv_iload_n hx hb dX2_lay_25 rfl (lv_at hl 1 rfl) ?_
      obtain ⟨hc, h⟩ := gc_some h
      refine va_zast hx hb hK hP hD hS 1 1 rfl rfl (inb_in hc) dX2_lay_26 (fun H locs hP hD hS => ?_)
      have hP : va_P (dC, dI) vwCl [(a_t, .inr (6, [.ref a_t_now, .ref a_t_storesIn, .int t_boilsAt, .int t_cause, .int t_causeDetail, .ref a_t_before, .ref a_t_isBroth, .ref a_t_many, .ref a_t_much, .int t_spoons])), (a_t_isBroth, .inl (cT 1, 5, .inl (upd t_isBroth t_spoons.toNatClampNeg (vp_nar .boolean p1)))), (a_t_many, .inl (cT 0, 5, .inl t_many)), (a_t_much, .inl (cT 4, 5, .inr (.inr (.inl t_much))))] H := hP
      have hD : va_D A [(a_t, .inr (6, [.ref a_t_now, .ref a_t_storesIn, .int t_boilsAt, .int t_cause, .int t_causeDetail, .ref a_t_before, .ref a_t_isBroth, .ref a_t_many, .ref a_t_much, .int t_spoons])), (a_t_isBroth, .inl (cT 1, 5, .inl (upd t_isBroth t_spoons.toNatClampNeg (vp_nar .boolean p1)))), (a_t_many, .inl (cT 0, 5, .inl t_many)), (a_t_much, .inl (cT 4, 5, .inr (.inr (.inl t_much))))] := hD
      refine lv_aload_n hx hb dX2_lay_27 rfl (lv_at hl 0 rfl) ?_
      refine va_get (D := (dC, dI)) (ci := 6) (v := .ref a_t_many) (C := RX2) (T := TX2) (N := 10) hx hb hta inX2w hown hK hP 0 rfl rfl 7 (by decide) (hta _ lk_X2_29) (fun _ h9 => h9) rfl dX2_lay_28 ?_
      refine lv_aload_n hx hb dX2_lay_31 rfl (lv_at hl 0 rfl) ?_
      refine va_get (D := (dC, dI)) (ci := 6) (v := .int t_spoons) (C := RX2) (T := TX2) (N := 10) hx hb hta inX2w hown hK hP 0 rfl rfl 9 (by decide) (hta _ lk_X2_45) (fun _ h9 => h9) rfl dX2_lay_32 ?_
      refine lv_iload_n hx hb dX2_lay_35 rfl (lv_at hl 2 rfl) ?_
      obtain ⟨hc, h⟩ := gc_some h
      refine va_iast hx hb hK hP hD hS 2 0 rfl rfl (inb_in hc) dX2_lay_36 (fun H locs hP hD hS => ?_)
      have hP : va_P (dC, dI) vwCl [(a_t, .inr (6, [.ref a_t_now, .ref a_t_storesIn, .int t_boilsAt, .int t_cause, .int t_causeDetail, .ref a_t_before, .ref a_t_isBroth, .ref a_t_many, .ref a_t_much, .int t_spoons])), (a_t_isBroth, .inl (cT 1, 5, .inl (upd t_isBroth t_spoons.toNatClampNeg (vp_nar .boolean p1)))), (a_t_many, .inl (cT 0, 5, .inl (upd t_many t_spoons.toNatClampNeg p2))), (a_t_much, .inl (cT 4, 5, .inr (.inr (.inl t_much))))] H := hP
      have hD : va_D A [(a_t, .inr (6, [.ref a_t_now, .ref a_t_storesIn, .int t_boilsAt, .int t_cause, .int t_causeDetail, .ref a_t_before, .ref a_t_isBroth, .ref a_t_many, .ref a_t_much, .int t_spoons])), (a_t_isBroth, .inl (cT 1, 5, .inl (upd t_isBroth t_spoons.toNatClampNeg (vp_nar .boolean p1)))), (a_t_many, .inl (cT 0, 5, .inl (upd t_many t_spoons.toNatClampNeg p2))), (a_t_much, .inl (cT 4, 5, .inr (.inr (.inl t_much))))] := hD
      refine lv_aload_n hx hb dX2_lay_37 rfl (lv_at hl 0 rfl) ?_
      refine va_get (D := (dC, dI)) (ci := 6) (v := .ref a_t_much) (C := RX2) (T := TX2) (N := 10) hx hb hta inX2w hown hK hP 0 rfl rfl 8 (by decide) (hta _ lk_X2_32) (fun _ h9 => h9) rfl dX2_lay_38 ?_
      refine lv_aload_n hx hb dX2_lay_41 rfl (lv_at hl 0 rfl) ?_
      refine va_get (D := (dC, dI)) (ci := 6) (v := .int t_spoons) (C := RX2) (T := TX2) (N := 10) hx hb hta inX2w hown hK hP 0 rfl rfl 9 (by decide) (hta _ lk_X2_45) (fun _ h9 => h9) rfl dX2_lay_42 ?_
      refine lv_fload_n hx hb dX2_lay_45 rfl (lv_at hl 3 rfl) ?_
      obtain ⟨hc, h⟩ := gc_some h
      refine va_fast hx hb hK hP hD hS 3 4 rfl rfl (inb_in hc) dX2_lay_46 (fun H locs hP hD hS => ?_)
      have hP : va_P (dC, dI) vwCl [(a_t, .inr (6, [.ref a_t_now, .ref a_t_storesIn, .int t_boilsAt, .int t_cause, .int t_causeDetail, .ref a_t_before, .ref a_t_isBroth, .ref a_t_many, .ref a_t_much, .int t_spoons])), (a_t_isBroth, .inl (cT 1, 5, .inl (upd t_isBroth t_spoons.toNatClampNeg (vp_nar .boolean p1)))), (a_t_many, .inl (cT 0, 5, .inl (upd t_many t_spoons.toNatClampNeg p2))), (a_t_much, .inl (cT 4, 5, .inr (.inr (.inl (vf_upd t_much t_spoons.toNatClampNeg p3)))))] H := hP
      have hD : va_D A [(a_t, .inr (6, [.ref a_t_now, .ref a_t_storesIn, .int t_boilsAt, .int t_cause, .int t_causeDetail, .ref a_t_before, .ref a_t_isBroth, .ref a_t_many, .ref a_t_much, .int t_spoons])), (a_t_isBroth, .inl (cT 1, 5, .inl (upd t_isBroth t_spoons.toNatClampNeg (vp_nar .boolean p1)))), (a_t_many, .inl (cT 0, 5, .inl (upd t_many t_spoons.toNatClampNeg p2))), (a_t_much, .inl (cT 4, 5, .inr (.inr (.inl (vf_upd t_much t_spoons.toNatClampNeg p3)))))] := hD
      refine lv_aload_n hx hb dX2_lay_47 rfl (lv_at hl 0 rfl) ?_
      refine lv_dup hx hb dX2_lay_48 rfl ?_
      refine va_get (D := (dC, dI)) (ci := 6) (v := .int t_spoons) (C := RX2) (T := TX2) (N := 10) hx hb hta inX2w hown hK hP 0 rfl rfl 9 (by decide) (hta _ lk_X2_45) (fun _ h9 => h9) rfl dX2_lay_49 ?_
      refine lv_iconst (v := 1) hx hb dX2_lay_52 (by decide) ?_
      refine lv_iadd hx hb dX2_lay_53 ?_
      refine lv_topi (fun v1 e_v1 => ?_)
      have h := gl_use e_v1 h
      refine va_put (D := (dC, dI)) (ci := 6) (v := .int v1) (ty := .int) (C := RX2) (T := TX2) (N := 10) hx hb hta inX2w tyX2 tyX2_ok nmX2 hown hK hP hD hS 0 rfl rfl 9 (by decide) (hta _ lk_X2_45) (fun _ h9 => h9) rfl (by decide +kernel) rfl rfl (Nat.le_of_ble_eq_true rfl) dX2_lay_54 (fun H locs hP hD hS => ?_)
      have hP : va_P (dC, dI) vwCl [(a_t, .inr (6, [.ref a_t_now, .ref a_t_storesIn, .int t_boilsAt, .int t_cause, .int t_causeDetail, .ref a_t_before, .ref a_t_isBroth, .ref a_t_many, .ref a_t_much, .int v1])), (a_t_isBroth, .inl (cT 1, 5, .inl (upd t_isBroth t_spoons.toNatClampNeg (vp_nar .boolean p1)))), (a_t_many, .inl (cT 0, 5, .inl (upd t_many t_spoons.toNatClampNeg p2))), (a_t_much, .inl (cT 4, 5, .inr (.inr (.inl (vf_upd t_much t_spoons.toNatClampNeg p3)))))] H := hP
      have hD : va_D A [(a_t, .inr (6, [.ref a_t_now, .ref a_t_storesIn, .int t_boilsAt, .int t_cause, .int t_causeDetail, .ref a_t_before, .ref a_t_isBroth, .ref a_t_many, .ref a_t_much, .int v1])), (a_t_isBroth, .inl (cT 1, 5, .inl (upd t_isBroth t_spoons.toNatClampNeg (vp_nar .boolean p1)))), (a_t_many, .inl (cT 0, 5, .inl (upd t_many t_spoons.toNatClampNeg p2))), (a_t_much, .inl (cT 4, 5, .inr (.inr (.inl (vf_upd t_much t_spoons.toNatClampNeg p3)))))] := hD
      refine lv_iconst (v := 1) hx hb dX2_lay_57 (by decide) ?_
      have ho := Option.some.inj h
      exact W.zret (ty := .boolean) (v := 1) hx hb hr rfl (fun t ht hW => ⟨⟨1, (), rfl, by rw [← ho], by show va_P (dC, dI) vwCl _ t.heap; rw [ht, ← ho]; exact hP⟩, hS.F ht⟩) hS.2.2 dX2_lay_58
    · have h := (if_neg c0).symm.trans h
      refine lv_iconst (v := 0) hx hb dX2_lay_15 (by decide) ?_
      have ho := Option.some.inj h
      exact W.zret (ty := .boolean) (v := 0) hx hb hr rfl (fun t ht hW => ⟨⟨0, (), rfl, by rw [← ho], by show va_P (dC, dI) vwCl _ t.heap; rw [ht, ← ho]; exact hP⟩, hS.F ht⟩) hS.2.2 dX2_lay_16
set_option maxHeartbeats 4000000 in
set_option maxRecDepth 100000 in
theorem c_X2_boil (l : Launch) (dC : Nat → ClassId) (dI : Nat → Nat → Nat) (cT : Nat → ClassId) {Hh : Heap} {a_t : Nat} {a_t_now : Nat} {a_t_storesIn : Nat} {a_t_before : Nat} {a_t_isBroth : Nat} {a_t_many : Nat} {a_t_much : Nat} {t_cause : Int32} {t_causeDetail : Int32} {p1 : Int32} {p2 : Int32} {t_boilsAt : Int32} {t_spoons : Int32} {o : Int32 × Int32 × Int32} (h : g_X2_boil t_cause t_causeDetail p1 p2 = some o) (hP0 : va_P (dC, dI) vwCl [(a_t, .inr (6, [.ref a_t_now, .ref a_t_storesIn, .int t_boilsAt, .int t_cause, .int t_causeDetail, .ref a_t_before, .ref a_t_isBroth, .ref a_t_many, .ref a_t_much, .int t_spoons]))] Hh) (hD0 : va_D (fun _ => True) [(a_t, .inr (6, [.ref a_t_now, .ref a_t_storesIn, .int t_boilsAt, .int t_cause, .int t_causeDetail, .ref a_t_before, .ref a_t_isBroth, .ref a_t_many, .ref a_t_much, .int t_spoons]))]) : Met l yX2_boil (wA yX2_boil cX2_boil 3 (some .boolean)) ({ frames := 0, cells := 0, slots := 0, locals := 0 } : Room) (PK dC dI cT [.ref a_t, .int p1, .int p2] Hh) (va_Qi (fun x (_ : Unit) => x = o.1) (fun _ t => va_P (dC, dI) vwCl [(a_t, .inr (6, [.ref a_t_now, .ref a_t_storesIn, .int t_boilsAt, .int o.2.1, .int o.2.2, .ref a_t_before, .ref a_t_isBroth, .ref a_t_many, .ref a_t_much, .int t_spoons]))] t.heap) (va_A [(a_t, .inr (6, [.ref a_t_now, .ref a_t_storesIn, .int t_boilsAt, .int t_cause, .int t_causeDetail, .ref a_t_before, .ref a_t_isBroth, .ref a_t_many, .ref a_t_much, .int t_spoons]))] Hh.size)) 0 0 (va_A [(a_t, .inr (6, [.ref a_t_now, .ref a_t_storesIn, .int t_boilsAt, .int t_cause, .int t_causeDetail, .ref a_t_before, .ref a_t_isBroth, .ref a_t_many, .ref a_t_much, .int t_spoons]))] Hh.size) := by
  refine Met.ofW (cc := cX2_boil) (maxL := 3) (ret := (some .boolean)) (by decide) rfl ?_
  intro p e s m args below meth c s₁ B hml hv
  obtain ⟨rfl, hH, hK⟩ := hv
  subst hH
  have hx := B.exec
  have hb := B.bytes
  have hr := B.returns
  have hta : ∀ w ∈ ALLW, w.before [.ref a_t, .int p1, .int p2].toArray s = true := fun w hw => atoms_spec (ws := wA yX2_boil cX2_boil 3 (some .boolean)) B.pre w (List.mem_cons_of_mem _ hw)
  have hown : s.vm.findClass RX2 = some m.cls := findClass_of_methodNamed B.named
  have hlocks := B.notSynchronized
  have hD := hD0.self (sz := s.heap.size)
  generalize hAe : va_A [(a_t, .inr (6, [.ref a_t_now, .ref a_t_storesIn, .int t_boilsAt, .int t_cause, .int t_causeDetail, .ref a_t_before, .ref a_t_isBroth, .ref a_t_many, .ref a_t_much, .int t_spoons]))] s.heap.size = A at hD ⊢
  have hP := hP0
  have hA : ∀ q : Nat, s.heap.size ≤ q → A q := fun q h => by rw [← hAe]; exact Or.inr h
  have hS : va_S A s.heap s.heap [] := va_S.rf
  have hl := lv_entry [.ref a_t, .int p1, .int p2] (n := 3) (Nat.le_of_ble_eq_true rfl)
  rw [lg_entry_eq]
  generalize (lg_sl [.ref a_t, .int p1, .int p2] ++ List.replicate (3 - (lg_sl [.ref a_t, .int p1, .int p2]).length) Slot.unset).toArray = ls at hl ⊢
  have hl : lv_has ls 3 [(0, .ref a_t), (1, .int p1), (2, .int p2)] := hl
  unfold g_X2_boil at h
  refine lv_aload_n hx hb dX2_boil_0 rfl (lv_at hl 0 rfl) ?_
  refine lv_iload_n hx hb dX2_boil_1 rfl (lv_at hl 1 rfl) ?_
  refine va_put (D := (dC, dI)) (ci := 6) (v := .int p1) (ty := .int) (C := RX2) (T := TX2) (N := 10) hx hb hta inX2w tyX2 tyX2_ok nmX2 hown hK hP hD hS 0 rfl rfl 3 (by decide) (hta _ lk_X2_120) (fun _ h9 => h9) rfl (by decide +kernel) rfl rfl (Nat.le_of_ble_eq_true rfl) dX2_boil_2 (fun H locs hP hD hS => ?_)
  have hP : va_P (dC, dI) vwCl [(a_t, .inr (6, [.ref a_t_now, .ref a_t_storesIn, .int t_boilsAt, .int p1, .int t_causeDetail, .ref a_t_before, .ref a_t_isBroth, .ref a_t_many, .ref a_t_much, .int t_spoons]))] H := hP
  have hD : va_D A [(a_t, .inr (6, [.ref a_t_now, .ref a_t_storesIn, .int t_boilsAt, .int p1, .int t_causeDetail, .ref a_t_before, .ref a_t_isBroth, .ref a_t_many, .ref a_t_much, .int t_spoons]))] := hD
  refine lv_aload_n hx hb dX2_boil_5 rfl (lv_at hl 0 rfl) ?_
  refine lv_iload_n hx hb dX2_boil_6 rfl (lv_at hl 2 rfl) ?_
  refine va_put (D := (dC, dI)) (ci := 6) (v := .int p2) (ty := .int) (C := RX2) (T := TX2) (N := 10) hx hb hta inX2w tyX2 tyX2_ok nmX2 hown hK hP hD hS 0 rfl rfl 4 (by decide) (hta _ lk_X2_123) (fun _ h9 => h9) rfl (by decide +kernel) rfl rfl (Nat.le_of_ble_eq_true rfl) dX2_boil_7 (fun H locs hP hD hS => ?_)
  have hP : va_P (dC, dI) vwCl [(a_t, .inr (6, [.ref a_t_now, .ref a_t_storesIn, .int t_boilsAt, .int p1, .int p2, .ref a_t_before, .ref a_t_isBroth, .ref a_t_many, .ref a_t_much, .int t_spoons]))] H := hP
  have hD : va_D A [(a_t, .inr (6, [.ref a_t_now, .ref a_t_storesIn, .int t_boilsAt, .int p1, .int p2, .ref a_t_before, .ref a_t_isBroth, .ref a_t_many, .ref a_t_much, .int t_spoons]))] := hD
  refine lv_iconst (v := 0) hx hb dX2_boil_10 (by decide) ?_
  have ho := Option.some.inj h
  exact W.zret (ty := .boolean) (v := 0) hx hb hr rfl (fun t ht hW => ⟨⟨0, (), rfl, by rw [← ho], by show va_P (dC, dI) vwCl _ t.heap; rw [ht, ← ho]; exact hP⟩, hS.F ht⟩) hS.2.2 dX2_boil_11
set_option maxHeartbeats 4000000 in
set_option maxRecDepth 100000 in
theorem c_X2_goesCast (l : Launch) (dC : Nat → ClassId) (dI : Nat → Nat → Nat) (cT : Nat → ClassId) {Hh : Heap} {a_t : Nat} {a_t_isBroth : Nat} {a_t_many : Nat} {a_t_much : Nat} {a_t_now : Nat} {a_t_storesIn : Nat} {a_t_before : Nat} {t_cause : Int32} {t_causeDetail : Int32} {t_spoons : Int32} {t_isBroth : Nat → Int32} {t_many : Nat → Int32} {t_much : Nat → UInt32} {p1 : Int32} {t_boilsAt : Int32} {o : Int32 × Int32 × Int32 × (Nat → Int32) × (Nat → Int32) × (Nat → UInt32)} (h : g_X2_goesCast t_cause t_causeDetail t_spoons t_isBroth t_many t_much p1 = some o) (hP0 : va_P (dC, dI) vwCl [(a_t, .inr (6, [.ref a_t_now, .ref a_t_storesIn, .int t_boilsAt, .int t_cause, .int t_causeDetail, .ref a_t_before, .ref a_t_isBroth, .ref a_t_many, .ref a_t_much, .int t_spoons])), (a_t_isBroth, .inl (cT 1, 5, .inl t_isBroth)), (a_t_many, .inl (cT 0, 5, .inl t_many)), (a_t_much, .inl (cT 4, 5, .inr (.inr (.inl t_much))))] Hh) (hD0 : va_D (fun _ => True) [(a_t, .inr (6, [.ref a_t_now, .ref a_t_storesIn, .int t_boilsAt, .int t_cause, .int t_causeDetail, .ref a_t_before, .ref a_t_isBroth, .ref a_t_many, .ref a_t_much, .int t_spoons])), (a_t_isBroth, .inl (cT 1, 5, .inl t_isBroth)), (a_t_many, .inl (cT 0, 5, .inl t_many)), (a_t_much, .inl (cT 4, 5, .inr (.inr (.inl t_much))))]) : Met l yX2_goesCast (wA yX2_goesCast cX2_goesCast 3 (some .boolean)) ({ frames := 2, cells := 0, slots := 0, locals := 41 } : Room) (PK dC dI cT [.ref a_t, .int p1] Hh) (va_Qi (fun x (_ : Unit) => x = o.1) (fun _ t => va_P (dC, dI) vwCl [(a_t, .inr (6, [.ref a_t_now, .ref a_t_storesIn, .int t_boilsAt, .int o.2.1, .int o.2.2.1, .ref a_t_before, .ref a_t_isBroth, .ref a_t_many, .ref a_t_much, .int t_spoons])), (a_t_isBroth, .inl (cT 1, 5, .inl o.2.2.2.1)), (a_t_many, .inl (cT 0, 5, .inl o.2.2.2.2.1)), (a_t_much, .inl (cT 4, 5, .inr (.inr (.inl o.2.2.2.2.2))))] t.heap) (va_A [(a_t, .inr (6, [.ref a_t_now, .ref a_t_storesIn, .int t_boilsAt, .int t_cause, .int t_causeDetail, .ref a_t_before, .ref a_t_isBroth, .ref a_t_many, .ref a_t_much, .int t_spoons])), (a_t_isBroth, .inl (cT 1, 5, .inl t_isBroth)), (a_t_many, .inl (cT 0, 5, .inl t_many)), (a_t_much, .inl (cT 4, 5, .inr (.inr (.inl t_much))))] Hh.size)) 0 0 (va_A [(a_t, .inr (6, [.ref a_t_now, .ref a_t_storesIn, .int t_boilsAt, .int t_cause, .int t_causeDetail, .ref a_t_before, .ref a_t_isBroth, .ref a_t_many, .ref a_t_much, .int t_spoons])), (a_t_isBroth, .inl (cT 1, 5, .inl t_isBroth)), (a_t_many, .inl (cT 0, 5, .inl t_many)), (a_t_much, .inl (cT 4, 5, .inr (.inr (.inl t_much))))] Hh.size) := by
  refine Met.ofW (cc := cX2_goesCast) (maxL := 3) (ret := (some .boolean)) (by decide) rfl ?_
  intro p e s m args below meth c s₁ B hml hv
  obtain ⟨rfl, hH, hK⟩ := hv
  subst hH
  have hx := B.exec
  have hb := B.bytes
  have hr := B.returns
  have hta : ∀ w ∈ ALLW, w.before [.ref a_t, .int p1].toArray s = true := fun w hw => atoms_spec (ws := wA yX2_goesCast cX2_goesCast 3 (some .boolean)) B.pre w (List.mem_cons_of_mem _ hw)
  have hown : s.vm.findClass RX2 = some m.cls := findClass_of_methodNamed B.named
  have hlocks := B.notSynchronized
  have hD := hD0.self (sz := s.heap.size)
  generalize hAe : va_A [(a_t, .inr (6, [.ref a_t_now, .ref a_t_storesIn, .int t_boilsAt, .int t_cause, .int t_causeDetail, .ref a_t_before, .ref a_t_isBroth, .ref a_t_many, .ref a_t_much, .int t_spoons])), (a_t_isBroth, .inl (cT 1, 5, .inl t_isBroth)), (a_t_many, .inl (cT 0, 5, .inl t_many)), (a_t_much, .inl (cT 4, 5, .inr (.inr (.inl t_much))))] s.heap.size = A at hD ⊢
  have hP := hP0
  have hA : ∀ q : Nat, s.heap.size ≤ q → A q := fun q h => by rw [← hAe]; exact Or.inr h
  have hS : va_S A s.heap s.heap [] := va_S.rf
  have hl := lv_entry [.ref a_t, .int p1] (n := 3) (Nat.le_of_ble_eq_true rfl)
  rw [lg_entry_eq]
  generalize (lg_sl [.ref a_t, .int p1] ++ List.replicate (3 - (lg_sl [.ref a_t, .int p1]).length) Slot.unset).toArray = ls at hl ⊢
  have hl : lv_has ls 3 [(0, .ref a_t), (1, .int p1)] := hl
  unfold g_X2_goesCast at h
  refine lv_aload_n hx hb dX2_goesCast_0 rfl (lv_at hl 0 rfl) ?_
  refine va_get (D := (dC, dI)) (ci := 6) (v := .int t_spoons) (C := RX2) (T := TX2) (N := 10) hx hb hta inX2w hown hK hP 0 rfl rfl 9 (by decide) (hta _ lk_X2_45) (fun _ h9 => h9) rfl dX2_goesCast_1 ?_
  refine lv_iconst (v := 1) hx hb dX2_goesCast_4 (by decide) ?_
  refine lv_isub hx hb dX2_goesCast_5 ?_
  refine lv_topi (fun v1 e_v1 => ?_)
  have h := gl_use e_v1 h
  refine lv_istore_n (lv' := [(2, .int v1), (0, .ref a_t), (1, .int p1)]) hx hb dX2_goesCast_6 rfl hl (by decide) rfl (fun ls hl => ?_)
  refine lv_iload_n hx hb dX2_goesCast_7 rfl (lv_at hl 0 rfl) ?_
  refine lv_if_lt (tgt := 16) hx hb dX2_goesCast_8 (by decide) (fun c0 => ?_) (fun c0 => ?_)
  · have h := (if_pos c0).symm.trans h
    refine lv_iconst (v := 0) hx hb dX2_goesCast_16 (by decide) ?_
    have ho := Option.some.inj h
    exact W.zret (ty := .boolean) (v := 0) hx hb hr rfl (fun t ht hW => ⟨⟨0, (), rfl, by rw [← ho], by show va_P (dC, dI) vwCl _ t.heap; rw [ht, ← ho]; exact hP⟩, hS.F ht⟩) hS.2.2 dX2_goesCast_17
  · have h := (if_neg c0).symm.trans h
    refine lv_iload_n hx hb dX2_goesCast_11 rfl (lv_at hl 0 rfl) ?_
    refine lv_iconst (v := 5) hx hb dX2_goesCast_12 (by decide) ?_
    refine lv_icmp_lt (tgt := 18) hx hb dX2_goesCast_13 (by decide) (fun c0 => ?_) (fun c0 => ?_)
    · have h := (if_pos c0).symm.trans h
      refine lv_aload_n hx hb dX2_goesCast_18 rfl (lv_at hl 1 rfl) ?_
      refine va_get (D := (dC, dI)) (ci := 6) (v := .ref a_t_isBroth) (C := RX2) (T := TX2) (N := 10) hx hb hta inX2w hown hK hP 0 rfl rfl 6 (by decide) (hta _ lk_X2_25) (fun _ h9 => h9) rfl dX2_goesCast_19 ?_
      refine lv_iload_n hx hb dX2_goesCast_22 rfl (lv_at hl 0 rfl) ?_
      obtain ⟨hc, h⟩ := gc_some h
      refine va_zald hx hb hK hP 1 1 rfl rfl (inb_in hc) dX2_goesCast_23 ?_
      refine lv_iload_n hx hb dX2_goesCast_24 rfl (lv_at hl 2 rfl) ?_
      refine lv_icmp_ne (tgt := 36) hx hb dX2_goesCast_25 (by decide) (fun c0 => ?_) (fun c0 => ?_)
      · have h := (if_neg c0).symm.trans h
        refine lv_aload_n hx hb dX2_goesCast_36 rfl (lv_at hl 1 rfl) ?_
        refine va_get (D := (dC, dI)) (ci := 6) (v := .ref a_t_isBroth) (C := RX2) (T := TX2) (N := 10) hx hb hta inX2w hown hK hP 0 rfl rfl 6 (by decide) (hta _ lk_X2_25) (fun _ h9 => h9) rfl dX2_goesCast_37 ?_
        refine lv_iload_n hx hb dX2_goesCast_40 rfl (lv_at hl 0 rfl) ?_
        refine lv_iload_n hx hb dX2_goesCast_41 rfl (lv_at hl 2 rfl) ?_
        obtain ⟨hc, h⟩ := gc_some h
        refine va_zast hx hb hK hP hD hS 1 1 rfl rfl (inb_in hc) dX2_goesCast_42 (fun H locs hP hD hS => ?_)
        have hP : va_P (dC, dI) vwCl [(a_t, .inr (6, [.ref a_t_now, .ref a_t_storesIn, .int t_boilsAt, .int t_cause, .int t_causeDetail, .ref a_t_before, .ref a_t_isBroth, .ref a_t_many, .ref a_t_much, .int t_spoons])), (a_t_isBroth, .inl (cT 1, 5, .inl (upd t_isBroth v1.toNatClampNeg (vp_nar .boolean p1)))), (a_t_many, .inl (cT 0, 5, .inl t_many)), (a_t_much, .inl (cT 4, 5, .inr (.inr (.inl t_much))))] H := hP
        have hD : va_D A [(a_t, .inr (6, [.ref a_t_now, .ref a_t_storesIn, .int t_boilsAt, .int t_cause, .int t_causeDetail, .ref a_t_before, .ref a_t_isBroth, .ref a_t_many, .ref a_t_much, .int t_spoons])), (a_t_isBroth, .inl (cT 1, 5, .inl (upd t_isBroth v1.toNatClampNeg (vp_nar .boolean p1)))), (a_t_many, .inl (cT 0, 5, .inl t_many)), (a_t_much, .inl (cT 4, 5, .inr (.inr (.inl t_much))))] := hD
        refine lv_iload_n hx hb dX2_goesCast_43 rfl (lv_at hl 2 rfl) ?_
        refine lv_if_eq (tgt := 65) hx hb dX2_goesCast_44 (by decide) (fun c0 => ?_) (fun c0 => ?_)
        · have h := (if_pos c0).symm.trans h
          refine lv_aload_n hx hb dX2_goesCast_65 rfl (lv_at hl 1 rfl) ?_
          refine va_get (D := (dC, dI)) (ci := 6) (v := .ref a_t_many) (C := RX2) (T := TX2) (N := 10) hx hb hta inX2w hown hK hP 0 rfl rfl 7 (by decide) (hta _ lk_X2_29) (fun _ h9 => h9) rfl dX2_goesCast_66 ?_
          refine lv_iload_n hx hb dX2_goesCast_69 rfl (lv_at hl 0 rfl) ?_
          refine lv_aload_n hx hb dX2_goesCast_70 rfl (lv_at hl 1 rfl) ?_
          refine va_get (D := (dC, dI)) (ci := 6) (v := .ref a_t_much) (C := RX2) (T := TX2) (N := 10) hx hb hta inX2w hown hK hP 0 rfl rfl 8 (by decide) (hta _ lk_X2_32) (fun _ h9 => h9) rfl dX2_goesCast_71 ?_
          refine lv_iload_n hx hb dX2_goesCast_74 rfl (lv_at hl 0 rfl) ?_
          obtain ⟨hc, h⟩ := gc_some h
          refine va_fald hx hb hK hP 3 4 rfl rfl (inb_in hc) dX2_goesCast_75 ?_
          obtain ⟨r2, hq, h⟩ := gb_some h
          refine crI (va_runS (As := [.float (t_much v1.toNatClampNeg)]) (rest := [.int v1, .ref a_t_many]) ⟨hx, hb, hml, hown, hta⟩ (c_X5_toDrams l dC dI cT hq) (cS hta lm_X2_100 md_X5_toDrams ⟨(Nat.le_of_ble_eq_true rfl), (Nat.le_of_ble_eq_true rfl)⟩) ⟨fbK, fun U hU hW => ⟨rfl, hU, va_K.moved hW.alike hK⟩⟩ rfl rfl hl.1 rfl (lv_room (Nat.le_of_ble_eq_true rfl)) dX2_goesCast_76 ⟨(Nat.le_of_ble_eq_true rfl), (Nat.le_of_ble_eq_true rfl)⟩) hS hA (fun locs hS => ?_)
          obtain ⟨hc, h⟩ := gc_some h
          refine va_iast hx hb hK hP hD hS 2 0 rfl rfl (inb_in hc) dX2_goesCast_79 (fun H locs hP hD hS => ?_)
          have hP : va_P (dC, dI) vwCl [(a_t, .inr (6, [.ref a_t_now, .ref a_t_storesIn, .int t_boilsAt, .int t_cause, .int t_causeDetail, .ref a_t_before, .ref a_t_isBroth, .ref a_t_many, .ref a_t_much, .int t_spoons])), (a_t_isBroth, .inl (cT 1, 5, .inl (upd t_isBroth v1.toNatClampNeg (vp_nar .boolean p1)))), (a_t_many, .inl (cT 0, 5, .inl (upd t_many v1.toNatClampNeg r2))), (a_t_much, .inl (cT 4, 5, .inr (.inr (.inl t_much))))] H := hP
          have hD : va_D A [(a_t, .inr (6, [.ref a_t_now, .ref a_t_storesIn, .int t_boilsAt, .int t_cause, .int t_causeDetail, .ref a_t_before, .ref a_t_isBroth, .ref a_t_many, .ref a_t_much, .int t_spoons])), (a_t_isBroth, .inl (cT 1, 5, .inl (upd t_isBroth v1.toNatClampNeg (vp_nar .boolean p1)))), (a_t_many, .inl (cT 0, 5, .inl (upd t_many v1.toNatClampNeg r2))), (a_t_much, .inl (cT 4, 5, .inr (.inr (.inl t_much))))] := hD
          refine lv_iconst (v := 1) hx hb dX2_goesCast_80 (by decide) ?_
          have ho := Option.some.inj h
          exact W.zret (ty := .boolean) (v := 1) hx hb hr rfl (fun t ht hW => ⟨⟨1, (), rfl, by rw [← ho], by show va_P (dC, dI) vwCl _ t.heap; rw [ht, ← ho]; exact hP⟩, hS.F ht⟩) hS.2.2 dX2_goesCast_81
        · have h := (if_neg c0).symm.trans h
          refine lv_aload_n hx hb dX2_goesCast_47 rfl (lv_at hl 1 rfl) ?_
          refine va_get (D := (dC, dI)) (ci := 6) (v := .ref a_t_much) (C := RX2) (T := TX2) (N := 10) hx hb hta inX2w hown hK hP 0 rfl rfl 8 (by decide) (hta _ lk_X2_32) (fun _ h9 => h9) rfl dX2_goesCast_48 ?_
          refine lv_iload_n hx hb dX2_goesCast_51 rfl (lv_at hl 0 rfl) ?_
          refine lv_aload_n hx hb dX2_goesCast_52 rfl (lv_at hl 1 rfl) ?_
          refine va_get (D := (dC, dI)) (ci := 6) (v := .ref a_t_many) (C := RX2) (T := TX2) (N := 10) hx hb hta inX2w hown hK hP 0 rfl rfl 7 (by decide) (hta _ lk_X2_29) (fun _ h9 => h9) rfl dX2_goesCast_53 ?_
          refine lv_iload_n hx hb dX2_goesCast_56 rfl (lv_at hl 0 rfl) ?_
          obtain ⟨hc, h⟩ := gc_some h
          refine va_iald hx hb hK hP 2 0 rfl rfl (inb_in hc) dX2_goesCast_57 ?_
          obtain ⟨r3, hq, h⟩ := gb_some h
          refine crF (va_runS (As := [.int (t_many v1.toNatClampNeg)]) (rest := [.int v1, .ref a_t_much]) ⟨hx, hb, hml, hown, hta⟩ (c_X5_toBroth l dC dI cT hq) (cS hta lm_X2_94 md_X5_toBroth ⟨(Nat.le_of_ble_eq_true rfl), (Nat.le_of_ble_eq_true rfl)⟩) ⟨fbK, fun U hU hW => ⟨rfl, hU, va_K.moved hW.alike hK⟩⟩ rfl rfl hl.1 rfl (lv_room (Nat.le_of_ble_eq_true rfl)) dX2_goesCast_58 ⟨(Nat.le_of_ble_eq_true rfl), (Nat.le_of_ble_eq_true rfl)⟩) hS hA (fun locs hS => ?_)
          obtain ⟨hc, h⟩ := gc_some h
          refine va_fast hx hb hK hP hD hS 3 4 rfl rfl (inb_in hc) dX2_goesCast_61 (fun H locs hP hD hS => ?_)
          have hP : va_P (dC, dI) vwCl [(a_t, .inr (6, [.ref a_t_now, .ref a_t_storesIn, .int t_boilsAt, .int t_cause, .int t_causeDetail, .ref a_t_before, .ref a_t_isBroth, .ref a_t_many, .ref a_t_much, .int t_spoons])), (a_t_isBroth, .inl (cT 1, 5, .inl (upd t_isBroth v1.toNatClampNeg (vp_nar .boolean p1)))), (a_t_many, .inl (cT 0, 5, .inl t_many)), (a_t_much, .inl (cT 4, 5, .inr (.inr (.inl (vf_upd t_much v1.toNatClampNeg r3)))))] H := hP
          have hD : va_D A [(a_t, .inr (6, [.ref a_t_now, .ref a_t_storesIn, .int t_boilsAt, .int t_cause, .int t_causeDetail, .ref a_t_before, .ref a_t_isBroth, .ref a_t_many, .ref a_t_much, .int t_spoons])), (a_t_isBroth, .inl (cT 1, 5, .inl (upd t_isBroth v1.toNatClampNeg (vp_nar .boolean p1)))), (a_t_many, .inl (cT 0, 5, .inl t_many)), (a_t_much, .inl (cT 4, 5, .inr (.inr (.inl (vf_upd t_much v1.toNatClampNeg r3)))))] := hD
          refine lv_goto (tgt := 80) hx hb dX2_goesCast_62 (by decide) ?_
          refine lv_iconst (v := 1) hx hb dX2_goesCast_80 (by decide) ?_
          have ho := Option.some.inj h
          exact W.zret (ty := .boolean) (v := 1) hx hb hr rfl (fun t ht hW => ⟨⟨1, (), rfl, by rw [← ho], by show va_P (dC, dI) vwCl _ t.heap; rw [ht, ← ho]; exact hP⟩, hS.F ht⟩) hS.2.2 dX2_goesCast_81
      · have h := (if_pos c0).symm.trans h
        refine lv_aload_n hx hb dX2_goesCast_28 rfl (lv_at hl 1 rfl) ?_
        refine lv_bipush (v := 7) hx hb dX2_goesCast_29 (by decide) ?_
        refine lv_iconst (v := -1) hx hb dX2_goesCast_31 (by decide) ?_
        obtain ⟨r4, hq, h⟩ := gb_some h
        refine cxI (X2 := [(a_t, .inr (6, [.ref a_t_now, .ref a_t_storesIn, .int t_boilsAt, .int r4.2.1, .int r4.2.2, .ref a_t_before, .ref a_t_isBroth, .ref a_t_many, .ref a_t_much, .int t_spoons])), (a_t_isBroth, .inl (cT 1, 5, .inl t_isBroth)), (a_t_many, .inl (cT 0, 5, .inl t_many)), (a_t_much, .inl (cT 4, 5, .inr (.inr (.inl t_much))))]) (va_runV (As := [.int 7, .int (-1)]) (rest := []) ⟨hx, hb, hml, hown, hta⟩ (c_X2_boil l dC dI cT hq (hP.sub (ws' := [(a_t, .inr (6, [.ref a_t_now, .ref a_t_storesIn, .int t_boilsAt, .int t_cause, .int t_causeDetail, .ref a_t_before, .ref a_t_isBroth, .ref a_t_many, .ref a_t_much, .int t_spoons]))]) [0] rfl) (ds hD [0] (by decide) rfl)) (cV hta lm_X2_90 md_X2_boil ⟨(Nat.le_of_ble_eq_true rfl), (Nat.le_of_ble_eq_true rfl)⟩) ⟨fbK, va_recv hK hP (ci := 6) (q0 := 0) rfl rfl, fun U hU hW => ⟨rfl, hU, va_K.moved hW.alike hK⟩⟩ rfl rfl hl.1 rfl (lv_room (Nat.le_of_ble_eq_true rfl)) dX2_goesCast_32 ⟨(Nat.le_of_ble_eq_true rfl), (Nat.le_of_ble_eq_true rfl)⟩) hS hA hP hD [0] rfl [.inl 0, .inr 1, .inr 2, .inr 3] rfl rfl rfl (fun H locs hP hD hS => ?_)
        obtain ⟨hc, h⟩ := gc_some h
        have ho := Option.some.inj h
        exact W.zret (ty := .boolean) (v := r4.1) hx hb hr (bo_n hc) (fun t ht hW => ⟨⟨r4.1, (), rfl, by rw [← ho], by show va_P (dC, dI) vwCl _ t.heap; rw [ht, ← ho]; exact hP⟩, hS.F ht⟩) hS.2.2 dX2_goesCast_35
    · have h := (if_neg c0).symm.trans h
      refine lv_iconst (v := 0) hx hb dX2_goesCast_16 (by decide) ?_
      have ho := Option.some.inj h
      exact W.zret (ty := .boolean) (v := 0) hx hb hr rfl (fun t ht hW => ⟨⟨0, (), rfl, by rw [← ho], by show va_P (dC, dI) vwCl _ t.heap; rw [ht, ← ho]; exact hP⟩, hS.F ht⟩) hS.2.2 dX2_goesCast_17
set_option maxHeartbeats 4000000 in
set_option maxRecDepth 100000 in
theorem c_X2_goesStore (l : Launch) (dC : Nat → ClassId) (dI : Nat → Nat → Nat) (cT : Nat → ClassId) {Hh : Heap} {a_t : Nat} {a_p2 : Nat} {a_t_isBroth : Nat} {a_p2_isBroth : Nat} {a_t_many : Nat} {a_p2_low : Nat} {a_p2_high : Nat} {a_t_now : Nat} {a_t_now_many : Nat} {a_t_now_much : Nat} {a_t_much : Nat} {a_t_storesIn : Nat} {a_t_before : Nat} {a_p2_contents : Nat} {a_p2_storesIn : Nat} {a_p2_texts : Nat} {a_p2_cooked : Nat} {t_cause : Int32} {t_causeDetail : Int32} {t_spoons : Int32} {t_isBroth : Nat → Int32} {p2_isBroth : Nat → Int32} {t_many : Nat → Int32} {p2_low : Nat → Int32} {p2_high : Nat → Int32} {t_now_many : Nat → Int32} {t_now_much : Nat → UInt32} {t_much : Nat → UInt32} {t_storesIn : Nat → Int32} {p1 : Int32} {t_boilsAt : Int32} {p2_cauldrons : Int32} {p2_spells : Int32} {p2_cookedSoFar : Int32} {p2_storesSoFar : Int32} {o : Int32 × Int32 × Int32 × Int32 × (Nat → Int32) × (Nat → UInt32) × (Nat → Int32)} (h : g_X2_goesStore t_cause t_causeDetail t_spoons t_isBroth p2_isBroth t_many p2_low p2_high t_now_many t_now_much t_much t_storesIn p1 = some o) (hP0 : va_P (dC, dI) vwCl [(a_t, .inr (6, [.ref a_t_now, .ref a_t_storesIn, .int t_boilsAt, .int t_cause, .int t_causeDetail, .ref a_t_before, .ref a_t_isBroth, .ref a_t_many, .ref a_t_much, .int t_spoons])), (a_t_now_many, .inl (cT 0, 6, .inl t_now_many)), (a_t_now_much, .inl (cT 4, 6, .inr (.inr (.inl t_now_much)))), (a_t_storesIn, .inl (cT 0, 6, .inl t_storesIn))] Hh) (hR0 : va_P (dC, dI) vwCl [(a_p2, .inr (4, [.int p2_cauldrons, .ref a_p2_isBroth, .ref a_p2_low, .ref a_p2_high, .ref a_p2_contents, .ref a_p2_storesIn, .int p2_spells, .ref a_p2_texts, .ref a_p2_cooked, .int p2_cookedSoFar, .int p2_storesSoFar])), (a_t_isBroth, .inl (cT 1, 5, .inl t_isBroth)), (a_p2_isBroth, .inl (cT 1, 6, .inl p2_isBroth)), (a_t_many, .inl (cT 0, 5, .inl t_many)), (a_p2_low, .inl (cT 0, 6, .inl p2_low)), (a_p2_high, .inl (cT 0, 6, .inl p2_high)), (a_t_now, .inr (5, [.ref a_t_now_many, .ref a_t_now_much])), (a_t_much, .inl (cT 4, 5, .inr (.inr (.inl t_much))))] Hh) (hD0 : va_D (fun _ => True) [(a_t, .inr (6, [.ref a_t_now, .ref a_t_storesIn, .int t_boilsAt, .int t_cause, .int t_causeDetail, .ref a_t_before, .ref a_t_isBroth, .ref a_t_many, .ref a_t_much, .int t_spoons])), (a_t_now_many, .inl (cT 0, 6, .inl t_now_many)), (a_t_now_much, .inl (cT 4, 6, .inr (.inr (.inl t_now_much)))), (a_t_storesIn, .inl (cT 0, 6, .inl t_storesIn))]) (hN0 : ∀ (k : Nat) (q : Nat × va_E), ([(a_p2, .inr (4, [.int p2_cauldrons, .ref a_p2_isBroth, .ref a_p2_low, .ref a_p2_high, .ref a_p2_contents, .ref a_p2_storesIn, .int p2_spells, .ref a_p2_texts, .ref a_p2_cooked, .int p2_cookedSoFar, .int p2_storesSoFar])), (a_t_isBroth, .inl (cT 1, 5, .inl t_isBroth)), (a_p2_isBroth, .inl (cT 1, 6, .inl p2_isBroth)), (a_t_many, .inl (cT 0, 5, .inl t_many)), (a_p2_low, .inl (cT 0, 6, .inl p2_low)), (a_p2_high, .inl (cT 0, 6, .inl p2_high)), (a_t_now, .inr (5, [.ref a_t_now_many, .ref a_t_now_much])), (a_t_much, .inl (cT 4, 5, .inr (.inr (.inl t_much))))] : va_W)[k]? = some q → ¬ va_A [(a_t, .inr (6, [.ref a_t_now, .ref a_t_storesIn, .int t_boilsAt, .int t_cause, .int t_causeDetail, .ref a_t_before, .ref a_t_isBroth, .ref a_t_many, .ref a_t_much, .int t_spoons])), (a_t_now_many, .inl (cT 0, 6, .inl t_now_many)), (a_t_now_much, .inl (cT 4, 6, .inr (.inr (.inl t_now_much)))), (a_t_storesIn, .inl (cT 0, 6, .inl t_storesIn))] Hh.size q.1) : Met l yX2_goesStore (wA yX2_goesStore cX2_goesStore 4 (some .boolean)) ({ frames := 1, cells := 0, slots := 0, locals := 23 } : Room) (PK dC dI cT [.ref a_t, .int p1, .ref a_p2] Hh) (va_Qi (fun x (_ : Unit) => x = o.1) (fun _ t => va_P (dC, dI) vwCl [(a_t, .inr (6, [.ref a_t_now, .ref a_t_storesIn, .int t_boilsAt, .int o.2.1, .int o.2.2.1, .ref a_t_before, .ref a_t_isBroth, .ref a_t_many, .ref a_t_much, .int o.2.2.2.1])), (a_t_now_many, .inl (cT 0, 6, .inl o.2.2.2.2.1)), (a_t_now_much, .inl (cT 4, 6, .inr (.inr (.inl o.2.2.2.2.2.1)))), (a_t_storesIn, .inl (cT 0, 6, .inl o.2.2.2.2.2.2))] t.heap) (va_A [(a_t, .inr (6, [.ref a_t_now, .ref a_t_storesIn, .int t_boilsAt, .int t_cause, .int t_causeDetail, .ref a_t_before, .ref a_t_isBroth, .ref a_t_many, .ref a_t_much, .int t_spoons])), (a_t_now_many, .inl (cT 0, 6, .inl t_now_many)), (a_t_now_much, .inl (cT 4, 6, .inr (.inr (.inl t_now_much)))), (a_t_storesIn, .inl (cT 0, 6, .inl t_storesIn))] Hh.size)) 0 0 (va_A [(a_t, .inr (6, [.ref a_t_now, .ref a_t_storesIn, .int t_boilsAt, .int t_cause, .int t_causeDetail, .ref a_t_before, .ref a_t_isBroth, .ref a_t_many, .ref a_t_much, .int t_spoons])), (a_t_now_many, .inl (cT 0, 6, .inl t_now_many)), (a_t_now_much, .inl (cT 4, 6, .inr (.inr (.inl t_now_much)))), (a_t_storesIn, .inl (cT 0, 6, .inl t_storesIn))] Hh.size) := by
  refine Met.ofW (cc := cX2_goesStore) (maxL := 4) (ret := (some .boolean)) (by decide) rfl ?_
  intro p e s m args below meth c s₁ B hml hv
  obtain ⟨rfl, hH, hK⟩ := hv
  subst hH
  have hx := B.exec
  have hb := B.bytes
  have hr := B.returns
  have hta : ∀ w ∈ ALLW, w.before [.ref a_t, .int p1, .ref a_p2].toArray s = true := fun w hw => atoms_spec (ws := wA yX2_goesStore cX2_goesStore 4 (some .boolean)) B.pre w (List.mem_cons_of_mem _ hw)
  have hown : s.vm.findClass RX2 = some m.cls := findClass_of_methodNamed B.named
  have hlocks := B.notSynchronized
  have hD := hD0.self (sz := s.heap.size)
  have hNA := hN0
  generalize hAe : va_A [(a_t, .inr (6, [.ref a_t_now, .ref a_t_storesIn, .int t_boilsAt, .int t_cause, .int t_causeDetail, .ref a_t_before, .ref a_t_isBroth, .ref a_t_many, .ref a_t_much, .int t_spoons])), (a_t_now_many, .inl (cT 0, 6, .inl t_now_many)), (a_t_now_much, .inl (cT 4, 6, .inr (.inr (.inl t_now_much)))), (a_t_storesIn, .inl (cT 0, 6, .inl t_storesIn))] s.heap.size = A at hD hNA ⊢
  have hP := hP0
  have hA : ∀ q : Nat, s.heap.size ≤ q → A q := fun q h => by rw [← hAe]; exact Or.inr h
  have hS : va_S A s.heap s.heap [] := va_S.rf
  have hl := lv_entry [.ref a_t, .int p1, .ref a_p2] (n := 4) (Nat.le_of_ble_eq_true rfl)
  rw [lg_entry_eq]
  generalize (lg_sl [.ref a_t, .int p1, .ref a_p2] ++ List.replicate (4 - (lg_sl [.ref a_t, .int p1, .ref a_p2]).length) Slot.unset).toArray = ls at hl ⊢
  have hl : lv_has ls 4 [(0, .ref a_t), (1, .int p1), (2, .ref a_p2)] := hl
  obtain ⟨Q, hQ⟩ : ∃ Q, Q = MQ below (va_Qi (fun x (_ : Unit) => x = o.1) (fun _ t => va_P (dC, dI) vwCl [(a_t, .inr (6, [.ref a_t_now, .ref a_t_storesIn, .int t_boilsAt, .int o.2.1, .int o.2.2.1, .ref a_t_before, .ref a_t_isBroth, .ref a_t_many, .ref a_t_much, .int o.2.2.2.1])), (a_t_now_many, .inl (cT 0, 6, .inl o.2.2.2.2.1)), (a_t_now_much, .inl (cT 4, 6, .inr (.inr (.inl o.2.2.2.2.2.1)))), (a_t_storesIn, .inl (cT 0, 6, .inl o.2.2.2.2.2.2))] t.heap) A) [.ref a_t, .int p1, .ref a_p2].toArray s 0 0 A := ⟨_, rfl⟩
  rw [← hQ]
  have wB_113 : ∀ (t_now_many_113 : Nat → Int32) (t_now_much_113 : Nat → UInt32) (H : Heap) (locs : List Loc) (ls : Array Slot), g_X2_goesStore_b113 t_cause t_causeDetail t_spoons t_storesIn p1 t_now_many_113 t_now_much_113 = some o → va_P (dC, dI) vwCl [(a_t, .inr (6, [.ref a_t_now, .ref a_t_storesIn, .int t_boilsAt, .int t_cause, .int t_causeDetail, .ref a_t_before, .ref a_t_isBroth, .ref a_t_many, .ref a_t_much, .int t_spoons])), (a_t_now_many, .inl (cT 0, 6, .inl t_now_many_113)), (a_t_now_much, .inl (cT 4, 6, .inr (.inr (.inl t_now_much_113)))), (a_t_storesIn, .inl (cT 0, 6, .inl t_storesIn))] H → va_D A [(a_t, .inr (6, [.ref a_t_now, .ref a_t_storesIn, .int t_boilsAt, .int t_cause, .int t_causeDetail, .ref a_t_before, .ref a_t_isBroth, .ref a_t_many, .ref a_t_much, .int t_spoons])), (a_t_now_many, .inl (cT 0, 6, .inl t_now_many_113)), (a_t_now_much, .inl (cT 4, 6, .inr (.inr (.inl t_now_much_113)))), (a_t_storesIn, .inl (cT 0, 6, .inl t_storesIn))] → va_S A s.heap H locs → lv_has ls 4 [(0, .ref a_t), (1, .int p1)] → W p l e ({ frames := 1, cells := 0, slots := 0, locals := 23 } : Room) s m [.ref a_t, .int p1, .ref a_p2].toArray below meth c H locs 0 0 Q (F0 m 113 ls []) := by
    intro t_now_many_113 t_now_much_113 H locs ls h hP hD hS hl
    unfold g_X2_goesStore_b113 at h
    refine lv_aload_n hx hb dX2_goesStore_113 rfl (lv_at hl 0 rfl) ?_
    refine va_get (D := (dC, dI)) (ci := 6) (v := .ref a_t_storesIn) (C := RX2) (T := TX2) (N := 10) hx hb hta inX2w hown hK hP 0 rfl rfl 1 (by decide) (hta _ lk_X2_18) (fun _ h9 => h9) rfl dX2_goesStore_114 ?_
    refine lv_iload_n hx hb dX2_goesStore_117 rfl (lv_at hl 1 rfl) ?_
    refine lv_dup2_11 hx hb dX2_goesStore_118 rfl rfl ?_
    obtain ⟨hc, h⟩ := gc_some h
    refine va_iald hx hb hK hP 3 0 rfl rfl (inb_in hc) dX2_goesStore_119 ?_
    refine lv_iconst (v := 1) hx hb dX2_goesStore_120 (by decide) ?_
    refine lv_iadd hx hb dX2_goesStore_121 ?_
    obtain ⟨hc, h⟩ := gc_some h
    refine va_iast hx hb hK hP hD hS 3 0 rfl rfl (inb_in hc) dX2_goesStore_122 (fun H locs hP hD hS => ?_)
    have hP : va_P (dC, dI) vwCl [(a_t, .inr (6, [.ref a_t_now, .ref a_t_storesIn, .int t_boilsAt, .int t_cause, .int t_causeDetail, .ref a_t_before, .ref a_t_isBroth, .ref a_t_many, .ref a_t_much, .int t_spoons])), (a_t_now_many, .inl (cT 0, 6, .inl t_now_many_113)), (a_t_now_much, .inl (cT 4, 6, .inr (.inr (.inl t_now_much_113)))), (a_t_storesIn, .inl (cT 0, 6, .inl (upd t_storesIn p1.toNatClampNeg ((t_storesIn p1.toNatClampNeg) + 1))))] H := hP
    have hD : va_D A [(a_t, .inr (6, [.ref a_t_now, .ref a_t_storesIn, .int t_boilsAt, .int t_cause, .int t_causeDetail, .ref a_t_before, .ref a_t_isBroth, .ref a_t_many, .ref a_t_much, .int t_spoons])), (a_t_now_many, .inl (cT 0, 6, .inl t_now_many_113)), (a_t_now_much, .inl (cT 4, 6, .inr (.inr (.inl t_now_much_113)))), (a_t_storesIn, .inl (cT 0, 6, .inl (upd t_storesIn p1.toNatClampNeg ((t_storesIn p1.toNatClampNeg) + 1))))] := hD
    refine lv_aload_n hx hb dX2_goesStore_123 rfl (lv_at hl 0 rfl) ?_
    refine lv_dup hx hb dX2_goesStore_124 rfl ?_
    refine va_get (D := (dC, dI)) (ci := 6) (v := .int t_spoons) (C := RX2) (T := TX2) (N := 10) hx hb hta inX2w hown hK hP 0 rfl rfl 9 (by decide) (hta _ lk_X2_45) (fun _ h9 => h9) rfl dX2_goesStore_125 ?_
    refine lv_iconst (v := 1) hx hb dX2_goesStore_128 (by decide) ?_
    refine lv_isub hx hb dX2_goesStore_129 ?_
    refine lv_topi (fun v5 e_v5 => ?_)
    have h := gl_use e_v5 h
    refine va_put (D := (dC, dI)) (ci := 6) (v := .int v5) (ty := .int) (C := RX2) (T := TX2) (N := 10) hx hb hta inX2w tyX2 tyX2_ok nmX2 hown hK hP hD hS 0 rfl rfl 9 (by decide) (hta _ lk_X2_45) (fun _ h9 => h9) rfl (by decide +kernel) rfl rfl (Nat.le_of_ble_eq_true rfl) dX2_goesStore_130 (fun H locs hP hD hS => ?_)
    have hP : va_P (dC, dI) vwCl [(a_t, .inr (6, [.ref a_t_now, .ref a_t_storesIn, .int t_boilsAt, .int t_cause, .int t_causeDetail, .ref a_t_before, .ref a_t_isBroth, .ref a_t_many, .ref a_t_much, .int v5])), (a_t_now_many, .inl (cT 0, 6, .inl t_now_many_113)), (a_t_now_much, .inl (cT 4, 6, .inr (.inr (.inl t_now_much_113)))), (a_t_storesIn, .inl (cT 0, 6, .inl (upd t_storesIn p1.toNatClampNeg ((t_storesIn p1.toNatClampNeg) + 1))))] H := hP
    have hD : va_D A [(a_t, .inr (6, [.ref a_t_now, .ref a_t_storesIn, .int t_boilsAt, .int t_cause, .int t_causeDetail, .ref a_t_before, .ref a_t_isBroth, .ref a_t_many, .ref a_t_much, .int v5])), (a_t_now_many, .inl (cT 0, 6, .inl t_now_many_113)), (a_t_now_much, .inl (cT 4, 6, .inr (.inr (.inl t_now_much_113)))), (a_t_storesIn, .inl (cT 0, 6, .inl (upd t_storesIn p1.toNatClampNeg ((t_storesIn p1.toNatClampNeg) + 1))))] := hD
    refine lv_iconst (v := 1) hx hb dX2_goesStore_133 (by decide) ?_
    have ho := Option.some.inj h
    rw [hQ]
    exact W.zret (ty := .boolean) (v := 1) hx hb hr rfl (fun t ht hW => ⟨⟨1, (), rfl, by rw [← ho], by show va_P (dC, dI) vwCl _ t.heap; rw [ht, ← ho]; exact hP⟩, hS.F ht⟩) hS.2.2 dX2_goesStore_134
  unfold g_X2_goesStore at h
  refine lv_aload_n hx hb dX2_goesStore_0 rfl (lv_at hl 0 rfl) ?_
  refine va_get (D := (dC, dI)) (ci := 6) (v := .int t_spoons) (C := RX2) (T := TX2) (N := 10) hx hb hta inX2w hown hK hP 0 rfl rfl 9 (by decide) (hta _ lk_X2_45) (fun _ h9 => h9) rfl dX2_goesStore_1 ?_
  refine lv_iconst (v := 1) hx hb dX2_goesStore_4 (by decide) ?_
  refine lv_isub hx hb dX2_goesStore_5 ?_
  refine lv_topi (fun v1 e_v1 => ?_)
  have h := gl_use e_v1 h
  refine lv_istore_n (lv' := [(3, .int v1), (0, .ref a_t), (1, .int p1), (2, .ref a_p2)]) hx hb dX2_goesStore_6 rfl hl (by decide) rfl (fun ls hl => ?_)
  refine lv_iload_n hx hb dX2_goesStore_7 rfl (lv_at hl 0 rfl) ?_
  refine lv_if_lt (tgt := 16) hx hb dX2_goesStore_8 (by decide) (fun c0 => ?_) (fun c0 => ?_)
  · have h := (if_pos c0).symm.trans h
    refine lv_iconst (v := 0) hx hb dX2_goesStore_16 (by decide) ?_
    have ho := Option.some.inj h
    rw [hQ]
    exact W.zret (ty := .boolean) (v := 0) hx hb hr rfl (fun t ht hW => ⟨⟨0, (), rfl, by rw [← ho], by show va_P (dC, dI) vwCl _ t.heap; rw [ht, ← ho]; exact hP⟩, hS.F ht⟩) hS.2.2 dX2_goesStore_17
  · have h := (if_neg c0).symm.trans h
    refine lv_iload_n hx hb dX2_goesStore_11 rfl (lv_at hl 0 rfl) ?_
    refine lv_iconst (v := 5) hx hb dX2_goesStore_12 (by decide) ?_
    refine lv_icmp_lt (tgt := 18) hx hb dX2_goesStore_13 (by decide) (fun c0 => ?_) (fun c0 => ?_)
    · have h := (if_pos c0).symm.trans h
      refine lv_aload_n hx hb dX2_goesStore_18 rfl (lv_at hl 1 rfl) ?_
      refine va_get (D := (dC, dI)) (ci := 6) (v := .ref a_t_isBroth) (C := RX2) (T := TX2) (N := 10) hx hb hta inX2w hown hK hP 0 rfl rfl 6 (by decide) (hta _ lk_X2_25) (fun _ h9 => h9) rfl dX2_goesStore_19 ?_
      refine lv_iload_n hx hb dX2_goesStore_22 rfl (lv_at hl 0 rfl) ?_
      obtain ⟨hc, h⟩ := gc_some h
      refine va_zald hx hb hK (rk hR0 hNA hS) 1 1 rfl rfl (inb_in hc) dX2_goesStore_23 ?_
      refine lv_aload_n hx hb dX2_goesStore_24 rfl (lv_at hl 3 rfl) ?_
      refine va_get (D := (dC, dI)) (ci := 4) (v := .ref a_p2_isBroth) (C := RX0) (T := TX0) (N := 11) hx hb hta inX0w hown hK (rk hR0 hNA hS) 0 rfl rfl 1 (by decide) (hta _ lk_X2_71) (fun _ h9 => h9) rfl dX2_goesStore_25 ?_
      refine lv_iload_n hx hb dX2_goesStore_28 rfl (lv_at hl 2 rfl) ?_
      obtain ⟨hc, h⟩ := gc_some h
      refine va_zald hx hb hK (rk hR0 hNA hS) 2 1 rfl rfl (inb_in hc) dX2_goesStore_29 ?_
      refine lv_icmp_eq (tgt := 41) hx hb dX2_goesStore_30 (by decide) (fun c0 => ?_) (fun c0 => ?_)
      · have h := (if_pos c0).symm.trans h
        refine lv_aload_n hx hb dX2_goesStore_41 rfl (lv_at hl 1 rfl) ?_
        refine va_get (D := (dC, dI)) (ci := 6) (v := .ref a_t_isBroth) (C := RX2) (T := TX2) (N := 10) hx hb hta inX2w hown hK hP 0 rfl rfl 6 (by decide) (hta _ lk_X2_25) (fun _ h9 => h9) rfl dX2_goesStore_42 ?_
        refine lv_iload_n hx hb dX2_goesStore_45 rfl (lv_at hl 0 rfl) ?_
        obtain ⟨hc, h⟩ := gc_some h
        refine va_zald hx hb hK (rk hR0 hNA hS) 1 1 rfl rfl (inb_in hc) dX2_goesStore_46 ?_
        refine lv_if_eq (tgt := 68) hx hb dX2_goesStore_47 (by decide) (fun c0 => ?_) (fun c0 => ?_)
        · have h := (if_pos c0).symm.trans h
          refine lv_aload_n hx hb dX2_goesStore_68 rfl (lv_at hl 3 rfl) ?_
          refine lv_iload_n hx hb dX2_goesStore_69 rfl (lv_at hl 2 rfl) ?_
          refine lv_aload_n hx hb dX2_goesStore_70 rfl (lv_at hl 1 rfl) ?_
          refine va_get (D := (dC, dI)) (ci := 6) (v := .ref a_t_many) (C := RX2) (T := TX2) (N := 10) hx hb hta inX2w hown hK hP 0 rfl rfl 7 (by decide) (hta _ lk_X2_29) (fun _ h9 => h9) rfl dX2_goesStore_71 ?_
          refine lv_iload_n hx hb dX2_goesStore_74 rfl (lv_at hl 0 rfl) ?_
          obtain ⟨hc, h⟩ := gc_some h
          refine va_iald hx hb hK (rk hR0 hNA hS) 3 0 rfl rfl (inb_in hc) dX2_goesStore_75 ?_
          refine lv_i2l hx hb dX2_goesStore_76 rfl ?_
          obtain ⟨r2, hq, h⟩ := gb_some h
          refine crI (va_runV (As := [.int p1, .long ((t_many v1.toNatClampNeg).toInt64)]) (rest := []) ⟨hx, hb, hml, hown, hta⟩ (c_X0_holds l dC dI cT hq ((rk hR0 hNA hS).sub (ws' := [(a_p2, .inr (4, [.int p2_cauldrons, .ref a_p2_isBroth, .ref a_p2_low, .ref a_p2_high, .ref a_p2_contents, .ref a_p2_storesIn, .int p2_spells, .ref a_p2_texts, .ref a_p2_cooked, .int p2_cookedSoFar, .int p2_storesSoFar])), (a_p2_low, .inl (cT 0, 6, .inl p2_low)), (a_p2_high, .inl (cT 0, 6, .inl p2_high))]) [0, 4, 5] rfl)) (cV hta lm_X2_116 md_X0_holds ⟨(Nat.le_of_ble_eq_true rfl), (Nat.le_of_ble_eq_true rfl)⟩) ⟨fbK, va_recv hK (rk hR0 hNA hS) (ci := 4) (q0 := 0) rfl rfl, fun U hU hW => ⟨rfl, hU, va_K.moved hW.alike hK⟩⟩ rfl rfl hl.1 rfl (lv_room (Nat.le_of_ble_eq_true rfl)) dX2_goesStore_77 ⟨(Nat.le_of_ble_eq_true rfl), (Nat.le_of_ble_eq_true rfl)⟩) hS hA (fun locs hS => ?_)
          refine lv_if_eq (tgt := 101) hx hb dX2_goesStore_80 (by decide) (fun c0 => ?_) (fun c0 => ?_)
          · have h := (if_pos c0).symm.trans h
            refine lv_aload_n hx hb dX2_goesStore_101 rfl (lv_at hl 1 rfl) ?_
            refine lv_iconst (v := 3) hx hb dX2_goesStore_102 (by decide) ?_
            refine lv_aload_n hx hb dX2_goesStore_103 rfl (lv_at hl 1 rfl) ?_
            refine va_get (D := (dC, dI)) (ci := 6) (v := .ref a_t_many) (C := RX2) (T := TX2) (N := 10) hx hb hta inX2w hown hK hP 0 rfl rfl 7 (by decide) (hta _ lk_X2_29) (fun _ h9 => h9) rfl dX2_goesStore_104 ?_
            refine lv_iload_n hx hb dX2_goesStore_107 rfl (lv_at hl 0 rfl) ?_
            obtain ⟨hc, h⟩ := gc_some h
            refine va_iald hx hb hK (rk hR0 hNA hS) 3 0 rfl rfl (inb_in hc) dX2_goesStore_108 ?_
            obtain ⟨r3, hq, h⟩ := gb_some h
            refine cxI (X2 := [(a_t, .inr (6, [.ref a_t_now, .ref a_t_storesIn, .int t_boilsAt, .int r3.2.1, .int r3.2.2, .ref a_t_before, .ref a_t_isBroth, .ref a_t_many, .ref a_t_much, .int t_spoons])), (a_t_now_many, .inl (cT 0, 6, .inl t_now_many)), (a_t_now_much, .inl (cT 4, 6, .inr (.inr (.inl t_now_much)))), (a_t_storesIn, .inl (cT 0, 6, .inl t_storesIn))]) (va_runV (As := [.int 3, .int (t_many v1.toNatClampNeg)]) (rest := []) ⟨hx, hb, hml, hown, hta⟩ (c_X2_boil l dC dI cT hq (hP.sub (ws' := [(a_t, .inr (6, [.ref a_t_now, .ref a_t_storesIn, .int t_boilsAt, .int t_cause, .int t_causeDetail, .ref a_t_before, .ref a_t_isBroth, .ref a_t_many, .ref a_t_much, .int t_spoons]))]) [0] rfl) (ds hD [0] (by decide) rfl)) (cV hta lm_X2_90 md_X2_boil ⟨(Nat.le_of_ble_eq_true rfl), (Nat.le_of_ble_eq_true rfl)⟩) ⟨fbK, va_recv hK hP (ci := 6) (q0 := 0) rfl rfl, fun U hU hW => ⟨rfl, hU, va_K.moved hW.alike hK⟩⟩ rfl rfl hl.1 rfl (lv_room (Nat.le_of_ble_eq_true rfl)) dX2_goesStore_109 ⟨(Nat.le_of_ble_eq_true rfl), (Nat.le_of_ble_eq_true rfl)⟩) hS hA hP hD [0] rfl [.inl 0, .inr 1, .inr 2, .inr 3] rfl rfl rfl (fun H locs hP hD hS => ?_)
            obtain ⟨hc, h⟩ := gc_some h
            have ho := Option.some.inj h
            rw [hQ]
            exact W.zret (ty := .boolean) (v := r3.1) hx hb hr (bo_n hc) (fun t ht hW => ⟨⟨r3.1, (), rfl, by rw [← ho], by show va_P (dC, dI) vwCl _ t.heap; rw [ht, ← ho]; exact hP⟩, hS.F ht⟩) hS.2.2 dX2_goesStore_112
          · have h := (if_neg c0).symm.trans h
            refine lv_aload_n hx hb dX2_goesStore_83 rfl (lv_at hl 1 rfl) ?_
            refine va_get (D := (dC, dI)) (ci := 6) (v := .ref a_t_now) (C := RX2) (T := TX2) (N := 10) hx hb hta inX2w hown hK hP 0 rfl rfl 0 (by decide) (hta _ lk_X2_12) (fun _ h9 => h9) rfl dX2_goesStore_84 ?_
            refine va_get (D := (dC, dI)) (ci := 5) (v := .ref a_t_now_many) (C := RX1) (T := TX1) (N := 2) hx hb hta inX1w hown hK (rk hR0 hNA hS) 6 rfl rfl 0 (by decide) (hta _ lk_X2_72) (fun _ h9 => h9) rfl dX2_goesStore_87 ?_
            refine lv_iload_n hx hb dX2_goesStore_90 rfl (lv_at hl 2 rfl) ?_
            refine lv_aload_n hx hb dX2_goesStore_91 rfl (lv_at hl 1 rfl) ?_
            refine va_get (D := (dC, dI)) (ci := 6) (v := .ref a_t_many) (C := RX2) (T := TX2) (N := 10) hx hb hta inX2w hown hK hP 0 rfl rfl 7 (by decide) (hta _ lk_X2_29) (fun _ h9 => h9) rfl dX2_goesStore_92 ?_
            refine lv_iload_n hx hb dX2_goesStore_95 rfl (lv_at hl 0 rfl) ?_
            obtain ⟨hc, h⟩ := gc_some h
            refine va_iald hx hb hK (rk hR0 hNA hS) 3 0 rfl rfl (inb_in hc) dX2_goesStore_96 ?_
            obtain ⟨hc, h⟩ := gc_some h
            refine va_iast hx hb hK hP hD hS 1 0 rfl rfl (inb_in hc) dX2_goesStore_97 (fun H locs hP hD hS => ?_)
            have hP : va_P (dC, dI) vwCl [(a_t, .inr (6, [.ref a_t_now, .ref a_t_storesIn, .int t_boilsAt, .int t_cause, .int t_causeDetail, .ref a_t_before, .ref a_t_isBroth, .ref a_t_many, .ref a_t_much, .int t_spoons])), (a_t_now_many, .inl (cT 0, 6, .inl (upd t_now_many p1.toNatClampNeg (t_many v1.toNatClampNeg)))), (a_t_now_much, .inl (cT 4, 6, .inr (.inr (.inl t_now_much)))), (a_t_storesIn, .inl (cT 0, 6, .inl t_storesIn))] H := hP
            have hD : va_D A [(a_t, .inr (6, [.ref a_t_now, .ref a_t_storesIn, .int t_boilsAt, .int t_cause, .int t_causeDetail, .ref a_t_before, .ref a_t_isBroth, .ref a_t_many, .ref a_t_much, .int t_spoons])), (a_t_now_many, .inl (cT 0, 6, .inl (upd t_now_many p1.toNatClampNeg (t_many v1.toNatClampNeg)))), (a_t_now_much, .inl (cT 4, 6, .inr (.inr (.inl t_now_much)))), (a_t_storesIn, .inl (cT 0, 6, .inl t_storesIn))] := hD
            refine lv_goto (tgt := 113) hx hb dX2_goesStore_98 (by decide) ?_
            exact wB_113 (upd t_now_many p1.toNatClampNeg (t_many v1.toNatClampNeg)) t_now_much _ _ _ h hP hD hS (lv_sub hl [1, 2] rfl)
        · have h := (if_neg c0).symm.trans h
          refine lv_aload_n hx hb dX2_goesStore_50 rfl (lv_at hl 1 rfl) ?_
          refine va_get (D := (dC, dI)) (ci := 6) (v := .ref a_t_now) (C := RX2) (T := TX2) (N := 10) hx hb hta inX2w hown hK hP 0 rfl rfl 0 (by decide) (hta _ lk_X2_12) (fun _ h9 => h9) rfl dX2_goesStore_51 ?_
          refine va_get (D := (dC, dI)) (ci := 5) (v := .ref a_t_now_much) (C := RX1) (T := TX1) (N := 2) hx hb hta inX1w hown hK (rk hR0 hNA hS) 6 rfl rfl 1 (by decide) (hta _ lk_X2_73) (fun _ h9 => h9) rfl dX2_goesStore_54 ?_
          refine lv_iload_n hx hb dX2_goesStore_57 rfl (lv_at hl 2 rfl) ?_
          refine lv_aload_n hx hb dX2_goesStore_58 rfl (lv_at hl 1 rfl) ?_
          refine va_get (D := (dC, dI)) (ci := 6) (v := .ref a_t_much) (C := RX2) (T := TX2) (N := 10) hx hb hta inX2w hown hK hP 0 rfl rfl 8 (by decide) (hta _ lk_X2_32) (fun _ h9 => h9) rfl dX2_goesStore_59 ?_
          refine lv_iload_n hx hb dX2_goesStore_62 rfl (lv_at hl 0 rfl) ?_
          obtain ⟨hc, h⟩ := gc_some h
          refine va_fald hx hb hK (rk hR0 hNA hS) 7 4 rfl rfl (inb_in hc) dX2_goesStore_63 ?_
          obtain ⟨hc, h⟩ := gc_some h
          refine va_fast hx hb hK hP hD hS 2 4 rfl rfl (inb_in hc) dX2_goesStore_64 (fun H locs hP hD hS => ?_)
          have hP : va_P (dC, dI) vwCl [(a_t, .inr (6, [.ref a_t_now, .ref a_t_storesIn, .int t_boilsAt, .int t_cause, .int t_causeDetail, .ref a_t_before, .ref a_t_isBroth, .ref a_t_many, .ref a_t_much, .int t_spoons])), (a_t_now_many, .inl (cT 0, 6, .inl t_now_many)), (a_t_now_much, .inl (cT 4, 6, .inr (.inr (.inl (vf_upd t_now_much p1.toNatClampNeg (t_much v1.toNatClampNeg)))))), (a_t_storesIn, .inl (cT 0, 6, .inl t_storesIn))] H := hP
          have hD : va_D A [(a_t, .inr (6, [.ref a_t_now, .ref a_t_storesIn, .int t_boilsAt, .int t_cause, .int t_causeDetail, .ref a_t_before, .ref a_t_isBroth, .ref a_t_many, .ref a_t_much, .int t_spoons])), (a_t_now_many, .inl (cT 0, 6, .inl t_now_many)), (a_t_now_much, .inl (cT 4, 6, .inr (.inr (.inl (vf_upd t_now_much p1.toNatClampNeg (t_much v1.toNatClampNeg)))))), (a_t_storesIn, .inl (cT 0, 6, .inl t_storesIn))] := hD
          refine lv_goto (tgt := 113) hx hb dX2_goesStore_65 (by decide) ?_
          exact wB_113 t_now_many (vf_upd t_now_much p1.toNatClampNeg (t_much v1.toNatClampNeg)) _ _ _ h hP hD hS (lv_sub hl [1, 2] rfl)
      · have h := (if_neg c0).symm.trans h
        refine lv_aload_n hx hb dX2_goesStore_33 rfl (lv_at hl 1 rfl) ?_
        refine lv_bipush (v := 7) hx hb dX2_goesStore_34 (by decide) ?_
        refine lv_iload_n hx hb dX2_goesStore_36 rfl (lv_at hl 2 rfl) ?_
        obtain ⟨r4, hq, h⟩ := gb_some h
        refine cxI (X2 := [(a_t, .inr (6, [.ref a_t_now, .ref a_t_storesIn, .int t_boilsAt, .int r4.2.1, .int r4.2.2, .ref a_t_before, .ref a_t_isBroth, .ref a_t_many, .ref a_t_much, .int t_spoons])), (a_t_now_many, .inl (cT 0, 6, .inl t_now_many)), (a_t_now_much, .inl (cT 4, 6, .inr (.inr (.inl t_now_much)))), (a_t_storesIn, .inl (cT 0, 6, .inl t_storesIn))]) (va_runV (As := [.int 7, .int p1]) (rest := []) ⟨hx, hb, hml, hown, hta⟩ (c_X2_boil l dC dI cT hq (hP.sub (ws' := [(a_t, .inr (6, [.ref a_t_now, .ref a_t_storesIn, .int t_boilsAt, .int t_cause, .int t_causeDetail, .ref a_t_before, .ref a_t_isBroth, .ref a_t_many, .ref a_t_much, .int t_spoons]))]) [0] rfl) (ds hD [0] (by decide) rfl)) (cV hta lm_X2_90 md_X2_boil ⟨(Nat.le_of_ble_eq_true rfl), (Nat.le_of_ble_eq_true rfl)⟩) ⟨fbK, va_recv hK hP (ci := 6) (q0 := 0) rfl rfl, fun U hU hW => ⟨rfl, hU, va_K.moved hW.alike hK⟩⟩ rfl rfl hl.1 rfl (lv_room (Nat.le_of_ble_eq_true rfl)) dX2_goesStore_37 ⟨(Nat.le_of_ble_eq_true rfl), (Nat.le_of_ble_eq_true rfl)⟩) hS hA hP hD [0] rfl [.inl 0, .inr 1, .inr 2, .inr 3] rfl rfl rfl (fun H locs hP hD hS => ?_)
        obtain ⟨hc, h⟩ := gc_some h
        have ho := Option.some.inj h
        rw [hQ]
        exact W.zret (ty := .boolean) (v := r4.1) hx hb hr (bo_n hc) (fun t ht hW => ⟨⟨r4.1, (), rfl, by rw [← ho], by show va_P (dC, dI) vwCl _ t.heap; rw [ht, ← ho]; exact hP⟩, hS.F ht⟩) hS.2.2 dX2_goesStore_40
    · have h := (if_neg c0).symm.trans h
      refine lv_iconst (v := 0) hx hb dX2_goesStore_16 (by decide) ?_
      have ho := Option.some.inj h
      rw [hQ]
      exact W.zret (ty := .boolean) (v := 0) hx hb hr rfl (fun t ht hW => ⟨⟨0, (), rfl, by rw [← ho], by show va_P (dC, dI) vwCl _ t.heap; rw [ht, ← ho]; exact hP⟩, hS.F ht⟩) hS.2.2 dX2_goesStore_17
set_option maxHeartbeats 4000000 in
set_option maxRecDepth 100000 in
theorem c_X2_goesReckoning (l : Launch) (dC : Nat → ClassId) (dI : Nat → Nat → Nat) (cT : Nat → ClassId) {Hh : Heap} {a_t : Nat} {a_t_isBroth : Nat} {a_t_many : Nat} {a_t_much : Nat} {a_t_now : Nat} {a_t_storesIn : Nat} {a_t_before : Nat} {t_cause : Int32} {t_causeDetail : Int32} {t_spoons : Int32} {t_isBroth : Nat → Int32} {t_many : Nat → Int32} {t_much : Nat → UInt32} {p1 : Int32} {t_boilsAt : Int32} {o : Int32 × Int32 × Int32 × Int32 × (Nat → Int32) × (Nat → UInt32)} (h : g_X2_goesReckoning t_cause t_causeDetail t_spoons t_isBroth t_many t_much p1 = some o) (hP0 : va_P (dC, dI) vwCl [(a_t, .inr (6, [.ref a_t_now, .ref a_t_storesIn, .int t_boilsAt, .int t_cause, .int t_causeDetail, .ref a_t_before, .ref a_t_isBroth, .ref a_t_many, .ref a_t_much, .int t_spoons])), (a_t_many, .inl (cT 0, 5, .inl t_many)), (a_t_much, .inl (cT 4, 5, .inr (.inr (.inl t_much))))] Hh) (hR0 : va_P (dC, dI) vwCl [(a_t_isBroth, .inl (cT 1, 5, .inl t_isBroth))] Hh) (hD0 : va_D (fun _ => True) [(a_t, .inr (6, [.ref a_t_now, .ref a_t_storesIn, .int t_boilsAt, .int t_cause, .int t_causeDetail, .ref a_t_before, .ref a_t_isBroth, .ref a_t_many, .ref a_t_much, .int t_spoons])), (a_t_many, .inl (cT 0, 5, .inl t_many)), (a_t_much, .inl (cT 4, 5, .inr (.inr (.inl t_much))))]) (hN0 : ∀ (k : Nat) (q : Nat × va_E), ([(a_t_isBroth, .inl (cT 1, 5, .inl t_isBroth))] : va_W)[k]? = some q → ¬ va_A [(a_t, .inr (6, [.ref a_t_now, .ref a_t_storesIn, .int t_boilsAt, .int t_cause, .int t_causeDetail, .ref a_t_before, .ref a_t_isBroth, .ref a_t_many, .ref a_t_much, .int t_spoons])), (a_t_many, .inl (cT 0, 5, .inl t_many)), (a_t_much, .inl (cT 4, 5, .inr (.inr (.inl t_much))))] Hh.size q.1) : Met l yX2_goesReckoning (wA yX2_goesReckoning cX2_goesReckoning 6 (some .boolean)) ({ frames := 2, cells := 0, slots := 0, locals := 42 } : Room) (PK dC dI cT [.ref a_t, .int p1] Hh) (va_Qi (fun x (_ : Unit) => x = o.1) (fun _ t => va_P (dC, dI) vwCl [(a_t, .inr (6, [.ref a_t_now, .ref a_t_storesIn, .int t_boilsAt, .int o.2.1, .int o.2.2.1, .ref a_t_before, .ref a_t_isBroth, .ref a_t_many, .ref a_t_much, .int o.2.2.2.1])), (a_t_many, .inl (cT 0, 5, .inl o.2.2.2.2.1)), (a_t_much, .inl (cT 4, 5, .inr (.inr (.inl o.2.2.2.2.2))))] t.heap) (va_A [(a_t, .inr (6, [.ref a_t_now, .ref a_t_storesIn, .int t_boilsAt, .int t_cause, .int t_causeDetail, .ref a_t_before, .ref a_t_isBroth, .ref a_t_many, .ref a_t_much, .int t_spoons])), (a_t_many, .inl (cT 0, 5, .inl t_many)), (a_t_much, .inl (cT 4, 5, .inr (.inr (.inl t_much))))] Hh.size)) 0 0 (va_A [(a_t, .inr (6, [.ref a_t_now, .ref a_t_storesIn, .int t_boilsAt, .int t_cause, .int t_causeDetail, .ref a_t_before, .ref a_t_isBroth, .ref a_t_many, .ref a_t_much, .int t_spoons])), (a_t_many, .inl (cT 0, 5, .inl t_many)), (a_t_much, .inl (cT 4, 5, .inr (.inr (.inl t_much))))] Hh.size) := by
  refine Met.ofW (cc := cX2_goesReckoning) (maxL := 6) (ret := (some .boolean)) (by decide) rfl ?_
  intro p e s m args below meth c s₁ B hml hv
  obtain ⟨rfl, hH, hK⟩ := hv
  subst hH
  have hx := B.exec
  have hb := B.bytes
  have hr := B.returns
  have hta : ∀ w ∈ ALLW, w.before [.ref a_t, .int p1].toArray s = true := fun w hw => atoms_spec (ws := wA yX2_goesReckoning cX2_goesReckoning 6 (some .boolean)) B.pre w (List.mem_cons_of_mem _ hw)
  have hown : s.vm.findClass RX2 = some m.cls := findClass_of_methodNamed B.named
  have hlocks := B.notSynchronized
  have hD := hD0.self (sz := s.heap.size)
  have hNA := hN0
  generalize hAe : va_A [(a_t, .inr (6, [.ref a_t_now, .ref a_t_storesIn, .int t_boilsAt, .int t_cause, .int t_causeDetail, .ref a_t_before, .ref a_t_isBroth, .ref a_t_many, .ref a_t_much, .int t_spoons])), (a_t_many, .inl (cT 0, 5, .inl t_many)), (a_t_much, .inl (cT 4, 5, .inr (.inr (.inl t_much))))] s.heap.size = A at hD hNA ⊢
  have hP := hP0
  have hA : ∀ q : Nat, s.heap.size ≤ q → A q := fun q h => by rw [← hAe]; exact Or.inr h
  have hS : va_S A s.heap s.heap [] := va_S.rf
  have hl := lv_entry [.ref a_t, .int p1] (n := 6) (Nat.le_of_ble_eq_true rfl)
  rw [lg_entry_eq]
  generalize (lg_sl [.ref a_t, .int p1] ++ List.replicate (6 - (lg_sl [.ref a_t, .int p1]).length) Slot.unset).toArray = ls at hl ⊢
  have hl : lv_has ls 6 [(0, .ref a_t), (1, .int p1)] := hl
  unfold g_X2_goesReckoning at h
  refine lv_aload_n hx hb dX2_goesReckoning_0 rfl (lv_at hl 0 rfl) ?_
  refine va_get (D := (dC, dI)) (ci := 6) (v := .int t_spoons) (C := RX2) (T := TX2) (N := 10) hx hb hta inX2w hown hK hP 0 rfl rfl 9 (by decide) (hta _ lk_X2_45) (fun _ h9 => h9) rfl dX2_goesReckoning_1 ?_
  refine lv_iconst (v := 1) hx hb dX2_goesReckoning_4 (by decide) ?_
  refine lv_isub hx hb dX2_goesReckoning_5 ?_
  refine lv_topi (fun v1 e_v1 => ?_)
  have h := gl_use e_v1 h
  refine lv_istore_n (lv' := [(2, .int v1), (0, .ref a_t), (1, .int p1)]) hx hb dX2_goesReckoning_6 rfl hl (by decide) rfl (fun ls hl => ?_)
  refine lv_aload_n hx hb dX2_goesReckoning_7 rfl (lv_at hl 1 rfl) ?_
  refine va_get (D := (dC, dI)) (ci := 6) (v := .int t_spoons) (C := RX2) (T := TX2) (N := 10) hx hb hta inX2w hown hK hP 0 rfl rfl 9 (by decide) (hta _ lk_X2_45) (fun _ h9 => h9) rfl dX2_goesReckoning_8 ?_
  refine lv_iconst (v := 2) hx hb dX2_goesReckoning_11 (by decide) ?_
  refine lv_isub hx hb dX2_goesReckoning_12 ?_
  refine lv_topi (fun v2 e_v2 => ?_)
  have h := gl_use e_v2 h
  refine lv_istore_n (lv' := [(3, .int v2), (2, .int v1), (0, .ref a_t), (1, .int p1)]) hx hb dX2_goesReckoning_13 rfl hl (by decide) rfl (fun ls hl => ?_)
  refine lv_iload_n hx hb dX2_goesReckoning_14 rfl (lv_at hl 0 rfl) ?_
  refine lv_if_lt (tgt := 23) hx hb dX2_goesReckoning_15 (by decide) (fun c0 => ?_) (fun c0 => ?_)
  · have h := (if_pos c0).symm.trans h
    refine lv_iconst (v := 0) hx hb dX2_goesReckoning_23 (by decide) ?_
    have ho := Option.some.inj h
    exact W.zret (ty := .boolean) (v := 0) hx hb hr rfl (fun t ht hW => ⟨⟨0, (), rfl, by rw [← ho], by show va_P (dC, dI) vwCl _ t.heap; rw [ht, ← ho]; exact hP⟩, hS.F ht⟩) hS.2.2 dX2_goesReckoning_24
  · have h := (if_neg c0).symm.trans h
    refine lv_iload_n hx hb dX2_goesReckoning_18 rfl (lv_at hl 1 rfl) ?_
    refine lv_iconst (v := 5) hx hb dX2_goesReckoning_19 (by decide) ?_
    refine lv_icmp_lt (tgt := 25) hx hb dX2_goesReckoning_20 (by decide) (fun c0 => ?_) (fun c0 => ?_)
    · have h := (if_pos c0).symm.trans h
      refine lv_aload_n hx hb dX2_goesReckoning_25 rfl (lv_at hl 2 rfl) ?_
      refine va_get (D := (dC, dI)) (ci := 6) (v := .ref a_t_isBroth) (C := RX2) (T := TX2) (N := 10) hx hb hta inX2w hown hK hP 0 rfl rfl 6 (by decide) (hta _ lk_X2_25) (fun _ h9 => h9) rfl dX2_goesReckoning_26 ?_
      refine lv_iload_n hx hb dX2_goesReckoning_29 rfl (lv_at hl 0 rfl) ?_
      obtain ⟨hc, h⟩ := gc_some h
      refine va_zald hx hb hK (rk hR0 hNA hS) 0 1 rfl rfl (inb_in hc) dX2_goesReckoning_30 ?_
      refine lv_aload_n hx hb dX2_goesReckoning_31 rfl (lv_at hl 2 rfl) ?_
      refine va_get (D := (dC, dI)) (ci := 6) (v := .ref a_t_isBroth) (C := RX2) (T := TX2) (N := 10) hx hb hta inX2w hown hK hP 0 rfl rfl 6 (by decide) (hta _ lk_X2_25) (fun _ h9 => h9) rfl dX2_goesReckoning_32 ?_
      refine lv_iload_n hx hb dX2_goesReckoning_35 rfl (lv_at hl 1 rfl) ?_
      obtain ⟨hc, h⟩ := gc_some h
      refine va_zald hx hb hK (rk hR0 hNA hS) 0 1 rfl rfl (inb_in hc) dX2_goesReckoning_36 ?_
      refine lv_icmp_eq (tgt := 48) hx hb dX2_goesReckoning_37 (by decide) (fun c0 => ?_) (fun c0 => ?_)
      · have h := (if_pos c0).symm.trans h
        refine lv_aload_n hx hb dX2_goesReckoning_48 rfl (lv_at hl 2 rfl) ?_
        refine lv_dup hx hb dX2_goesReckoning_49 rfl ?_
        refine va_get (D := (dC, dI)) (ci := 6) (v := .int t_spoons) (C := RX2) (T := TX2) (N := 10) hx hb hta inX2w hown hK hP 0 rfl rfl 9 (by decide) (hta _ lk_X2_45) (fun _ h9 => h9) rfl dX2_goesReckoning_50 ?_
        refine lv_iconst (v := 1) hx hb dX2_goesReckoning_53 (by decide) ?_
        refine lv_isub hx hb dX2_goesReckoning_54 ?_
        refine lv_topi (fun v3 e_v3 => ?_)
        have h := gl_use e_v3 h
        refine va_put (D := (dC, dI)) (ci := 6) (v := .int v3) (ty := .int) (C := RX2) (T := TX2) (N := 10) hx hb hta inX2w tyX2 tyX2_ok nmX2 hown hK hP hD hS 0 rfl rfl 9 (by decide) (hta _ lk_X2_45) (fun _ h9 => h9) rfl (by decide +kernel) rfl rfl (Nat.le_of_ble_eq_true rfl) dX2_goesReckoning_55 (fun H locs hP hD hS => ?_)
        have hP : va_P (dC, dI) vwCl [(a_t, .inr (6, [.ref a_t_now, .ref a_t_storesIn, .int t_boilsAt, .int t_cause, .int t_causeDetail, .ref a_t_before, .ref a_t_isBroth, .ref a_t_many, .ref a_t_much, .int v3])), (a_t_many, .inl (cT 0, 5, .inl t_many)), (a_t_much, .inl (cT 4, 5, .inr (.inr (.inl t_much))))] H := hP
        have hD : va_D A [(a_t, .inr (6, [.ref a_t_now, .ref a_t_storesIn, .int t_boilsAt, .int t_cause, .int t_causeDetail, .ref a_t_before, .ref a_t_isBroth, .ref a_t_many, .ref a_t_much, .int v3])), (a_t_many, .inl (cT 0, 5, .inl t_many)), (a_t_much, .inl (cT 4, 5, .inr (.inr (.inl t_much))))] := hD
        refine lv_aload_n hx hb dX2_goesReckoning_58 rfl (lv_at hl 2 rfl) ?_
        refine va_get (D := (dC, dI)) (ci := 6) (v := .ref a_t_isBroth) (C := RX2) (T := TX2) (N := 10) hx hb hta inX2w hown hK hP 0 rfl rfl 6 (by decide) (hta _ lk_X2_25) (fun _ h9 => h9) rfl dX2_goesReckoning_59 ?_
        refine lv_iload_n hx hb dX2_goesReckoning_62 rfl (lv_at hl 0 rfl) ?_
        obtain ⟨hc, h⟩ := gc_some h
        refine va_zald hx hb hK (rk hR0 hNA hS) 0 1 rfl rfl (inb_in hc) dX2_goesReckoning_63 ?_
        refine lv_if_eq (tgt := 91) hx hb dX2_goesReckoning_64 (by decide) (fun c0 => ?_) (fun c0 => ?_)
        · have h := (if_pos c0).symm.trans h
          refine lv_iload_n hx hb dX2_goesReckoning_91 rfl (lv_at hl 3 rfl) ?_
          refine lv_aload_n hx hb dX2_goesReckoning_92 rfl (lv_at hl 2 rfl) ?_
          refine va_get (D := (dC, dI)) (ci := 6) (v := .ref a_t_many) (C := RX2) (T := TX2) (N := 10) hx hb hta inX2w hown hK hP 0 rfl rfl 7 (by decide) (hta _ lk_X2_29) (fun _ h9 => h9) rfl dX2_goesReckoning_93 ?_
          refine lv_iload_n hx hb dX2_goesReckoning_96 rfl (lv_at hl 0 rfl) ?_
          obtain ⟨hc, h⟩ := gc_some h
          refine va_iald hx hb hK hP 1 0 rfl rfl (inb_in hc) dX2_goesReckoning_97 ?_
          refine lv_i2l hx hb dX2_goesReckoning_98 rfl ?_
          refine lv_aload_n hx hb dX2_goesReckoning_99 rfl (lv_at hl 2 rfl) ?_
          refine va_get (D := (dC, dI)) (ci := 6) (v := .ref a_t_many) (C := RX2) (T := TX2) (N := 10) hx hb hta inX2w hown hK hP 0 rfl rfl 7 (by decide) (hta _ lk_X2_29) (fun _ h9 => h9) rfl dX2_goesReckoning_100 ?_
          refine lv_iload_n hx hb dX2_goesReckoning_103 rfl (lv_at hl 1 rfl) ?_
          obtain ⟨hc, h⟩ := gc_some h
          refine va_iald hx hb hK hP 1 0 rfl rfl (inb_in hc) dX2_goesReckoning_104 ?_
          refine lv_i2l hx hb dX2_goesReckoning_105 rfl ?_
          obtain ⟨r4, hq, h⟩ := gb_some h
          refine crL (va_runS (As := [.int p1, .long ((t_many v2.toNatClampNeg).toInt64), .long ((t_many v1.toNatClampNeg).toInt64)]) (rest := []) ⟨hx, hb, hml, hown, hta⟩ (c_X5_ofDrams l dC dI cT hq) (cS hta lm_X2_108 md_X5_ofDrams ⟨(Nat.le_of_ble_eq_true rfl), (Nat.le_of_ble_eq_true rfl)⟩) ⟨fbK, fun U hU hW => ⟨rfl, hU, va_K.moved hW.alike hK⟩⟩ rfl rfl hl.1 rfl (lv_room (Nat.le_of_ble_eq_true rfl)) dX2_goesReckoning_106 ⟨(Nat.le_of_ble_eq_true rfl), (Nat.le_of_ble_eq_true rfl)⟩) hS hA (fun locs hS => ?_)
          refine lv_lstore (lv' := [(4, .long r4), (3, .int v2), (2, .int v1), (0, .ref a_t), (1, .int p1)]) hx hb dX2_goesReckoning_109 hl (by decide) rfl (fun ls hl => ?_)
          refine lv_lload hx hb dX2_goesReckoning_111 (lv_at hl 0 rfl) ?_
          obtain ⟨r5, hq, h⟩ := gb_some h
          refine crI (va_runS (As := [.long r4]) (rest := []) ⟨hx, hb, hml, hown, hta⟩ (c_X5_excess l dC dI cT hq) (cS hta lm_X2_112 md_X5_excess ⟨(Nat.le_of_ble_eq_true rfl), (Nat.le_of_ble_eq_true rfl)⟩) ⟨fbK, fun U hU hW => ⟨rfl, hU, va_K.moved hW.alike hK⟩⟩ rfl rfl hl.1 rfl (lv_room (Nat.le_of_ble_eq_true rfl)) dX2_goesReckoning_113 ⟨(Nat.le_of_ble_eq_true rfl), (Nat.le_of_ble_eq_true rfl)⟩) hS hA (fun locs hS => ?_)
          refine lv_if_eq (tgt := 131) hx hb dX2_goesReckoning_116 (by decide) (fun c0 => ?_) (fun c0 => ?_)
          · have h := (if_pos c0).symm.trans h
            refine lv_aload_n hx hb dX2_goesReckoning_131 rfl (lv_at hl 3 rfl) ?_
            refine va_get (D := (dC, dI)) (ci := 6) (v := .ref a_t_many) (C := RX2) (T := TX2) (N := 10) hx hb hta inX2w hown hK hP 0 rfl rfl 7 (by decide) (hta _ lk_X2_29) (fun _ h9 => h9) rfl dX2_goesReckoning_132 ?_
            refine lv_iload_n hx hb dX2_goesReckoning_135 rfl (lv_at hl 1 rfl) ?_
            refine lv_lload hx hb dX2_goesReckoning_136 (lv_at hl 0 rfl) ?_
            refine lv_l2i hx hb dX2_goesReckoning_138 rfl ?_
            obtain ⟨hc, h⟩ := gc_some h
            refine va_iast hx hb hK hP hD hS 1 0 rfl rfl (inb_in hc) dX2_goesReckoning_139 (fun H locs hP hD hS => ?_)
            have hP : va_P (dC, dI) vwCl [(a_t, .inr (6, [.ref a_t_now, .ref a_t_storesIn, .int t_boilsAt, .int t_cause, .int t_causeDetail, .ref a_t_before, .ref a_t_isBroth, .ref a_t_many, .ref a_t_much, .int v3])), (a_t_many, .inl (cT 0, 5, .inl (upd t_many v2.toNatClampNeg r4.toInt32))), (a_t_much, .inl (cT 4, 5, .inr (.inr (.inl t_much))))] H := hP
            have hD : va_D A [(a_t, .inr (6, [.ref a_t_now, .ref a_t_storesIn, .int t_boilsAt, .int t_cause, .int t_causeDetail, .ref a_t_before, .ref a_t_isBroth, .ref a_t_many, .ref a_t_much, .int v3])), (a_t_many, .inl (cT 0, 5, .inl (upd t_many v2.toNatClampNeg r4.toInt32))), (a_t_much, .inl (cT 4, 5, .inr (.inr (.inl t_much))))] := hD
            refine lv_iconst (v := 1) hx hb dX2_goesReckoning_140 (by decide) ?_
            have ho := Option.some.inj h
            exact W.zret (ty := .boolean) (v := 1) hx hb hr rfl (fun t ht hW => ⟨⟨1, (), rfl, by rw [← ho], by show va_P (dC, dI) vwCl _ t.heap; rw [ht, ← ho]; exact hP⟩, hS.F ht⟩) hS.2.2 dX2_goesReckoning_141
          · have h := (if_neg c0).symm.trans h
            refine lv_aload_n hx hb dX2_goesReckoning_119 rfl (lv_at hl 3 rfl) ?_
            refine lv_bipush (v := 8) hx hb dX2_goesReckoning_120 (by decide) ?_
            refine lv_lload hx hb dX2_goesReckoning_122 (lv_at hl 0 rfl) ?_
            obtain ⟨r6, hq, h⟩ := gb_some h
            refine crI (va_runS (As := [.long r4]) (rest := [.int 8, .ref a_t]) ⟨hx, hb, hml, hown, hta⟩ (c_X5_excess l dC dI cT hq) (cS hta lm_X2_112 md_X5_excess ⟨(Nat.le_of_ble_eq_true rfl), (Nat.le_of_ble_eq_true rfl)⟩) ⟨fbK, fun U hU hW => ⟨rfl, hU, va_K.moved hW.alike hK⟩⟩ rfl rfl hl.1 rfl (lv_room (Nat.le_of_ble_eq_true rfl)) dX2_goesReckoning_124 ⟨(Nat.le_of_ble_eq_true rfl), (Nat.le_of_ble_eq_true rfl)⟩) hS hA (fun locs hS => ?_)
            obtain ⟨r7, hq, h⟩ := gb_some h
            refine cxI (X2 := [(a_t, .inr (6, [.ref a_t_now, .ref a_t_storesIn, .int t_boilsAt, .int r7.2.1, .int r7.2.2, .ref a_t_before, .ref a_t_isBroth, .ref a_t_many, .ref a_t_much, .int v3])), (a_t_many, .inl (cT 0, 5, .inl t_many)), (a_t_much, .inl (cT 4, 5, .inr (.inr (.inl t_much))))]) (va_runV (As := [.int 8, .int r6]) (rest := []) ⟨hx, hb, hml, hown, hta⟩ (c_X2_boil l dC dI cT hq (hP.sub (ws' := [(a_t, .inr (6, [.ref a_t_now, .ref a_t_storesIn, .int t_boilsAt, .int t_cause, .int t_causeDetail, .ref a_t_before, .ref a_t_isBroth, .ref a_t_many, .ref a_t_much, .int v3]))]) [0] rfl) (ds hD [0] (by decide) rfl)) (cV hta lm_X2_90 md_X2_boil ⟨(Nat.le_of_ble_eq_true rfl), (Nat.le_of_ble_eq_true rfl)⟩) ⟨fbK, va_recv hK hP (ci := 6) (q0 := 0) rfl rfl, fun U hU hW => ⟨rfl, hU, va_K.moved hW.alike hK⟩⟩ rfl rfl hl.1 rfl (lv_room (Nat.le_of_ble_eq_true rfl)) dX2_goesReckoning_127 ⟨(Nat.le_of_ble_eq_true rfl), (Nat.le_of_ble_eq_true rfl)⟩) hS hA hP hD [0] rfl [.inl 0, .inr 1, .inr 2] rfl rfl rfl (fun H locs hP hD hS => ?_)
            obtain ⟨hc, h⟩ := gc_some h
            have ho := Option.some.inj h
            exact W.zret (ty := .boolean) (v := r7.1) hx hb hr (bo_n hc) (fun t ht hW => ⟨⟨r7.1, (), rfl, by rw [← ho], by show va_P (dC, dI) vwCl _ t.heap; rw [ht, ← ho]; exact hP⟩, hS.F ht⟩) hS.2.2 dX2_goesReckoning_130
        · have h := (if_neg c0).symm.trans h
          refine lv_aload_n hx hb dX2_goesReckoning_67 rfl (lv_at hl 2 rfl) ?_
          refine va_get (D := (dC, dI)) (ci := 6) (v := .ref a_t_much) (C := RX2) (T := TX2) (N := 10) hx hb hta inX2w hown hK hP 0 rfl rfl 8 (by decide) (hta _ lk_X2_32) (fun _ h9 => h9) rfl dX2_goesReckoning_68 ?_
          refine lv_iload_n hx hb dX2_goesReckoning_71 rfl (lv_at hl 0 rfl) ?_
          refine lv_iload_n hx hb dX2_goesReckoning_72 rfl (lv_at hl 3 rfl) ?_
          refine lv_aload_n hx hb dX2_goesReckoning_73 rfl (lv_at hl 2 rfl) ?_
          refine va_get (D := (dC, dI)) (ci := 6) (v := .ref a_t_much) (C := RX2) (T := TX2) (N := 10) hx hb hta inX2w hown hK hP 0 rfl rfl 8 (by decide) (hta _ lk_X2_32) (fun _ h9 => h9) rfl dX2_goesReckoning_74 ?_
          refine lv_iload_n hx hb dX2_goesReckoning_77 rfl (lv_at hl 0 rfl) ?_
          obtain ⟨hc, h⟩ := gc_some h
          refine va_fald hx hb hK hP 2 4 rfl rfl (inb_in hc) dX2_goesReckoning_78 ?_
          refine lv_aload_n hx hb dX2_goesReckoning_79 rfl (lv_at hl 2 rfl) ?_
          refine va_get (D := (dC, dI)) (ci := 6) (v := .ref a_t_much) (C := RX2) (T := TX2) (N := 10) hx hb hta inX2w hown hK hP 0 rfl rfl 8 (by decide) (hta _ lk_X2_32) (fun _ h9 => h9) rfl dX2_goesReckoning_80 ?_
          refine lv_iload_n hx hb dX2_goesReckoning_83 rfl (lv_at hl 1 rfl) ?_
          obtain ⟨hc, h⟩ := gc_some h
          refine va_fald hx hb hK hP 2 4 rfl rfl (inb_in hc) dX2_goesReckoning_84 ?_
          obtain ⟨r8, hq, h⟩ := gb_some h
          refine crF (va_runS (As := [.int p1, .float (t_much v2.toNatClampNeg), .float (t_much v1.toNatClampNeg)]) (rest := [.int v2, .ref a_t_much]) ⟨hx, hb, hml, hown, hta⟩ (c_X5_ofBroth l dC dI cT hq) (cS hta lm_X2_104 md_X5_ofBroth ⟨(Nat.le_of_ble_eq_true rfl), (Nat.le_of_ble_eq_true rfl)⟩) ⟨fbK, fun U hU hW => ⟨rfl, hU, va_K.moved hW.alike hK⟩⟩ rfl rfl hl.1 rfl (lv_room (Nat.le_of_ble_eq_true rfl)) dX2_goesReckoning_85 ⟨(Nat.le_of_ble_eq_true rfl), (Nat.le_of_ble_eq_true rfl)⟩) hS hA (fun locs hS => ?_)
          obtain ⟨hc, h⟩ := gc_some h
          refine va_fast hx hb hK hP hD hS 2 4 rfl rfl (inb_in hc) dX2_goesReckoning_88 (fun H locs hP hD hS => ?_)
          have hP : va_P (dC, dI) vwCl [(a_t, .inr (6, [.ref a_t_now, .ref a_t_storesIn, .int t_boilsAt, .int t_cause, .int t_causeDetail, .ref a_t_before, .ref a_t_isBroth, .ref a_t_many, .ref a_t_much, .int v3])), (a_t_many, .inl (cT 0, 5, .inl t_many)), (a_t_much, .inl (cT 4, 5, .inr (.inr (.inl (vf_upd t_much v2.toNatClampNeg r8)))))] H := hP
          have hD : va_D A [(a_t, .inr (6, [.ref a_t_now, .ref a_t_storesIn, .int t_boilsAt, .int t_cause, .int t_causeDetail, .ref a_t_before, .ref a_t_isBroth, .ref a_t_many, .ref a_t_much, .int v3])), (a_t_many, .inl (cT 0, 5, .inl t_many)), (a_t_much, .inl (cT 4, 5, .inr (.inr (.inl (vf_upd t_much v2.toNatClampNeg r8)))))] := hD
          refine lv_iconst (v := 1) hx hb dX2_goesReckoning_89 (by decide) ?_
          have ho := Option.some.inj h
          exact W.zret (ty := .boolean) (v := 1) hx hb hr rfl (fun t ht hW => ⟨⟨1, (), rfl, by rw [← ho], by show va_P (dC, dI) vwCl _ t.heap; rw [ht, ← ho]; exact hP⟩, hS.F ht⟩) hS.2.2 dX2_goesReckoning_90
      · have h := (if_neg c0).symm.trans h
        refine lv_aload_n hx hb dX2_goesReckoning_40 rfl (lv_at hl 2 rfl) ?_
        refine lv_bipush (v := 7) hx hb dX2_goesReckoning_41 (by decide) ?_
        refine lv_iconst (v := -1) hx hb dX2_goesReckoning_43 (by decide) ?_
        obtain ⟨r9, hq, h⟩ := gb_some h
        refine cxI (X2 := [(a_t, .inr (6, [.ref a_t_now, .ref a_t_storesIn, .int t_boilsAt, .int r9.2.1, .int r9.2.2, .ref a_t_before, .ref a_t_isBroth, .ref a_t_many, .ref a_t_much, .int t_spoons])), (a_t_many, .inl (cT 0, 5, .inl t_many)), (a_t_much, .inl (cT 4, 5, .inr (.inr (.inl t_much))))]) (va_runV (As := [.int 7, .int (-1)]) (rest := []) ⟨hx, hb, hml, hown, hta⟩ (c_X2_boil l dC dI cT hq (hP.sub (ws' := [(a_t, .inr (6, [.ref a_t_now, .ref a_t_storesIn, .int t_boilsAt, .int t_cause, .int t_causeDetail, .ref a_t_before, .ref a_t_isBroth, .ref a_t_many, .ref a_t_much, .int t_spoons]))]) [0] rfl) (ds hD [0] (by decide) rfl)) (cV hta lm_X2_90 md_X2_boil ⟨(Nat.le_of_ble_eq_true rfl), (Nat.le_of_ble_eq_true rfl)⟩) ⟨fbK, va_recv hK hP (ci := 6) (q0 := 0) rfl rfl, fun U hU hW => ⟨rfl, hU, va_K.moved hW.alike hK⟩⟩ rfl rfl hl.1 rfl (lv_room (Nat.le_of_ble_eq_true rfl)) dX2_goesReckoning_44 ⟨(Nat.le_of_ble_eq_true rfl), (Nat.le_of_ble_eq_true rfl)⟩) hS hA hP hD [0] rfl [.inl 0, .inr 1, .inr 2] rfl rfl rfl (fun H locs hP hD hS => ?_)
        obtain ⟨hc, h⟩ := gc_some h
        have ho := Option.some.inj h
        exact W.zret (ty := .boolean) (v := r9.1) hx hb hr (bo_n hc) (fun t ht hW => ⟨⟨r9.1, (), rfl, by rw [← ho], by show va_P (dC, dI) vwCl _ t.heap; rw [ht, ← ho]; exact hP⟩, hS.F ht⟩) hS.2.2 dX2_goesReckoning_47
    · have h := (if_neg c0).symm.trans h
      refine lv_iconst (v := 0) hx hb dX2_goesReckoning_23 (by decide) ?_
      have ho := Option.some.inj h
      exact W.zret (ty := .boolean) (v := 0) hx hb hr rfl (fun t ht hW => ⟨⟨0, (), rfl, by rw [← ho], by show va_P (dC, dI) vwCl _ t.heap; rw [ht, ← ho]; exact hP⟩, hS.F ht⟩) hS.2.2 dX2_goesReckoning_24
set_option maxHeartbeats 4000000 in
set_option maxRecDepth 100000 in
theorem c_X2_goesToken (l : Launch) (dC : Nat → ClassId) (dI : Nat → Nat → Nat) (cT : Nat → ClassId) {Hh : Heap} {a_t : Nat} {a_p3 : Nat} {a_p3_isBroth : Nat} {a_t_now : Nat} {a_t_now_many : Nat} {a_t_now_much : Nat} {a_t_isBroth : Nat} {a_t_many : Nat} {a_t_much : Nat} {a_p3_low : Nat} {a_p3_high : Nat} {a_t_storesIn : Nat} {a_t_before : Nat} {a_p3_contents : Nat} {a_p3_storesIn : Nat} {a_p3_texts : Nat} {a_p3_cooked : Nat} {t_cause : Int32} {t_causeDetail : Int32} {t_spoons : Int32} {p3_isBroth : Nat → Int32} {t_now_many : Nat → Int32} {t_now_much : Nat → UInt32} {t_isBroth : Nat → Int32} {t_many : Nat → Int32} {t_much : Nat → UInt32} {p3_low : Nat → Int32} {p3_high : Nat → Int32} {t_storesIn : Nat → Int32} {p1 : Int32} {p2 : Int32} {t_boilsAt : Int32} {p3_cauldrons : Int32} {p3_spells : Int32} {p3_cookedSoFar : Int32} {p3_storesSoFar : Int32} {o : Int32 × Int32 × Int32 × Int32 × (Nat → Int32) × (Nat → UInt32) × (Nat → Int32) × (Nat → Int32) × (Nat → UInt32) × (Nat → Int32)} (h : g_X2_goesToken t_cause t_causeDetail t_spoons p3_isBroth t_now_many t_now_much t_isBroth t_many t_much p3_low p3_high t_storesIn p1 p2 = some o) (hP0 : va_P (dC, dI) vwCl [(a_t, .inr (6, [.ref a_t_now, .ref a_t_storesIn, .int t_boilsAt, .int t_cause, .int t_causeDetail, .ref a_t_before, .ref a_t_isBroth, .ref a_t_many, .ref a_t_much, .int t_spoons])), (a_t_now_many, .inl (cT 0, 6, .inl t_now_many)), (a_t_now_much, .inl (cT 4, 6, .inr (.inr (.inl t_now_much)))), (a_t_isBroth, .inl (cT 1, 5, .inl t_isBroth)), (a_t_many, .inl (cT 0, 5, .inl t_many)), (a_t_much, .inl (cT 4, 5, .inr (.inr (.inl t_much)))), (a_t_storesIn, .inl (cT 0, 6, .inl t_storesIn))] Hh) (hR0 : va_P (dC, dI) vwCl [(a_p3, .inr (4, [.int p3_cauldrons, .ref a_p3_isBroth, .ref a_p3_low, .ref a_p3_high, .ref a_p3_contents, .ref a_p3_storesIn, .int p3_spells, .ref a_p3_texts, .ref a_p3_cooked, .int p3_cookedSoFar, .int p3_storesSoFar])), (a_p3_isBroth, .inl (cT 1, 6, .inl p3_isBroth)), (a_t_now, .inr (5, [.ref a_t_now_many, .ref a_t_now_much])), (a_p3_low, .inl (cT 0, 6, .inl p3_low)), (a_p3_high, .inl (cT 0, 6, .inl p3_high))] Hh) (hD0 : va_D (fun _ => True) [(a_t, .inr (6, [.ref a_t_now, .ref a_t_storesIn, .int t_boilsAt, .int t_cause, .int t_causeDetail, .ref a_t_before, .ref a_t_isBroth, .ref a_t_many, .ref a_t_much, .int t_spoons])), (a_t_now_many, .inl (cT 0, 6, .inl t_now_many)), (a_t_now_much, .inl (cT 4, 6, .inr (.inr (.inl t_now_much)))), (a_t_isBroth, .inl (cT 1, 5, .inl t_isBroth)), (a_t_many, .inl (cT 0, 5, .inl t_many)), (a_t_much, .inl (cT 4, 5, .inr (.inr (.inl t_much)))), (a_t_storesIn, .inl (cT 0, 6, .inl t_storesIn))]) (hN0 : ∀ (k : Nat) (q : Nat × va_E), ([(a_p3, .inr (4, [.int p3_cauldrons, .ref a_p3_isBroth, .ref a_p3_low, .ref a_p3_high, .ref a_p3_contents, .ref a_p3_storesIn, .int p3_spells, .ref a_p3_texts, .ref a_p3_cooked, .int p3_cookedSoFar, .int p3_storesSoFar])), (a_p3_isBroth, .inl (cT 1, 6, .inl p3_isBroth)), (a_t_now, .inr (5, [.ref a_t_now_many, .ref a_t_now_much])), (a_p3_low, .inl (cT 0, 6, .inl p3_low)), (a_p3_high, .inl (cT 0, 6, .inl p3_high))] : va_W)[k]? = some q → ¬ va_A [(a_t, .inr (6, [.ref a_t_now, .ref a_t_storesIn, .int t_boilsAt, .int t_cause, .int t_causeDetail, .ref a_t_before, .ref a_t_isBroth, .ref a_t_many, .ref a_t_much, .int t_spoons])), (a_t_now_many, .inl (cT 0, 6, .inl t_now_many)), (a_t_now_much, .inl (cT 4, 6, .inr (.inr (.inl t_now_much)))), (a_t_isBroth, .inl (cT 1, 5, .inl t_isBroth)), (a_t_many, .inl (cT 0, 5, .inl t_many)), (a_t_much, .inl (cT 4, 5, .inr (.inr (.inl t_much)))), (a_t_storesIn, .inl (cT 0, 6, .inl t_storesIn))] Hh.size q.1) : Met l yX2_goesToken (wA yX2_goesToken cX2_goesToken 4 (some .boolean)) ({ frames := 3, cells := 0, slots := 0, locals := 67 } : Room) (PK dC dI cT [.ref a_t, .int p1, .int p2, .ref a_p3] Hh) (va_Qi (fun x (_ : Unit) => x = o.1) (fun _ t => va_P (dC, dI) vwCl [(a_t, .inr (6, [.ref a_t_now, .ref a_t_storesIn, .int t_boilsAt, .int o.2.1, .int o.2.2.1, .ref a_t_before, .ref a_t_isBroth, .ref a_t_many, .ref a_t_much, .int o.2.2.2.1])), (a_t_now_many, .inl (cT 0, 6, .inl o.2.2.2.2.1)), (a_t_now_much, .inl (cT 4, 6, .inr (.inr (.inl o.2.2.2.2.2.1)))), (a_t_isBroth, .inl (cT 1, 5, .inl o.2.2.2.2.2.2.1)), (a_t_many, .inl (cT 0, 5, .inl o.2.2.2.2.2.2.2.1)), (a_t_much, .inl (cT 4, 5, .inr (.inr (.inl o.2.2.2.2.2.2.2.2.1)))), (a_t_storesIn, .inl (cT 0, 6, .inl o.2.2.2.2.2.2.2.2.2))] t.heap) (va_A [(a_t, .inr (6, [.ref a_t_now, .ref a_t_storesIn, .int t_boilsAt, .int t_cause, .int t_causeDetail, .ref a_t_before, .ref a_t_isBroth, .ref a_t_many, .ref a_t_much, .int t_spoons])), (a_t_now_many, .inl (cT 0, 6, .inl t_now_many)), (a_t_now_much, .inl (cT 4, 6, .inr (.inr (.inl t_now_much)))), (a_t_isBroth, .inl (cT 1, 5, .inl t_isBroth)), (a_t_many, .inl (cT 0, 5, .inl t_many)), (a_t_much, .inl (cT 4, 5, .inr (.inr (.inl t_much)))), (a_t_storesIn, .inl (cT 0, 6, .inl t_storesIn))] Hh.size)) 0 0 (va_A [(a_t, .inr (6, [.ref a_t_now, .ref a_t_storesIn, .int t_boilsAt, .int t_cause, .int t_causeDetail, .ref a_t_before, .ref a_t_isBroth, .ref a_t_many, .ref a_t_much, .int t_spoons])), (a_t_now_many, .inl (cT 0, 6, .inl t_now_many)), (a_t_now_much, .inl (cT 4, 6, .inr (.inr (.inl t_now_much)))), (a_t_isBroth, .inl (cT 1, 5, .inl t_isBroth)), (a_t_many, .inl (cT 0, 5, .inl t_many)), (a_t_much, .inl (cT 4, 5, .inr (.inr (.inl t_much)))), (a_t_storesIn, .inl (cT 0, 6, .inl t_storesIn))] Hh.size) := by
  refine Met.ofW (cc := cX2_goesToken) (maxL := 4) (ret := (some .boolean)) (by decide) rfl ?_
  intro p e s m args below meth c s₁ B hml hv
  obtain ⟨rfl, hH, hK⟩ := hv
  subst hH
  have hx := B.exec
  have hb := B.bytes
  have hr := B.returns
  have hta : ∀ w ∈ ALLW, w.before [.ref a_t, .int p1, .int p2, .ref a_p3].toArray s = true := fun w hw => atoms_spec (ws := wA yX2_goesToken cX2_goesToken 4 (some .boolean)) B.pre w (List.mem_cons_of_mem _ hw)
  have hown : s.vm.findClass RX2 = some m.cls := findClass_of_methodNamed B.named
  have hlocks := B.notSynchronized
  have hD := hD0.self (sz := s.heap.size)
  have hNA := hN0
  generalize hAe : va_A [(a_t, .inr (6, [.ref a_t_now, .ref a_t_storesIn, .int t_boilsAt, .int t_cause, .int t_causeDetail, .ref a_t_before, .ref a_t_isBroth, .ref a_t_many, .ref a_t_much, .int t_spoons])), (a_t_now_many, .inl (cT 0, 6, .inl t_now_many)), (a_t_now_much, .inl (cT 4, 6, .inr (.inr (.inl t_now_much)))), (a_t_isBroth, .inl (cT 1, 5, .inl t_isBroth)), (a_t_many, .inl (cT 0, 5, .inl t_many)), (a_t_much, .inl (cT 4, 5, .inr (.inr (.inl t_much)))), (a_t_storesIn, .inl (cT 0, 6, .inl t_storesIn))] s.heap.size = A at hD hNA ⊢
  have hP := hP0
  have hA : ∀ q : Nat, s.heap.size ≤ q → A q := fun q h => by rw [← hAe]; exact Or.inr h
  have hS : va_S A s.heap s.heap [] := va_S.rf
  have hl := lv_entry [.ref a_t, .int p1, .int p2, .ref a_p3] (n := 4) (Nat.le_of_ble_eq_true rfl)
  rw [lg_entry_eq]
  generalize (lg_sl [.ref a_t, .int p1, .int p2, .ref a_p3] ++ List.replicate (4 - (lg_sl [.ref a_t, .int p1, .int p2, .ref a_p3]).length) Slot.unset).toArray = ls at hl ⊢
  have hl : lv_has ls 4 [(0, .ref a_t), (1, .int p1), (2, .int p2), (3, .ref a_p3)] := hl
  obtain ⟨Q, hQ⟩ : ∃ Q, Q = MQ below (va_Qi (fun x (_ : Unit) => x = o.1) (fun _ t => va_P (dC, dI) vwCl [(a_t, .inr (6, [.ref a_t_now, .ref a_t_storesIn, .int t_boilsAt, .int o.2.1, .int o.2.2.1, .ref a_t_before, .ref a_t_isBroth, .ref a_t_many, .ref a_t_much, .int o.2.2.2.1])), (a_t_now_many, .inl (cT 0, 6, .inl o.2.2.2.2.1)), (a_t_now_much, .inl (cT 4, 6, .inr (.inr (.inl o.2.2.2.2.2.1)))), (a_t_isBroth, .inl (cT 1, 5, .inl o.2.2.2.2.2.2.1)), (a_t_many, .inl (cT 0, 5, .inl o.2.2.2.2.2.2.2.1)), (a_t_much, .inl (cT 4, 5, .inr (.inr (.inl o.2.2.2.2.2.2.2.2.1)))), (a_t_storesIn, .inl (cT 0, 6, .inl o.2.2.2.2.2.2.2.2.2))] t.heap) A) [.ref a_t, .int p1, .int p2, .ref a_p3].toArray s 0 0 A := ⟨_, rfl⟩
  rw [← hQ]
  have wB_140 : ∀ (H : Heap) (locs : List Loc) (ls : Array Slot), g_X2_goesToken_b140 t_cause t_causeDetail t_spoons t_now_many t_now_much t_isBroth t_many t_much t_storesIn p1 = some o → va_P (dC, dI) vwCl [(a_t, .inr (6, [.ref a_t_now, .ref a_t_storesIn, .int t_boilsAt, .int t_cause, .int t_causeDetail, .ref a_t_before, .ref a_t_isBroth, .ref a_t_many, .ref a_t_much, .int t_spoons])), (a_t_now_many, .inl (cT 0, 6, .inl t_now_many)), (a_t_now_much, .inl (cT 4, 6, .inr (.inr (.inl t_now_much)))), (a_t_isBroth, .inl (cT 1, 5, .inl t_isBroth)), (a_t_many, .inl (cT 0, 5, .inl t_many)), (a_t_much, .inl (cT 4, 5, .inr (.inr (.inl t_much)))), (a_t_storesIn, .inl (cT 0, 6, .inl t_storesIn))] H → va_D A [(a_t, .inr (6, [.ref a_t_now, .ref a_t_storesIn, .int t_boilsAt, .int t_cause, .int t_causeDetail, .ref a_t_before, .ref a_t_isBroth, .ref a_t_many, .ref a_t_much, .int t_spoons])), (a_t_now_many, .inl (cT 0, 6, .inl t_now_many)), (a_t_now_much, .inl (cT 4, 6, .inr (.inr (.inl t_now_much)))), (a_t_isBroth, .inl (cT 1, 5, .inl t_isBroth)), (a_t_many, .inl (cT 0, 5, .inl t_many)), (a_t_much, .inl (cT 4, 5, .inr (.inr (.inl t_much)))), (a_t_storesIn, .inl (cT 0, 6, .inl t_storesIn))] → va_S A s.heap H locs → lv_has ls 4 [(0, .ref a_t), (1, .int p1)] → W p l e ({ frames := 3, cells := 0, slots := 0, locals := 67 } : Room) s m [.ref a_t, .int p1, .int p2, .ref a_p3].toArray below meth c H locs 0 0 Q (F0 m 140 ls []) := by
    intro H locs ls h hP hD hS hl
    unfold g_X2_goesToken_b140 at h
    refine lv_aload_n hx hb dX2_goesToken_140 rfl (lv_at hl 0 rfl) ?_
    refine lv_iload_n hx hb dX2_goesToken_141 rfl (lv_at hl 1 rfl) ?_
    obtain ⟨r6, hq, h⟩ := gb_some h
    refine cxI (X2 := [(a_t, .inr (6, [.ref a_t_now, .ref a_t_storesIn, .int t_boilsAt, .int r6.2.1, .int r6.2.2.1, .ref a_t_before, .ref a_t_isBroth, .ref a_t_many, .ref a_t_much, .int r6.2.2.2.1])), (a_t_now_many, .inl (cT 0, 6, .inl t_now_many)), (a_t_now_much, .inl (cT 4, 6, .inr (.inr (.inl t_now_much)))), (a_t_isBroth, .inl (cT 1, 5, .inl t_isBroth)), (a_t_many, .inl (cT 0, 5, .inl r6.2.2.2.2.1)), (a_t_much, .inl (cT 4, 5, .inr (.inr (.inl r6.2.2.2.2.2)))), (a_t_storesIn, .inl (cT 0, 6, .inl t_storesIn))]) (va_runV (As := [.int p1]) (rest := []) ⟨hx, hb, hml, hown, hta⟩ (c_X2_goesReckoning l dC dI cT hq (hP.sub (ws' := [(a_t, .inr (6, [.ref a_t_now, .ref a_t_storesIn, .int t_boilsAt, .int t_cause, .int t_causeDetail, .ref a_t_before, .ref a_t_isBroth, .ref a_t_many, .ref a_t_much, .int t_spoons])), (a_t_many, .inl (cT 0, 5, .inl t_many)), (a_t_much, .inl (cT 4, 5, .inr (.inr (.inl t_much))))]) [0, 4, 5] rfl) (hP.sub (ws' := [(a_t_isBroth, .inl (cT 1, 5, .inl t_isBroth))]) [3] rfl) (ds hD [0, 4, 5] (by decide) rfl) (nac hP hD [0, 4, 5] rfl (va_free hD hS hA [0, 4, 5] rfl) na_nil [.inr 3] rfl rfl)) (cV hta lm_X2_86 md_X2_goesReckoning ⟨(Nat.le_of_ble_eq_true rfl), (Nat.le_of_ble_eq_true rfl)⟩) ⟨fbK, va_recv hK hP (ci := 6) (q0 := 0) rfl rfl, fun U hU hW => ⟨rfl, hU, va_K.moved hW.alike hK⟩⟩ rfl rfl hl.1 rfl (lv_room (Nat.le_of_ble_eq_true rfl)) dX2_goesToken_142 ⟨(Nat.le_of_ble_eq_true rfl), (Nat.le_of_ble_eq_true rfl)⟩) hS hA hP hD [0, 4, 5] rfl [.inl 0, .inr 1, .inr 2, .inr 3, .inl 1, .inl 2, .inr 6] rfl rfl rfl (fun H locs hP hD hS => ?_)
    obtain ⟨hc, h⟩ := gc_some h
    have ho := Option.some.inj h
    rw [hQ]
    exact W.zret (ty := .boolean) (v := r6.1) hx hb hr (bo_n hc) (fun t ht hW => ⟨⟨r6.1, (), rfl, by rw [← ho], by show va_P (dC, dI) vwCl _ t.heap; rw [ht, ← ho]; exact hP⟩, hS.F ht⟩) hS.2.2 dX2_goesToken_145
  unfold g_X2_goesToken at h
  refine lv_iload_n hx hb dX2_goesToken_0 rfl (lv_at hl 1 rfl) ?_
  by_cases cs8 : p1 = 0
  · have h := (if_pos cs8).symm.trans h
    refine lv_tableIn (tgt := 48) (off := 47) hx hb dX2_goesToken_1 (by rw [cs8]; decide) (by rw [cs8]; decide) (by rw [cs8]; rfl) (by decide) ?_
    refine lv_iload_n hx hb dX2_goesToken_48 rfl (lv_at hl 2 rfl) ?_
    refine lv_if_lt (tgt := 93) hx hb dX2_goesToken_49 (by decide) (fun c0 => ?_) (fun c0 => ?_)
    · have h := (if_pos c0).symm.trans h
      refine lv_iconst (v := 0) hx hb dX2_goesToken_93 (by decide) ?_
      have ho := Option.some.inj h
      rw [hQ]
      exact W.zret (ty := .boolean) (v := 0) hx hb hr rfl (fun t ht hW => ⟨⟨0, (), rfl, by rw [← ho], by show va_P (dC, dI) vwCl _ t.heap; rw [ht, ← ho]; exact hP⟩, hS.F ht⟩) hS.2.2 dX2_goesToken_94
    · have h := (if_neg c0).symm.trans h
      refine lv_iload_n hx hb dX2_goesToken_52 rfl (lv_at hl 2 rfl) ?_
      refine lv_bipush (v := 6) hx hb dX2_goesToken_53 (by decide) ?_
      refine lv_icmp_ge (tgt := 93) hx hb dX2_goesToken_55 (by decide) (fun c0 => ?_) (fun c0 => ?_)
      · have h := (if_pos c0).symm.trans h
        refine lv_iconst (v := 0) hx hb dX2_goesToken_93 (by decide) ?_
        have ho := Option.some.inj h
        rw [hQ]
        exact W.zret (ty := .boolean) (v := 0) hx hb hr rfl (fun t ht hW => ⟨⟨0, (), rfl, by rw [← ho], by show va_P (dC, dI) vwCl _ t.heap; rw [ht, ← ho]; exact hP⟩, hS.F ht⟩) hS.2.2 dX2_goesToken_94
      · have h := (if_neg c0).symm.trans h
        refine lv_aload_n hx hb dX2_goesToken_58 rfl (lv_at hl 0 rfl) ?_
        refine lv_aload_n hx hb dX2_goesToken_59 rfl (lv_at hl 3 rfl) ?_
        refine va_get (D := (dC, dI)) (ci := 4) (v := .ref a_p3_isBroth) (C := RX0) (T := TX0) (N := 11) hx hb hta inX0w hown hK (rk hR0 hNA hS) 0 rfl rfl 1 (by decide) (hta _ lk_X2_71) (fun _ h9 => h9) rfl dX2_goesToken_60 ?_
        refine lv_iload_n hx hb dX2_goesToken_63 rfl (lv_at hl 2 rfl) ?_
        obtain ⟨hc, h⟩ := gc_some h
        refine va_zald hx hb hK (rk hR0 hNA hS) 1 1 rfl rfl (inb_in hc) dX2_goesToken_64 ?_
        refine lv_aload_n hx hb dX2_goesToken_65 rfl (lv_at hl 0 rfl) ?_
        refine va_get (D := (dC, dI)) (ci := 6) (v := .ref a_t_now) (C := RX2) (T := TX2) (N := 10) hx hb hta inX2w hown hK hP 0 rfl rfl 0 (by decide) (hta _ lk_X2_12) (fun _ h9 => h9) rfl dX2_goesToken_66 ?_
        refine va_get (D := (dC, dI)) (ci := 5) (v := .ref a_t_now_many) (C := RX1) (T := TX1) (N := 2) hx hb hta inX1w hown hK (rk hR0 hNA hS) 2 rfl rfl 0 (by decide) (hta _ lk_X2_72) (fun _ h9 => h9) rfl dX2_goesToken_69 ?_
        refine lv_iload_n hx hb dX2_goesToken_72 rfl (lv_at hl 2 rfl) ?_
        obtain ⟨hc, h⟩ := gc_some h
        refine va_iald hx hb hK hP 1 0 rfl rfl (inb_in hc) dX2_goesToken_73 ?_
        refine lv_aload_n hx hb dX2_goesToken_74 rfl (lv_at hl 0 rfl) ?_
        refine va_get (D := (dC, dI)) (ci := 6) (v := .ref a_t_now) (C := RX2) (T := TX2) (N := 10) hx hb hta inX2w hown hK hP 0 rfl rfl 0 (by decide) (hta _ lk_X2_12) (fun _ h9 => h9) rfl dX2_goesToken_75 ?_
        refine va_get (D := (dC, dI)) (ci := 5) (v := .ref a_t_now_much) (C := RX1) (T := TX1) (N := 2) hx hb hta inX1w hown hK (rk hR0 hNA hS) 2 rfl rfl 1 (by decide) (hta _ lk_X2_73) (fun _ h9 => h9) rfl dX2_goesToken_78 ?_
        refine lv_iload_n hx hb dX2_goesToken_81 rfl (lv_at hl 2 rfl) ?_
        obtain ⟨hc, h⟩ := gc_some h
        refine va_fald hx hb hK hP 2 4 rfl rfl (inb_in hc) dX2_goesToken_82 ?_
        obtain ⟨r1, hq, h⟩ := gb_some h
        refine cxI (X2 := [(a_t, .inr (6, [.ref a_t_now, .ref a_t_storesIn, .int t_boilsAt, .int t_cause, .int t_causeDetail, .ref a_t_before, .ref a_t_isBroth, .ref a_t_many, .ref a_t_much, .int r1.2.1])), (a_t_now_many, .inl (cT 0, 6, .inl t_now_many)), (a_t_now_much, .inl (cT 4, 6, .inr (.inr (.inl t_now_much)))), (a_t_isBroth, .inl (cT 1, 5, .inl r1.2.2.1)), (a_t_many, .inl (cT 0, 5, .inl r1.2.2.2.1)), (a_t_much, .inl (cT 4, 5, .inr (.inr (.inl r1.2.2.2.2)))), (a_t_storesIn, .inl (cT 0, 6, .inl t_storesIn))]) (va_runV (As := [.int (p3_isBroth p2.toNatClampNeg), .int (t_now_many p2.toNatClampNeg), .float (t_now_much p2.toNatClampNeg)]) (rest := []) ⟨hx, hb, hml, hown, hta⟩ (c_X2_lay l dC dI cT hq (hP.sub (ws' := [(a_t, .inr (6, [.ref a_t_now, .ref a_t_storesIn, .int t_boilsAt, .int t_cause, .int t_causeDetail, .ref a_t_before, .ref a_t_isBroth, .ref a_t_many, .ref a_t_much, .int t_spoons])), (a_t_isBroth, .inl (cT 1, 5, .inl t_isBroth)), (a_t_many, .inl (cT 0, 5, .inl t_many)), (a_t_much, .inl (cT 4, 5, .inr (.inr (.inl t_much))))]) [0, 3, 4, 5] rfl) (ds hD [0, 3, 4, 5] (by decide) rfl)) (cV hta lm_X2_74 md_X2_lay ⟨(Nat.le_of_ble_eq_true rfl), (Nat.le_of_ble_eq_true rfl)⟩) ⟨fbK, va_recv hK hP (ci := 6) (q0 := 0) rfl rfl, fun U hU hW => ⟨rfl, hU, va_K.moved hW.alike hK⟩⟩ rfl rfl hl.1 rfl (lv_room (Nat.le_of_ble_eq_true rfl)) dX2_goesToken_83 ⟨(Nat.le_of_ble_eq_true rfl), (Nat.le_of_ble_eq_true rfl)⟩) hS hA hP hD [0, 3, 4, 5] rfl [.inl 0, .inr 1, .inr 2, .inl 1, .inl 2, .inl 3, .inr 6] rfl rfl rfl (fun H locs hP hD hS => ?_)
        refine lv_if_eq (tgt := 93) hx hb dX2_goesToken_86 (by decide) (fun c0 => ?_) (fun c0 => ?_)
        · have h := (if_pos c0).symm.trans h
          refine lv_iconst (v := 0) hx hb dX2_goesToken_93 (by decide) ?_
          have ho := Option.some.inj h
          rw [hQ]
          exact W.zret (ty := .boolean) (v := 0) hx hb hr rfl (fun t ht hW => ⟨⟨0, (), rfl, by rw [← ho], by show va_P (dC, dI) vwCl _ t.heap; rw [ht, ← ho]; exact hP⟩, hS.F ht⟩) hS.2.2 dX2_goesToken_94
        · have h := (if_neg c0).symm.trans h
          refine lv_iconst (v := 1) hx hb dX2_goesToken_89 (by decide) ?_
          refine lv_goto (tgt := 94) hx hb dX2_goesToken_90 (by decide) ?_
          have ho := Option.some.inj h
          rw [hQ]
          exact W.zret (ty := .boolean) (v := 1) hx hb hr rfl (fun t ht hW => ⟨⟨1, (), rfl, by rw [← ho], by show va_P (dC, dI) vwCl _ t.heap; rw [ht, ← ho]; exact hP⟩, hS.F ht⟩) hS.2.2 dX2_goesToken_94
  · have h := (if_neg cs8).symm.trans h
    by_cases cs7 : p1 = 1
    · have h := (if_pos cs7).symm.trans h
      refine lv_tableIn (tgt := 95) (off := 94) hx hb dX2_goesToken_1 (by rw [cs7]; decide) (by rw [cs7]; decide) (by rw [cs7]; rfl) (by decide) ?_
      refine lv_aload_n hx hb dX2_goesToken_95 rfl (lv_at hl 0 rfl) ?_
      refine lv_iconst (v := 0) hx hb dX2_goesToken_96 (by decide) ?_
      refine lv_iload_n hx hb dX2_goesToken_97 rfl (lv_at hl 2 rfl) ?_
      refine lv_fconst0 hx hb dX2_goesToken_98 ?_
      obtain ⟨r2, hq, h⟩ := gb_some h
      refine cxI (X2 := [(a_t, .inr (6, [.ref a_t_now, .ref a_t_storesIn, .int t_boilsAt, .int t_cause, .int t_causeDetail, .ref a_t_before, .ref a_t_isBroth, .ref a_t_many, .ref a_t_much, .int r2.2.1])), (a_t_now_many, .inl (cT 0, 6, .inl t_now_many)), (a_t_now_much, .inl (cT 4, 6, .inr (.inr (.inl t_now_much)))), (a_t_isBroth, .inl (cT 1, 5, .inl r2.2.2.1)), (a_t_many, .inl (cT 0, 5, .inl r2.2.2.2.1)), (a_t_much, .inl (cT 4, 5, .inr (.inr (.inl r2.2.2.2.2)))), (a_t_storesIn, .inl (cT 0, 6, .inl t_storesIn))]) (va_runV (As := [.int 0, .int p2, .float FP.fconst0]) (rest := []) ⟨hx, hb, hml, hown, hta⟩ (c_X2_lay l dC dI cT hq (hP.sub (ws' := [(a_t, .inr (6, [.ref a_t_now, .ref a_t_storesIn, .int t_boilsAt, .int t_cause, .int t_causeDetail, .ref a_t_before, .ref a_t_isBroth, .ref a_t_many, .ref a_t_much, .int t_spoons])), (a_t_isBroth, .inl (cT 1, 5, .inl t_isBroth)), (a_t_many, .inl (cT 0, 5, .inl t_many)), (a_t_much, .inl (cT 4, 5, .inr (.inr (.inl t_much))))]) [0, 3, 4, 5] rfl) (ds hD [0, 3, 4, 5] (by decide) rfl)) (cV hta lm_X2_74 md_X2_lay ⟨(Nat.le_of_ble_eq_true rfl), (Nat.le_of_ble_eq_true rfl)⟩) ⟨fbK, va_recv hK hP (ci := 6) (q0 := 0) rfl rfl, fun U hU hW => ⟨rfl, hU, va_K.moved hW.alike hK⟩⟩ rfl rfl hl.1 rfl (lv_room (Nat.le_of_ble_eq_true rfl)) dX2_goesToken_99 ⟨(Nat.le_of_ble_eq_true rfl), (Nat.le_of_ble_eq_true rfl)⟩) hS hA hP hD [0, 3, 4, 5] rfl [.inl 0, .inr 1, .inr 2, .inl 1, .inl 2, .inl 3, .inr 6] rfl rfl rfl (fun H locs hP hD hS => ?_)
      obtain ⟨hc, h⟩ := gc_some h
      have ho := Option.some.inj h
      rw [hQ]
      exact W.zret (ty := .boolean) (v := r2.1) hx hb hr (bo_n hc) (fun t ht hW => ⟨⟨r2.1, (), rfl, by rw [← ho], by show va_P (dC, dI) vwCl _ t.heap; rw [ht, ← ho]; exact hP⟩, hS.F ht⟩) hS.2.2 dX2_goesToken_102
    · have h := (if_neg cs7).symm.trans h
      by_cases cs6 : p1 = 2
      · have h := (if_pos cs6).symm.trans h
        refine lv_tableIn (tgt := 140) (off := 139) hx hb dX2_goesToken_1 (by rw [cs6]; decide) (by rw [cs6]; decide) (by rw [cs6]; rfl) (by decide) ?_
        exact wB_140 _ _ _ h hP hD hS (lv_sub hl [0, 1] rfl)
      · have h := (if_neg cs6).symm.trans h
        by_cases cs5 : p1 = 3
        · have h := (if_pos cs5).symm.trans h
          refine lv_tableIn (tgt := 140) (off := 139) hx hb dX2_goesToken_1 (by rw [cs5]; decide) (by rw [cs5]; decide) (by rw [cs5]; rfl) (by decide) ?_
          exact wB_140 _ _ _ h hP hD hS (lv_sub hl [0, 1] rfl)
        · have h := (if_neg cs5).symm.trans h
          by_cases cs4 : p1 = 4
          · have h := (if_pos cs4).symm.trans h
            refine lv_tableIn (tgt := 140) (off := 139) hx hb dX2_goesToken_1 (by rw [cs4]; decide) (by rw [cs4]; decide) (by rw [cs4]; rfl) (by decide) ?_
            exact wB_140 _ _ _ h hP hD hS (lv_sub hl [0, 1] rfl)
          · have h := (if_neg cs4).symm.trans h
            by_cases cs3 : p1 = 5
            · have h := (if_pos cs3).symm.trans h
              refine lv_tableIn (tgt := 103) (off := 102) hx hb dX2_goesToken_1 (by rw [cs3]; decide) (by rw [cs3]; decide) (by rw [cs3]; rfl) (by decide) ?_
              refine lv_aload_n hx hb dX2_goesToken_103 rfl (lv_at hl 0 rfl) ?_
              refine lv_iconst (v := 1) hx hb dX2_goesToken_104 (by decide) ?_
              obtain ⟨r3, hq, h⟩ := gb_some h
              refine cxI (X2 := [(a_t, .inr (6, [.ref a_t_now, .ref a_t_storesIn, .int t_boilsAt, .int r3.2.1, .int r3.2.2.1, .ref a_t_before, .ref a_t_isBroth, .ref a_t_many, .ref a_t_much, .int t_spoons])), (a_t_now_many, .inl (cT 0, 6, .inl t_now_many)), (a_t_now_much, .inl (cT 4, 6, .inr (.inr (.inl t_now_much)))), (a_t_isBroth, .inl (cT 1, 5, .inl r3.2.2.2.1)), (a_t_many, .inl (cT 0, 5, .inl r3.2.2.2.2.1)), (a_t_much, .inl (cT 4, 5, .inr (.inr (.inl r3.2.2.2.2.2)))), (a_t_storesIn, .inl (cT 0, 6, .inl t_storesIn))]) (va_runV (As := [.int 1]) (rest := []) ⟨hx, hb, hml, hown, hta⟩ (c_X2_goesCast l dC dI cT hq (hP.sub (ws' := [(a_t, .inr (6, [.ref a_t_now, .ref a_t_storesIn, .int t_boilsAt, .int t_cause, .int t_causeDetail, .ref a_t_before, .ref a_t_isBroth, .ref a_t_many, .ref a_t_much, .int t_spoons])), (a_t_isBroth, .inl (cT 1, 5, .inl t_isBroth)), (a_t_many, .inl (cT 0, 5, .inl t_many)), (a_t_much, .inl (cT 4, 5, .inr (.inr (.inl t_much))))]) [0, 3, 4, 5] rfl) (ds hD [0, 3, 4, 5] (by decide) rfl)) (cV hta lm_X2_78 md_X2_goesCast ⟨(Nat.le_of_ble_eq_true rfl), (Nat.le_of_ble_eq_true rfl)⟩) ⟨fbK, va_recv hK hP (ci := 6) (q0 := 0) rfl rfl, fun U hU hW => ⟨rfl, hU, va_K.moved hW.alike hK⟩⟩ rfl rfl hl.1 rfl (lv_room (Nat.le_of_ble_eq_true rfl)) dX2_goesToken_105 ⟨(Nat.le_of_ble_eq_true rfl), (Nat.le_of_ble_eq_true rfl)⟩) hS hA hP hD [0, 3, 4, 5] rfl [.inl 0, .inr 1, .inr 2, .inl 1, .inl 2, .inl 3, .inr 6] rfl rfl rfl (fun H locs hP hD hS => ?_)
              obtain ⟨hc, h⟩ := gc_some h
              have ho := Option.some.inj h
              rw [hQ]
              exact W.zret (ty := .boolean) (v := r3.1) hx hb hr (bo_n hc) (fun t ht hW => ⟨⟨r3.1, (), rfl, by rw [← ho], by show va_P (dC, dI) vwCl _ t.heap; rw [ht, ← ho]; exact hP⟩, hS.F ht⟩) hS.2.2 dX2_goesToken_108
            · have h := (if_neg cs3).symm.trans h
              by_cases cs2 : p1 = 6
              · have h := (if_pos cs2).symm.trans h
                refine lv_tableIn (tgt := 109) (off := 108) hx hb dX2_goesToken_1 (by rw [cs2]; decide) (by rw [cs2]; decide) (by rw [cs2]; rfl) (by decide) ?_
                refine lv_aload_n hx hb dX2_goesToken_109 rfl (lv_at hl 0 rfl) ?_
                refine lv_iconst (v := 0) hx hb dX2_goesToken_110 (by decide) ?_
                obtain ⟨r4, hq, h⟩ := gb_some h
                refine cxI (X2 := [(a_t, .inr (6, [.ref a_t_now, .ref a_t_storesIn, .int t_boilsAt, .int r4.2.1, .int r4.2.2.1, .ref a_t_before, .ref a_t_isBroth, .ref a_t_many, .ref a_t_much, .int t_spoons])), (a_t_now_many, .inl (cT 0, 6, .inl t_now_many)), (a_t_now_much, .inl (cT 4, 6, .inr (.inr (.inl t_now_much)))), (a_t_isBroth, .inl (cT 1, 5, .inl r4.2.2.2.1)), (a_t_many, .inl (cT 0, 5, .inl r4.2.2.2.2.1)), (a_t_much, .inl (cT 4, 5, .inr (.inr (.inl r4.2.2.2.2.2)))), (a_t_storesIn, .inl (cT 0, 6, .inl t_storesIn))]) (va_runV (As := [.int 0]) (rest := []) ⟨hx, hb, hml, hown, hta⟩ (c_X2_goesCast l dC dI cT hq (hP.sub (ws' := [(a_t, .inr (6, [.ref a_t_now, .ref a_t_storesIn, .int t_boilsAt, .int t_cause, .int t_causeDetail, .ref a_t_before, .ref a_t_isBroth, .ref a_t_many, .ref a_t_much, .int t_spoons])), (a_t_isBroth, .inl (cT 1, 5, .inl t_isBroth)), (a_t_many, .inl (cT 0, 5, .inl t_many)), (a_t_much, .inl (cT 4, 5, .inr (.inr (.inl t_much))))]) [0, 3, 4, 5] rfl) (ds hD [0, 3, 4, 5] (by decide) rfl)) (cV hta lm_X2_78 md_X2_goesCast ⟨(Nat.le_of_ble_eq_true rfl), (Nat.le_of_ble_eq_true rfl)⟩) ⟨fbK, va_recv hK hP (ci := 6) (q0 := 0) rfl rfl, fun U hU hW => ⟨rfl, hU, va_K.moved hW.alike hK⟩⟩ rfl rfl hl.1 rfl (lv_room (Nat.le_of_ble_eq_true rfl)) dX2_goesToken_111 ⟨(Nat.le_of_ble_eq_true rfl), (Nat.le_of_ble_eq_true rfl)⟩) hS hA hP hD [0, 3, 4, 5] rfl [.inl 0, .inr 1, .inr 2, .inl 1, .inl 2, .inl 3, .inr 6] rfl rfl rfl (fun H locs hP hD hS => ?_)
                obtain ⟨hc, h⟩ := gc_some h
                have ho := Option.some.inj h
                rw [hQ]
                exact W.zret (ty := .boolean) (v := r4.1) hx hb hr (bo_n hc) (fun t ht hW => ⟨⟨r4.1, (), rfl, by rw [← ho], by show va_P (dC, dI) vwCl _ t.heap; rw [ht, ← ho]; exact hP⟩, hS.F ht⟩) hS.2.2 dX2_goesToken_114
              · have h := (if_neg cs2).symm.trans h
                by_cases cs1 : p1 = 7
                · have h := (if_pos cs1).symm.trans h
                  refine lv_tableIn (tgt := 115) (off := 114) hx hb dX2_goesToken_1 (by rw [cs1]; decide) (by rw [cs1]; decide) (by rw [cs1]; rfl) (by decide) ?_
                  refine lv_iload_n hx hb dX2_goesToken_115 rfl (lv_at hl 2 rfl) ?_
                  refine lv_if_lt (tgt := 138) hx hb dX2_goesToken_116 (by decide) (fun c0 => ?_) (fun c0 => ?_)
                  · have h := (if_pos c0).symm.trans h
                    refine lv_iconst (v := 0) hx hb dX2_goesToken_138 (by decide) ?_
                    have ho := Option.some.inj h
                    rw [hQ]
                    exact W.zret (ty := .boolean) (v := 0) hx hb hr rfl (fun t ht hW => ⟨⟨0, (), rfl, by rw [← ho], by show va_P (dC, dI) vwCl _ t.heap; rw [ht, ← ho]; exact hP⟩, hS.F ht⟩) hS.2.2 dX2_goesToken_139
                  · have h := (if_neg c0).symm.trans h
                    refine lv_iload_n hx hb dX2_goesToken_119 rfl (lv_at hl 2 rfl) ?_
                    refine lv_bipush (v := 6) hx hb dX2_goesToken_120 (by decide) ?_
                    refine lv_icmp_ge (tgt := 138) hx hb dX2_goesToken_122 (by decide) (fun c0 => ?_) (fun c0 => ?_)
                    · have h := (if_pos c0).symm.trans h
                      refine lv_iconst (v := 0) hx hb dX2_goesToken_138 (by decide) ?_
                      have ho := Option.some.inj h
                      rw [hQ]
                      exact W.zret (ty := .boolean) (v := 0) hx hb hr rfl (fun t ht hW => ⟨⟨0, (), rfl, by rw [← ho], by show va_P (dC, dI) vwCl _ t.heap; rw [ht, ← ho]; exact hP⟩, hS.F ht⟩) hS.2.2 dX2_goesToken_139
                    · have h := (if_neg c0).symm.trans h
                      refine lv_aload_n hx hb dX2_goesToken_125 rfl (lv_at hl 0 rfl) ?_
                      refine lv_iload_n hx hb dX2_goesToken_126 rfl (lv_at hl 2 rfl) ?_
                      refine lv_aload_n hx hb dX2_goesToken_127 rfl (lv_at hl 3 rfl) ?_
                      obtain ⟨r5, hq, h⟩ := gb_some h
                      refine cxI (X2 := [(a_t, .inr (6, [.ref a_t_now, .ref a_t_storesIn, .int t_boilsAt, .int r5.2.1, .int r5.2.2.1, .ref a_t_before, .ref a_t_isBroth, .ref a_t_many, .ref a_t_much, .int r5.2.2.2.1])), (a_t_now_many, .inl (cT 0, 6, .inl r5.2.2.2.2.1)), (a_t_now_much, .inl (cT 4, 6, .inr (.inr (.inl r5.2.2.2.2.2.1)))), (a_t_isBroth, .inl (cT 1, 5, .inl t_isBroth)), (a_t_many, .inl (cT 0, 5, .inl t_many)), (a_t_much, .inl (cT 4, 5, .inr (.inr (.inl t_much)))), (a_t_storesIn, .inl (cT 0, 6, .inl r5.2.2.2.2.2.2))]) (va_runV (As := [.int p2, .ref a_p3]) (rest := []) ⟨hx, hb, hml, hown, hta⟩ (c_X2_goesStore l dC dI cT hq (hP.sub (ws' := [(a_t, .inr (6, [.ref a_t_now, .ref a_t_storesIn, .int t_boilsAt, .int t_cause, .int t_causeDetail, .ref a_t_before, .ref a_t_isBroth, .ref a_t_many, .ref a_t_much, .int t_spoons])), (a_t_now_many, .inl (cT 0, 6, .inl t_now_many)), (a_t_now_much, .inl (cT 4, 6, .inr (.inr (.inl t_now_much)))), (a_t_storesIn, .inl (cT 0, 6, .inl t_storesIn))]) [0, 1, 2, 6] rfl) ((va_P.app hP (rk hR0 hNA hS)).sub (ws' := [(a_p3, .inr (4, [.int p3_cauldrons, .ref a_p3_isBroth, .ref a_p3_low, .ref a_p3_high, .ref a_p3_contents, .ref a_p3_storesIn, .int p3_spells, .ref a_p3_texts, .ref a_p3_cooked, .int p3_cookedSoFar, .int p3_storesSoFar])), (a_t_isBroth, .inl (cT 1, 5, .inl t_isBroth)), (a_p3_isBroth, .inl (cT 1, 6, .inl p3_isBroth)), (a_t_many, .inl (cT 0, 5, .inl t_many)), (a_p3_low, .inl (cT 0, 6, .inl p3_low)), (a_p3_high, .inl (cT 0, 6, .inl p3_high)), (a_t_now, .inr (5, [.ref a_t_now_many, .ref a_t_now_much])), (a_t_much, .inl (cT 4, 5, .inr (.inr (.inl t_much))))]) [7, 3, 8, 4, 10, 11, 9, 5] rfl) (ds hD [0, 1, 2, 6] (by decide) rfl) (nac hP hD [0, 1, 2, 6] rfl (va_free hD hS hA [0, 1, 2, 6] rfl) hNA [.inl 0, .inr 3, .inl 1, .inr 4, .inl 3, .inl 4, .inl 2, .inr 5] rfl rfl)) (cV hta lm_X2_82 md_X2_goesStore ⟨(Nat.le_of_ble_eq_true rfl), (Nat.le_of_ble_eq_true rfl)⟩) ⟨fbK, va_recv hK hP (ci := 6) (q0 := 0) rfl rfl, fun U hU hW => ⟨rfl, hU, va_K.moved hW.alike hK⟩⟩ rfl rfl hl.1 rfl (lv_room (Nat.le_of_ble_eq_true rfl)) dX2_goesToken_128 ⟨(Nat.le_of_ble_eq_true rfl), (Nat.le_of_ble_eq_true rfl)⟩) hS hA hP hD [0, 1, 2, 6] rfl [.inl 0, .inl 1, .inl 2, .inr 3, .inr 4, .inr 5, .inl 3] rfl rfl rfl (fun H locs hP hD hS => ?_)
                      refine lv_if_eq (tgt := 138) hx hb dX2_goesToken_131 (by decide) (fun c0 => ?_) (fun c0 => ?_)
                      · have h := (if_pos c0).symm.trans h
                        refine lv_iconst (v := 0) hx hb dX2_goesToken_138 (by decide) ?_
                        have ho := Option.some.inj h
                        rw [hQ]
                        exact W.zret (ty := .boolean) (v := 0) hx hb hr rfl (fun t ht hW => ⟨⟨0, (), rfl, by rw [← ho], by show va_P (dC, dI) vwCl _ t.heap; rw [ht, ← ho]; exact hP⟩, hS.F ht⟩) hS.2.2 dX2_goesToken_139
                      · have h := (if_neg c0).symm.trans h
                        refine lv_iconst (v := 1) hx hb dX2_goesToken_134 (by decide) ?_
                        refine lv_goto (tgt := 139) hx hb dX2_goesToken_135 (by decide) ?_
                        have ho := Option.some.inj h
                        rw [hQ]
                        exact W.zret (ty := .boolean) (v := 1) hx hb hr rfl (fun t ht hW => ⟨⟨1, (), rfl, by rw [← ho], by show va_P (dC, dI) vwCl _ t.heap; rw [ht, ← ho]; exact hP⟩, hS.F ht⟩) hS.2.2 dX2_goesToken_139
                · have h := (if_neg cs1).symm.trans h
                  refine lv_tableOut (tgt := 140) hx hb dX2_goesToken_1 (by have q0 := lv_neT cs8 (a := 0) (by decide); have q1 := lv_neT cs7 (a := 1) (by decide); have q2 := lv_neT cs6 (a := 2) (by decide); have q3 := lv_neT cs5 (a := 3) (by decide); have q4 := lv_neT cs4 (a := 4) (by decide); have q5 := lv_neT cs3 (a := 5) (by decide); have q6 := lv_neT cs2 (a := 6) (by decide); have q7 := lv_neT cs1 (a := 7) (by decide); omega) (by decide) ?_
                  exact wB_140 _ _ _ h hP hD hS (lv_sub hl [0, 1] rfl)
set_option maxHeartbeats 4000000 in
set_option maxRecDepth 100000 in
theorem c_X2_goesOn (l : Launch) (dC : Nat → ClassId) (dI : Nat → Nat → Nat) (cT : Nat → ClassId) {Hh : Heap} {a_t : Nat} {a_p1 : Nat} {a_p2 : Nat} {a_t_before : Nat} {a_t_now : Nat} {a_t_before_many : Nat} {a_t_now_many : Nat} {a_t_before_much : Nat} {a_t_now_much : Nat} {a_t_storesIn : Nat} {a_p1_kinds : Nat} {a_p1_values : Nat} {a_p2_isBroth : Nat} {a_t_isBroth : Nat} {a_t_many : Nat} {a_t_much : Nat} {a_p2_low : Nat} {a_p2_high : Nat} {a_p1_text : Nat} {a_p1_firsts : Nat} {a_p1_parts : Nat} {a_p1_lastParts : Nat} {a_p2_contents : Nat} {a_p2_storesIn : Nat} {a_p2_texts : Nat} {a_p2_cooked : Nat} {t_boilsAt : Int32} {t_cause : Int32} {t_causeDetail : Int32} {t_spoons : Int32} {p1_tokens : Int32} {t_before_many : Nat → Int32} {t_now_many : Nat → Int32} {t_before_much : Nat → UInt32} {t_now_much : Nat → UInt32} {t_storesIn : Nat → Int32} {p1_kinds : Nat → Int32} {p1_values : Nat → Int32} {p2_isBroth : Nat → Int32} {t_isBroth : Nat → Int32} {t_many : Nat → Int32} {t_much : Nat → UInt32} {p2_low : Nat → Int32} {p2_high : Nat → Int32} {p1_stores : Int32} {p1_mostSpoons : Int32} {p2_cauldrons : Int32} {p2_spells : Int32} {p2_cookedSoFar : Int32} {p2_storesSoFar : Int32} {o : Int32 × Int32 × Int32 × Int32 × Int32 × (Nat → Int32) × (Nat → Int32) × (Nat → UInt32) × (Nat → UInt32) × (Nat → Int32) × (Nat → Int32) × (Nat → Int32) × (Nat → UInt32)} (h : g_X2_goesOn t_boilsAt t_cause t_causeDetail t_spoons p1_tokens t_before_many t_now_many t_before_much t_now_much t_storesIn p1_kinds p1_values p2_isBroth t_isBroth t_many t_much p2_low p2_high = some o) (hP0 : va_P (dC, dI) vwCl [(a_t, .inr (6, [.ref a_t_now, .ref a_t_storesIn, .int t_boilsAt, .int t_cause, .int t_causeDetail, .ref a_t_before, .ref a_t_isBroth, .ref a_t_many, .ref a_t_much, .int t_spoons])), (a_t_before_many, .inl (cT 0, 6, .inl t_before_many)), (a_t_now_many, .inl (cT 0, 6, .inl t_now_many)), (a_t_before_much, .inl (cT 4, 6, .inr (.inr (.inl t_before_much)))), (a_t_now_much, .inl (cT 4, 6, .inr (.inr (.inl t_now_much)))), (a_t_storesIn, .inl (cT 0, 6, .inl t_storesIn)), (a_t_isBroth, .inl (cT 1, 5, .inl t_isBroth)), (a_t_many, .inl (cT 0, 5, .inl t_many)), (a_t_much, .inl (cT 4, 5, .inr (.inr (.inl t_much))))] Hh) (hR0 : va_P (dC, dI) vwCl [(a_p1, .inr (11, [.ref a_p1_text, .int p1_tokens, .int p1_stores, .int p1_mostSpoons, .ref a_p1_firsts, .ref a_p1_kinds, .ref a_p1_values, .ref a_p1_parts, .ref a_p1_lastParts])), (a_p2, .inr (4, [.int p2_cauldrons, .ref a_p2_isBroth, .ref a_p2_low, .ref a_p2_high, .ref a_p2_contents, .ref a_p2_storesIn, .int p2_spells, .ref a_p2_texts, .ref a_p2_cooked, .int p2_cookedSoFar, .int p2_storesSoFar])), (a_t_before, .inr (5, [.ref a_t_before_many, .ref a_t_before_much])), (a_t_now, .inr (5, [.ref a_t_now_many, .ref a_t_now_much])), (a_p1_kinds, .inl (cT 0, 24, .inl p1_kinds)), (a_p1_values, .inl (cT 0, 24, .inl p1_values)), (a_p2_isBroth, .inl (cT 1, 6, .inl p2_isBroth)), (a_p2_low, .inl (cT 0, 6, .inl p2_low)), (a_p2_high, .inl (cT 0, 6, .inl p2_high))] Hh) (hD0 : va_D (fun _ => True) [(a_t, .inr (6, [.ref a_t_now, .ref a_t_storesIn, .int t_boilsAt, .int t_cause, .int t_causeDetail, .ref a_t_before, .ref a_t_isBroth, .ref a_t_many, .ref a_t_much, .int t_spoons])), (a_t_before_many, .inl (cT 0, 6, .inl t_before_many)), (a_t_now_many, .inl (cT 0, 6, .inl t_now_many)), (a_t_before_much, .inl (cT 4, 6, .inr (.inr (.inl t_before_much)))), (a_t_now_much, .inl (cT 4, 6, .inr (.inr (.inl t_now_much)))), (a_t_storesIn, .inl (cT 0, 6, .inl t_storesIn)), (a_t_isBroth, .inl (cT 1, 5, .inl t_isBroth)), (a_t_many, .inl (cT 0, 5, .inl t_many)), (a_t_much, .inl (cT 4, 5, .inr (.inr (.inl t_much))))]) (hN0 : ∀ (k : Nat) (q : Nat × va_E), ([(a_p1, .inr (11, [.ref a_p1_text, .int p1_tokens, .int p1_stores, .int p1_mostSpoons, .ref a_p1_firsts, .ref a_p1_kinds, .ref a_p1_values, .ref a_p1_parts, .ref a_p1_lastParts])), (a_p2, .inr (4, [.int p2_cauldrons, .ref a_p2_isBroth, .ref a_p2_low, .ref a_p2_high, .ref a_p2_contents, .ref a_p2_storesIn, .int p2_spells, .ref a_p2_texts, .ref a_p2_cooked, .int p2_cookedSoFar, .int p2_storesSoFar])), (a_t_before, .inr (5, [.ref a_t_before_many, .ref a_t_before_much])), (a_t_now, .inr (5, [.ref a_t_now_many, .ref a_t_now_much])), (a_p1_kinds, .inl (cT 0, 24, .inl p1_kinds)), (a_p1_values, .inl (cT 0, 24, .inl p1_values)), (a_p2_isBroth, .inl (cT 1, 6, .inl p2_isBroth)), (a_p2_low, .inl (cT 0, 6, .inl p2_low)), (a_p2_high, .inl (cT 0, 6, .inl p2_high))] : va_W)[k]? = some q → ¬ va_A [(a_t, .inr (6, [.ref a_t_now, .ref a_t_storesIn, .int t_boilsAt, .int t_cause, .int t_causeDetail, .ref a_t_before, .ref a_t_isBroth, .ref a_t_many, .ref a_t_much, .int t_spoons])), (a_t_before_many, .inl (cT 0, 6, .inl t_before_many)), (a_t_now_many, .inl (cT 0, 6, .inl t_now_many)), (a_t_before_much, .inl (cT 4, 6, .inr (.inr (.inl t_before_much)))), (a_t_now_much, .inl (cT 4, 6, .inr (.inr (.inl t_now_much)))), (a_t_storesIn, .inl (cT 0, 6, .inl t_storesIn)), (a_t_isBroth, .inl (cT 1, 5, .inl t_isBroth)), (a_t_many, .inl (cT 0, 5, .inl t_many)), (a_t_much, .inl (cT 4, 5, .inr (.inr (.inl t_much))))] Hh.size q.1) : Met l yX2_goesOn (wA yX2_goesOn cX2_goesOn 4 (some .boolean)) ({ frames := 4, cells := 0, slots := 0, locals := 90 } : Room) (PK dC dI cT [.ref a_t, .ref a_p1, .ref a_p2] Hh) (va_Qi (fun x (_ : Unit) => x = o.1) (fun _ t => va_P (dC, dI) vwCl [(a_t, .inr (6, [.ref a_t_now, .ref a_t_storesIn, .int o.2.1, .int o.2.2.1, .int o.2.2.2.1, .ref a_t_before, .ref a_t_isBroth, .ref a_t_many, .ref a_t_much, .int o.2.2.2.2.1])), (a_t_before_many, .inl (cT 0, 6, .inl o.2.2.2.2.2.1)), (a_t_now_many, .inl (cT 0, 6, .inl o.2.2.2.2.2.2.1)), (a_t_before_much, .inl (cT 4, 6, .inr (.inr (.inl o.2.2.2.2.2.2.2.1)))), (a_t_now_much, .inl (cT 4, 6, .inr (.inr (.inl o.2.2.2.2.2.2.2.2.1)))), (a_t_storesIn, .inl (cT 0, 6, .inl o.2.2.2.2.2.2.2.2.2.1)), (a_t_isBroth, .inl (cT 1, 5, .inl o.2.2.2.2.2.2.2.2.2.2.1)), (a_t_many, .inl (cT 0, 5, .inl o.2.2.2.2.2.2.2.2.2.2.2.1)), (a_t_much, .inl (cT 4, 5, .inr (.inr (.inl o.2.2.2.2.2.2.2.2.2.2.2.2))))] t.heap) (va_A [(a_t, .inr (6, [.ref a_t_now, .ref a_t_storesIn, .int t_boilsAt, .int t_cause, .int t_causeDetail, .ref a_t_before, .ref a_t_isBroth, .ref a_t_many, .ref a_t_much, .int t_spoons])), (a_t_before_many, .inl (cT 0, 6, .inl t_before_many)), (a_t_now_many, .inl (cT 0, 6, .inl t_now_many)), (a_t_before_much, .inl (cT 4, 6, .inr (.inr (.inl t_before_much)))), (a_t_now_much, .inl (cT 4, 6, .inr (.inr (.inl t_now_much)))), (a_t_storesIn, .inl (cT 0, 6, .inl t_storesIn)), (a_t_isBroth, .inl (cT 1, 5, .inl t_isBroth)), (a_t_many, .inl (cT 0, 5, .inl t_many)), (a_t_much, .inl (cT 4, 5, .inr (.inr (.inl t_much))))] Hh.size)) 0 0 (va_A [(a_t, .inr (6, [.ref a_t_now, .ref a_t_storesIn, .int t_boilsAt, .int t_cause, .int t_causeDetail, .ref a_t_before, .ref a_t_isBroth, .ref a_t_many, .ref a_t_much, .int t_spoons])), (a_t_before_many, .inl (cT 0, 6, .inl t_before_many)), (a_t_now_many, .inl (cT 0, 6, .inl t_now_many)), (a_t_before_much, .inl (cT 4, 6, .inr (.inr (.inl t_before_much)))), (a_t_now_much, .inl (cT 4, 6, .inr (.inr (.inl t_now_much)))), (a_t_storesIn, .inl (cT 0, 6, .inl t_storesIn)), (a_t_isBroth, .inl (cT 1, 5, .inl t_isBroth)), (a_t_many, .inl (cT 0, 5, .inl t_many)), (a_t_much, .inl (cT 4, 5, .inr (.inr (.inl t_much))))] Hh.size) := by
  refine Met.ofW (cc := cX2_goesOn) (maxL := 4) (ret := (some .boolean)) (by decide) rfl ?_
  intro p e s m args below meth c s₁ B hml hv
  obtain ⟨rfl, hH, hK⟩ := hv
  subst hH
  have hx := B.exec
  have hb := B.bytes
  have hr := B.returns
  have hta : ∀ w ∈ ALLW, w.before [.ref a_t, .ref a_p1, .ref a_p2].toArray s = true := fun w hw => atoms_spec (ws := wA yX2_goesOn cX2_goesOn 4 (some .boolean)) B.pre w (List.mem_cons_of_mem _ hw)
  have hown : s.vm.findClass RX2 = some m.cls := findClass_of_methodNamed B.named
  have hlocks := B.notSynchronized
  have hD := hD0.self (sz := s.heap.size)
  have hNA := hN0
  generalize hAe : va_A [(a_t, .inr (6, [.ref a_t_now, .ref a_t_storesIn, .int t_boilsAt, .int t_cause, .int t_causeDetail, .ref a_t_before, .ref a_t_isBroth, .ref a_t_many, .ref a_t_much, .int t_spoons])), (a_t_before_many, .inl (cT 0, 6, .inl t_before_many)), (a_t_now_many, .inl (cT 0, 6, .inl t_now_many)), (a_t_before_much, .inl (cT 4, 6, .inr (.inr (.inl t_before_much)))), (a_t_now_much, .inl (cT 4, 6, .inr (.inr (.inl t_now_much)))), (a_t_storesIn, .inl (cT 0, 6, .inl t_storesIn)), (a_t_isBroth, .inl (cT 1, 5, .inl t_isBroth)), (a_t_many, .inl (cT 0, 5, .inl t_many)), (a_t_much, .inl (cT 4, 5, .inr (.inr (.inl t_much))))] s.heap.size = A at hD hNA ⊢
  have hP := hP0
  have hA : ∀ q : Nat, s.heap.size ≤ q → A q := fun q h => by rw [← hAe]; exact Or.inr h
  have hS : va_S A s.heap s.heap [] := va_S.rf
  have hl := lv_entry [.ref a_t, .ref a_p1, .ref a_p2] (n := 4) (Nat.le_of_ble_eq_true rfl)
  rw [lg_entry_eq]
  generalize (lg_sl [.ref a_t, .ref a_p1, .ref a_p2] ++ List.replicate (4 - (lg_sl [.ref a_t, .ref a_p1, .ref a_p2]).length) Slot.unset).toArray = ls at hl ⊢
  have hl : lv_has ls 4 [(0, .ref a_t), (1, .ref a_p1), (2, .ref a_p2)] := hl
  obtain ⟨Q, hQ⟩ : ∃ Q, Q = MQ below (va_Qi (fun x (_ : Unit) => x = o.1) (fun _ t => va_P (dC, dI) vwCl [(a_t, .inr (6, [.ref a_t_now, .ref a_t_storesIn, .int o.2.1, .int o.2.2.1, .int o.2.2.2.1, .ref a_t_before, .ref a_t_isBroth, .ref a_t_many, .ref a_t_much, .int o.2.2.2.2.1])), (a_t_before_many, .inl (cT 0, 6, .inl o.2.2.2.2.2.1)), (a_t_now_many, .inl (cT 0, 6, .inl o.2.2.2.2.2.2.1)), (a_t_before_much, .inl (cT 4, 6, .inr (.inr (.inl o.2.2.2.2.2.2.2.1)))), (a_t_now_much, .inl (cT 4, 6, .inr (.inr (.inl o.2.2.2.2.2.2.2.2.1)))), (a_t_storesIn, .inl (cT 0, 6, .inl o.2.2.2.2.2.2.2.2.2.1)), (a_t_isBroth, .inl (cT 1, 5, .inl o.2.2.2.2.2.2.2.2.2.2.1)), (a_t_many, .inl (cT 0, 5, .inl o.2.2.2.2.2.2.2.2.2.2.2.1)), (a_t_much, .inl (cT 4, 5, .inr (.inr (.inl o.2.2.2.2.2.2.2.2.2.2.2.2))))] t.heap) A) [.ref a_t, .ref a_p1, .ref a_p2].toArray s 0 0 A := ⟨_, rfl⟩
  rw [← hQ]
  have wB_44 : ∀ (n_44 : Nat), ∀ (t_before_many_44 : Nat → Int32) (t_before_much_44 : Nat → UInt32) (t_isBroth_44 : Nat → Int32) (t_many_44 : Nat → Int32) (t_much_44 : Nat → UInt32) (t_now_many_44 : Nat → Int32) (t_now_much_44 : Nat → UInt32) (t_storesIn_44 : Nat → Int32) (t_cause_44 : Int32) (t_causeDetail_44 : Int32) (t_spoons_44 : Int32) (x3_44 : Int32) (H : Heap) (locs : List Loc) (ls : Array Slot), g_X2_goesOn_b44 p1_tokens p1_kinds p1_values p2_isBroth p2_low p2_high n_44 t_before_many_44 t_before_much_44 t_isBroth_44 t_many_44 t_much_44 t_now_many_44 t_now_much_44 t_storesIn_44 t_cause_44 t_causeDetail_44 t_spoons_44 x3_44 = some o → va_P (dC, dI) vwCl [(a_t, .inr (6, [.ref a_t_now, .ref a_t_storesIn, .int (-1), .int t_cause_44, .int t_causeDetail_44, .ref a_t_before, .ref a_t_isBroth, .ref a_t_many, .ref a_t_much, .int t_spoons_44])), (a_t_before_many, .inl (cT 0, 6, .inl t_before_many_44)), (a_t_now_many, .inl (cT 0, 6, .inl t_now_many_44)), (a_t_before_much, .inl (cT 4, 6, .inr (.inr (.inl t_before_much_44)))), (a_t_now_much, .inl (cT 4, 6, .inr (.inr (.inl t_now_much_44)))), (a_t_storesIn, .inl (cT 0, 6, .inl t_storesIn_44)), (a_t_isBroth, .inl (cT 1, 5, .inl t_isBroth_44)), (a_t_many, .inl (cT 0, 5, .inl t_many_44)), (a_t_much, .inl (cT 4, 5, .inr (.inr (.inl t_much_44))))] H → va_D A [(a_t, .inr (6, [.ref a_t_now, .ref a_t_storesIn, .int (-1), .int t_cause_44, .int t_causeDetail_44, .ref a_t_before, .ref a_t_isBroth, .ref a_t_many, .ref a_t_much, .int t_spoons_44])), (a_t_before_many, .inl (cT 0, 6, .inl t_before_many_44)), (a_t_now_many, .inl (cT 0, 6, .inl t_now_many_44)), (a_t_before_much, .inl (cT 4, 6, .inr (.inr (.inl t_before_much_44)))), (a_t_now_much, .inl (cT 4, 6, .inr (.inr (.inl t_now_much_44)))), (a_t_storesIn, .inl (cT 0, 6, .inl t_storesIn_44)), (a_t_isBroth, .inl (cT 1, 5, .inl t_isBroth_44)), (a_t_many, .inl (cT 0, 5, .inl t_many_44)), (a_t_much, .inl (cT 4, 5, .inr (.inr (.inl t_much_44))))] → va_S A s.heap H locs → lv_has ls 4 [(0, .ref a_t), (1, .ref a_p1), (2, .ref a_p2), (3, .int x3_44)] → W p l e ({ frames := 4, cells := 0, slots := 0, locals := 90 } : Room) s m [.ref a_t, .ref a_p1, .ref a_p2].toArray below meth c H locs 0 0 Q (F0 m 44 ls []) := by
    intro n_44
    induction n_44 with
    | zero =>
      intro t_before_many_44 t_before_much_44 t_isBroth_44 t_many_44 t_much_44 t_now_many_44 t_now_much_44 t_storesIn_44 t_cause_44 t_causeDetail_44 t_spoons_44 x3_44 H locs ls h hP hD hS hl
      simp [g_X2_goesOn_b44] at h
    | succ n_44 ih_44 =>
      intro t_before_many_44 t_before_much_44 t_isBroth_44 t_many_44 t_much_44 t_now_many_44 t_now_much_44 t_storesIn_44 t_cause_44 t_causeDetail_44 t_spoons_44 x3_44 H locs ls h hP hD hS hl
      rw [g_X2_goesOn_b44] at h
      refine lv_iload_n hx hb dX2_goesOn_44 rfl (lv_at hl 3 rfl) ?_
      refine lv_aload_n hx hb dX2_goesOn_45 rfl (lv_at hl 1 rfl) ?_
      refine va_get (D := (dC, dI)) (ci := 11) (v := .int p1_tokens) (C := RX8) (T := TX8) (N := 9) hx hb hta inX8w hown hK (rk hR0 hNA hS) 0 rfl rfl 1 (by decide) (hta _ lk_X2_52) (fun _ h9 => h9) rfl dX2_goesOn_46 ?_
      refine lv_icmp_ge (tgt := 85) hx hb dX2_goesOn_49 (by decide) (fun c0 => ?_) (fun c0 => ?_)
      · have h := (if_pos c0).symm.trans h
        refine lv_iconst (v := 1) hx hb dX2_goesOn_85 (by decide) ?_
        have ho := Option.some.inj h
        rw [hQ]
        exact W.zret (ty := .boolean) (v := 1) hx hb hr rfl (fun t ht hW => ⟨⟨1, (), rfl, by rw [← ho], by show va_P (dC, dI) vwCl _ t.heap; rw [ht, ← ho]; exact hP⟩, hS.F ht⟩) hS.2.2 dX2_goesOn_86
      · have h := (if_neg c0).symm.trans h
        refine lv_aload_n hx hb dX2_goesOn_52 rfl (lv_at hl 0 rfl) ?_
        refine lv_aload_n hx hb dX2_goesOn_53 rfl (lv_at hl 1 rfl) ?_
        refine va_get (D := (dC, dI)) (ci := 11) (v := .ref a_p1_kinds) (C := RX8) (T := TX8) (N := 9) hx hb hta inX8w hown hK (rk hR0 hNA hS) 0 rfl rfl 5 (by decide) (hta _ lk_X2_57) (fun _ h9 => h9) rfl dX2_goesOn_54 ?_
        refine lv_iload_n hx hb dX2_goesOn_57 rfl (lv_at hl 3 rfl) ?_
        obtain ⟨hc, h⟩ := gc_some h
        refine va_iald hx hb hK (rk hR0 hNA hS) 4 0 rfl rfl (inb_in hc) dX2_goesOn_58 ?_
        refine lv_aload_n hx hb dX2_goesOn_59 rfl (lv_at hl 1 rfl) ?_
        refine va_get (D := (dC, dI)) (ci := 11) (v := .ref a_p1_values) (C := RX8) (T := TX8) (N := 9) hx hb hta inX8w hown hK (rk hR0 hNA hS) 0 rfl rfl 6 (by decide) (hta _ lk_X2_60) (fun _ h9 => h9) rfl dX2_goesOn_60 ?_
        refine lv_iload_n hx hb dX2_goesOn_63 rfl (lv_at hl 3 rfl) ?_
        obtain ⟨hc, h⟩ := gc_some h
        refine va_iald hx hb hK (rk hR0 hNA hS) 5 0 rfl rfl (inb_in hc) dX2_goesOn_64 ?_
        refine lv_aload_n hx hb dX2_goesOn_65 rfl (lv_at hl 2 rfl) ?_
        obtain ⟨r2, hq, h⟩ := gb_some h
        refine cxI (X2 := [(a_t, .inr (6, [.ref a_t_now, .ref a_t_storesIn, .int (-1), .int r2.2.1, .int r2.2.2.1, .ref a_t_before, .ref a_t_isBroth, .ref a_t_many, .ref a_t_much, .int r2.2.2.2.1])), (a_t_before_many, .inl (cT 0, 6, .inl t_before_many_44)), (a_t_now_many, .inl (cT 0, 6, .inl r2.2.2.2.2.1)), (a_t_before_much, .inl (cT 4, 6, .inr (.inr (.inl t_before_much_44)))), (a_t_now_much, .inl (cT 4, 6, .inr (.inr (.inl r2.2.2.2.2.2.1)))), (a_t_storesIn, .inl (cT 0, 6, .inl r2.2.2.2.2.2.2.2.2.2)), (a_t_isBroth, .inl (cT 1, 5, .inl r2.2.2.2.2.2.2.1)), (a_t_many, .inl (cT 0, 5, .inl r2.2.2.2.2.2.2.2.1)), (a_t_much, .inl (cT 4, 5, .inr (.inr (.inl r2.2.2.2.2.2.2.2.2.1))))]) (va_runV (As := [.int (p1_kinds x3_44.toNatClampNeg), .int (p1_values x3_44.toNatClampNeg), .ref a_p2]) (rest := []) ⟨hx, hb, hml, hown, hta⟩ (c_X2_goesToken l dC dI cT hq (hP.sub (ws' := [(a_t, .inr (6, [.ref a_t_now, .ref a_t_storesIn, .int (-1), .int t_cause_44, .int t_causeDetail_44, .ref a_t_before, .ref a_t_isBroth, .ref a_t_many, .ref a_t_much, .int t_spoons_44])), (a_t_now_many, .inl (cT 0, 6, .inl t_now_many_44)), (a_t_now_much, .inl (cT 4, 6, .inr (.inr (.inl t_now_much_44)))), (a_t_isBroth, .inl (cT 1, 5, .inl t_isBroth_44)), (a_t_many, .inl (cT 0, 5, .inl t_many_44)), (a_t_much, .inl (cT 4, 5, .inr (.inr (.inl t_much_44)))), (a_t_storesIn, .inl (cT 0, 6, .inl t_storesIn_44))]) [0, 2, 4, 6, 7, 8, 5] rfl) ((va_P.app hP (rk hR0 hNA hS)).sub (ws' := [(a_p2, .inr (4, [.int p2_cauldrons, .ref a_p2_isBroth, .ref a_p2_low, .ref a_p2_high, .ref a_p2_contents, .ref a_p2_storesIn, .int p2_spells, .ref a_p2_texts, .ref a_p2_cooked, .int p2_cookedSoFar, .int p2_storesSoFar])), (a_p2_isBroth, .inl (cT 1, 6, .inl p2_isBroth)), (a_t_now, .inr (5, [.ref a_t_now_many, .ref a_t_now_much])), (a_p2_low, .inl (cT 0, 6, .inl p2_low)), (a_p2_high, .inl (cT 0, 6, .inl p2_high))]) [10, 15, 12, 16, 17] rfl) (ds hD [0, 2, 4, 6, 7, 8, 5] (by decide) rfl) (nac hP hD [0, 2, 4, 6, 7, 8, 5] rfl (va_free hD hS hA [0, 2, 4, 6, 7, 8, 5] rfl) hNA [.inl 1, .inl 6, .inl 3, .inl 7, .inl 8] rfl rfl)) (cV hta lm_X2_63 md_X2_goesToken ⟨(Nat.le_of_ble_eq_true rfl), (Nat.le_of_ble_eq_true rfl)⟩) ⟨fbK, va_recv hK hP (ci := 6) (q0 := 0) rfl rfl, fun U hU hW => ⟨rfl, hU, va_K.moved hW.alike hK⟩⟩ rfl rfl hl.1 rfl (lv_room (Nat.le_of_ble_eq_true rfl)) dX2_goesOn_66 ⟨(Nat.le_of_ble_eq_true rfl), (Nat.le_of_ble_eq_true rfl)⟩) hS hA hP hD [0, 2, 4, 6, 7, 8, 5] rfl [.inl 0, .inr 1, .inl 1, .inr 3, .inl 2, .inl 6, .inl 3, .inl 4, .inl 5] rfl rfl rfl (fun H locs hP hD hS => ?_)
        refine lv_if_ne (tgt := 79) hx hb dX2_goesOn_69 (by decide) (fun c0 => ?_) (fun c0 => ?_)
        · have h := (if_neg c0).symm.trans h
          obtain ⟨v3, e_v3⟩ : ∃ y : Int32, y = x3_44 + 1 := ⟨_, rfl⟩
          have h := gl_use e_v3 h
          refine lv_iinc (v := v3) (lv' := [(3, .int v3), (0, .ref a_t), (1, .ref a_p1), (2, .ref a_p2)]) hx hb dX2_goesOn_79 hl (k := 3) rfl (by rw [e_v3]; rfl) (by decide) rfl (fun ls hl => ?_)
          refine lv_goto (tgt := 44) hx hb dX2_goesOn_82 (by decide) ?_
          exact ih_44 t_before_many_44 t_before_much_44 r2.2.2.2.2.2.2.1 r2.2.2.2.2.2.2.2.1 r2.2.2.2.2.2.2.2.2.1 r2.2.2.2.2.1 r2.2.2.2.2.2.1 r2.2.2.2.2.2.2.2.2.2 r2.2.1 r2.2.2.1 r2.2.2.2.1 v3 _ _ _ h hP hD hS (lv_sub hl [1, 2, 3, 0] rfl)
        · have h := (if_pos c0).symm.trans h
          refine lv_aload_n hx hb dX2_goesOn_72 rfl (lv_at hl 0 rfl) ?_
          refine lv_iload_n hx hb dX2_goesOn_73 rfl (lv_at hl 3 rfl) ?_
          refine va_put (D := (dC, dI)) (ci := 6) (v := .int x3_44) (ty := .int) (C := RX2) (T := TX2) (N := 10) hx hb hta inX2w tyX2 tyX2_ok nmX2 hown hK hP hD hS 0 rfl rfl 2 (by decide) (hta _ lk_X2_49) (fun _ h9 => h9) rfl (by decide +kernel) rfl rfl (Nat.le_of_ble_eq_true rfl) dX2_goesOn_74 (fun H locs hP hD hS => ?_)
          have hP : va_P (dC, dI) vwCl [(a_t, .inr (6, [.ref a_t_now, .ref a_t_storesIn, .int x3_44, .int r2.2.1, .int r2.2.2.1, .ref a_t_before, .ref a_t_isBroth, .ref a_t_many, .ref a_t_much, .int r2.2.2.2.1])), (a_t_before_many, .inl (cT 0, 6, .inl t_before_many_44)), (a_t_now_many, .inl (cT 0, 6, .inl r2.2.2.2.2.1)), (a_t_before_much, .inl (cT 4, 6, .inr (.inr (.inl t_before_much_44)))), (a_t_now_much, .inl (cT 4, 6, .inr (.inr (.inl r2.2.2.2.2.2.1)))), (a_t_storesIn, .inl (cT 0, 6, .inl r2.2.2.2.2.2.2.2.2.2)), (a_t_isBroth, .inl (cT 1, 5, .inl r2.2.2.2.2.2.2.1)), (a_t_many, .inl (cT 0, 5, .inl r2.2.2.2.2.2.2.2.1)), (a_t_much, .inl (cT 4, 5, .inr (.inr (.inl r2.2.2.2.2.2.2.2.2.1))))] H := hP
          have hD : va_D A [(a_t, .inr (6, [.ref a_t_now, .ref a_t_storesIn, .int x3_44, .int r2.2.1, .int r2.2.2.1, .ref a_t_before, .ref a_t_isBroth, .ref a_t_many, .ref a_t_much, .int r2.2.2.2.1])), (a_t_before_many, .inl (cT 0, 6, .inl t_before_many_44)), (a_t_now_many, .inl (cT 0, 6, .inl r2.2.2.2.2.1)), (a_t_before_much, .inl (cT 4, 6, .inr (.inr (.inl t_before_much_44)))), (a_t_now_much, .inl (cT 4, 6, .inr (.inr (.inl r2.2.2.2.2.2.1)))), (a_t_storesIn, .inl (cT 0, 6, .inl r2.2.2.2.2.2.2.2.2.2)), (a_t_isBroth, .inl (cT 1, 5, .inl r2.2.2.2.2.2.2.1)), (a_t_many, .inl (cT 0, 5, .inl r2.2.2.2.2.2.2.2.1)), (a_t_much, .inl (cT 4, 5, .inr (.inr (.inl r2.2.2.2.2.2.2.2.2.1))))] := hD
          refine lv_iconst (v := 0) hx hb dX2_goesOn_77 (by decide) ?_
          have ho := Option.some.inj h
          rw [hQ]
          exact W.zret (ty := .boolean) (v := 0) hx hb hr rfl (fun t ht hW => ⟨⟨0, (), rfl, by rw [← ho], by show va_P (dC, dI) vwCl _ t.heap; rw [ht, ← ho]; exact hP⟩, hS.F ht⟩) hS.2.2 dX2_goesOn_78
  have wB_13 : ∀ (n_13 : Nat), ∀ (t_before_many_13 : Nat → Int32) (t_before_much_13 : Nat → UInt32) (t_storesIn_13 : Nat → Int32) (x3_13 : Int32) (H : Heap) (locs : List Loc) (ls : Array Slot), g_X2_goesOn_b13 t_cause t_causeDetail p1_tokens t_now_many t_now_much p1_kinds p1_values p2_isBroth t_isBroth t_many t_much p2_low p2_high n_13 t_before_many_13 t_before_much_13 t_storesIn_13 x3_13 = some o → va_P (dC, dI) vwCl [(a_t, .inr (6, [.ref a_t_now, .ref a_t_storesIn, .int t_boilsAt, .int t_cause, .int t_causeDetail, .ref a_t_before, .ref a_t_isBroth, .ref a_t_many, .ref a_t_much, .int t_spoons])), (a_t_before_many, .inl (cT 0, 6, .inl t_before_many_13)), (a_t_now_many, .inl (cT 0, 6, .inl t_now_many)), (a_t_before_much, .inl (cT 4, 6, .inr (.inr (.inl t_before_much_13)))), (a_t_now_much, .inl (cT 4, 6, .inr (.inr (.inl t_now_much)))), (a_t_storesIn, .inl (cT 0, 6, .inl t_storesIn_13)), (a_t_isBroth, .inl (cT 1, 5, .inl t_isBroth)), (a_t_many, .inl (cT 0, 5, .inl t_many)), (a_t_much, .inl (cT 4, 5, .inr (.inr (.inl t_much))))] H → va_D A [(a_t, .inr (6, [.ref a_t_now, .ref a_t_storesIn, .int t_boilsAt, .int t_cause, .int t_causeDetail, .ref a_t_before, .ref a_t_isBroth, .ref a_t_many, .ref a_t_much, .int t_spoons])), (a_t_before_many, .inl (cT 0, 6, .inl t_before_many_13)), (a_t_now_many, .inl (cT 0, 6, .inl t_now_many)), (a_t_before_much, .inl (cT 4, 6, .inr (.inr (.inl t_before_much_13)))), (a_t_now_much, .inl (cT 4, 6, .inr (.inr (.inl t_now_much)))), (a_t_storesIn, .inl (cT 0, 6, .inl t_storesIn_13)), (a_t_isBroth, .inl (cT 1, 5, .inl t_isBroth)), (a_t_many, .inl (cT 0, 5, .inl t_many)), (a_t_much, .inl (cT 4, 5, .inr (.inr (.inl t_much))))] → va_S A s.heap H locs → lv_has ls 4 [(0, .ref a_t), (1, .ref a_p1), (2, .ref a_p2), (3, .int x3_13)] → W p l e ({ frames := 4, cells := 0, slots := 0, locals := 90 } : Room) s m [.ref a_t, .ref a_p1, .ref a_p2].toArray below meth c H locs 0 0 Q (F0 m 13 ls []) := by
    intro n_13
    induction n_13 with
    | zero =>
      intro t_before_many_13 t_before_much_13 t_storesIn_13 x3_13 H locs ls h hP hD hS hl
      simp [g_X2_goesOn_b13] at h
    | succ n_13 ih_13 =>
      intro t_before_many_13 t_before_much_13 t_storesIn_13 x3_13 H locs ls h hP hD hS hl
      rw [g_X2_goesOn_b13] at h
      refine lv_iload_n hx hb dX2_goesOn_13 rfl (lv_at hl 3 rfl) ?_
      refine lv_bipush (v := 6) hx hb dX2_goesOn_14 (by decide) ?_
      refine lv_icmp_ge (tgt := 32) hx hb dX2_goesOn_16 (by decide) (fun c0 => ?_) (fun c0 => ?_)
      · have h := (if_pos c0).symm.trans h
        refine lv_aload_n hx hb dX2_goesOn_32 rfl (lv_at hl 0 rfl) ?_
        refine lv_iconst (v := 0) hx hb dX2_goesOn_33 (by decide) ?_
        refine va_put (D := (dC, dI)) (ci := 6) (v := .int 0) (ty := .int) (C := RX2) (T := TX2) (N := 10) hx hb hta inX2w tyX2 tyX2_ok nmX2 hown hK hP hD hS 0 rfl rfl 9 (by decide) (hta _ lk_X2_45) (fun _ h9 => h9) rfl (by decide +kernel) rfl rfl (Nat.le_of_ble_eq_true rfl) dX2_goesOn_34 (fun H locs hP hD hS => ?_)
        have hP : va_P (dC, dI) vwCl [(a_t, .inr (6, [.ref a_t_now, .ref a_t_storesIn, .int t_boilsAt, .int t_cause, .int t_causeDetail, .ref a_t_before, .ref a_t_isBroth, .ref a_t_many, .ref a_t_much, .int 0])), (a_t_before_many, .inl (cT 0, 6, .inl t_before_many_13)), (a_t_now_many, .inl (cT 0, 6, .inl t_now_many)), (a_t_before_much, .inl (cT 4, 6, .inr (.inr (.inl t_before_much_13)))), (a_t_now_much, .inl (cT 4, 6, .inr (.inr (.inl t_now_much)))), (a_t_storesIn, .inl (cT 0, 6, .inl t_storesIn_13)), (a_t_isBroth, .inl (cT 1, 5, .inl t_isBroth)), (a_t_many, .inl (cT 0, 5, .inl t_many)), (a_t_much, .inl (cT 4, 5, .inr (.inr (.inl t_much))))] H := hP
        have hD : va_D A [(a_t, .inr (6, [.ref a_t_now, .ref a_t_storesIn, .int t_boilsAt, .int t_cause, .int t_causeDetail, .ref a_t_before, .ref a_t_isBroth, .ref a_t_many, .ref a_t_much, .int 0])), (a_t_before_many, .inl (cT 0, 6, .inl t_before_many_13)), (a_t_now_many, .inl (cT 0, 6, .inl t_now_many)), (a_t_before_much, .inl (cT 4, 6, .inr (.inr (.inl t_before_much_13)))), (a_t_now_much, .inl (cT 4, 6, .inr (.inr (.inl t_now_much)))), (a_t_storesIn, .inl (cT 0, 6, .inl t_storesIn_13)), (a_t_isBroth, .inl (cT 1, 5, .inl t_isBroth)), (a_t_many, .inl (cT 0, 5, .inl t_many)), (a_t_much, .inl (cT 4, 5, .inr (.inr (.inl t_much))))] := hD
        refine lv_aload_n hx hb dX2_goesOn_37 rfl (lv_at hl 0 rfl) ?_
        refine lv_iconst (v := -1) hx hb dX2_goesOn_38 (by decide) ?_
        refine va_put (D := (dC, dI)) (ci := 6) (v := .int (-1)) (ty := .int) (C := RX2) (T := TX2) (N := 10) hx hb hta inX2w tyX2 tyX2_ok nmX2 hown hK hP hD hS 0 rfl rfl 2 (by decide) (hta _ lk_X2_49) (fun _ h9 => h9) rfl (by decide +kernel) rfl rfl (Nat.le_of_ble_eq_true rfl) dX2_goesOn_39 (fun H locs hP hD hS => ?_)
        have hP : va_P (dC, dI) vwCl [(a_t, .inr (6, [.ref a_t_now, .ref a_t_storesIn, .int (-1), .int t_cause, .int t_causeDetail, .ref a_t_before, .ref a_t_isBroth, .ref a_t_many, .ref a_t_much, .int 0])), (a_t_before_many, .inl (cT 0, 6, .inl t_before_many_13)), (a_t_now_many, .inl (cT 0, 6, .inl t_now_many)), (a_t_before_much, .inl (cT 4, 6, .inr (.inr (.inl t_before_much_13)))), (a_t_now_much, .inl (cT 4, 6, .inr (.inr (.inl t_now_much)))), (a_t_storesIn, .inl (cT 0, 6, .inl t_storesIn_13)), (a_t_isBroth, .inl (cT 1, 5, .inl t_isBroth)), (a_t_many, .inl (cT 0, 5, .inl t_many)), (a_t_much, .inl (cT 4, 5, .inr (.inr (.inl t_much))))] H := hP
        have hD : va_D A [(a_t, .inr (6, [.ref a_t_now, .ref a_t_storesIn, .int (-1), .int t_cause, .int t_causeDetail, .ref a_t_before, .ref a_t_isBroth, .ref a_t_many, .ref a_t_much, .int 0])), (a_t_before_many, .inl (cT 0, 6, .inl t_before_many_13)), (a_t_now_many, .inl (cT 0, 6, .inl t_now_many)), (a_t_before_much, .inl (cT 4, 6, .inr (.inr (.inl t_before_much_13)))), (a_t_now_much, .inl (cT 4, 6, .inr (.inr (.inl t_now_much)))), (a_t_storesIn, .inl (cT 0, 6, .inl t_storesIn_13)), (a_t_isBroth, .inl (cT 1, 5, .inl t_isBroth)), (a_t_many, .inl (cT 0, 5, .inl t_many)), (a_t_much, .inl (cT 4, 5, .inr (.inr (.inl t_much))))] := hD
        refine lv_iconst (v := 0) hx hb dX2_goesOn_42 (by decide) ?_
        refine lv_istore_n (lv' := [(3, .int 0), (0, .ref a_t), (1, .ref a_p1), (2, .ref a_p2)]) hx hb dX2_goesOn_43 rfl hl (by decide) rfl (fun ls hl => ?_)
        exact wB_44 100 t_before_many_13 t_before_much_13 t_isBroth t_many t_much t_now_many t_now_much t_storesIn_13 t_cause t_causeDetail 0 0 _ _ _ h hP hD hS (lv_sub hl [1, 2, 3, 0] rfl)
      · have h := (if_neg c0).symm.trans h
        refine lv_aload_n hx hb dX2_goesOn_19 rfl (lv_at hl 0 rfl) ?_
        refine va_get (D := (dC, dI)) (ci := 6) (v := .ref a_t_storesIn) (C := RX2) (T := TX2) (N := 10) hx hb hta inX2w hown hK hP 0 rfl rfl 1 (by decide) (hta _ lk_X2_18) (fun _ h9 => h9) rfl dX2_goesOn_20 ?_
        refine lv_iload_n hx hb dX2_goesOn_23 rfl (lv_at hl 3 rfl) ?_
        refine lv_iconst (v := 0) hx hb dX2_goesOn_24 (by decide) ?_
        obtain ⟨hc, h⟩ := gc_some h
        refine va_iast hx hb hK hP hD hS 5 0 rfl rfl (inb_in hc) dX2_goesOn_25 (fun H locs hP hD hS => ?_)
        have hP : va_P (dC, dI) vwCl [(a_t, .inr (6, [.ref a_t_now, .ref a_t_storesIn, .int t_boilsAt, .int t_cause, .int t_causeDetail, .ref a_t_before, .ref a_t_isBroth, .ref a_t_many, .ref a_t_much, .int t_spoons])), (a_t_before_many, .inl (cT 0, 6, .inl t_before_many_13)), (a_t_now_many, .inl (cT 0, 6, .inl t_now_many)), (a_t_before_much, .inl (cT 4, 6, .inr (.inr (.inl t_before_much_13)))), (a_t_now_much, .inl (cT 4, 6, .inr (.inr (.inl t_now_much)))), (a_t_storesIn, .inl (cT 0, 6, .inl (upd t_storesIn_13 x3_13.toNatClampNeg 0))), (a_t_isBroth, .inl (cT 1, 5, .inl t_isBroth)), (a_t_many, .inl (cT 0, 5, .inl t_many)), (a_t_much, .inl (cT 4, 5, .inr (.inr (.inl t_much))))] H := hP
        have hD : va_D A [(a_t, .inr (6, [.ref a_t_now, .ref a_t_storesIn, .int t_boilsAt, .int t_cause, .int t_causeDetail, .ref a_t_before, .ref a_t_isBroth, .ref a_t_many, .ref a_t_much, .int t_spoons])), (a_t_before_many, .inl (cT 0, 6, .inl t_before_many_13)), (a_t_now_many, .inl (cT 0, 6, .inl t_now_many)), (a_t_before_much, .inl (cT 4, 6, .inr (.inr (.inl t_before_much_13)))), (a_t_now_much, .inl (cT 4, 6, .inr (.inr (.inl t_now_much)))), (a_t_storesIn, .inl (cT 0, 6, .inl (upd t_storesIn_13 x3_13.toNatClampNeg 0))), (a_t_isBroth, .inl (cT 1, 5, .inl t_isBroth)), (a_t_many, .inl (cT 0, 5, .inl t_many)), (a_t_much, .inl (cT 4, 5, .inr (.inr (.inl t_much))))] := hD
        obtain ⟨v4, e_v4⟩ : ∃ y : Int32, y = x3_13 + 1 := ⟨_, rfl⟩
        have h := gl_use e_v4 h
        refine lv_iinc (v := v4) (lv' := [(3, .int v4), (0, .ref a_t), (1, .ref a_p1), (2, .ref a_p2)]) hx hb dX2_goesOn_26 hl (k := 3) rfl (by rw [e_v4]; rfl) (by decide) rfl (fun ls hl => ?_)
        refine lv_goto (tgt := 13) hx hb dX2_goesOn_29 (by decide) ?_
        exact ih_13 t_before_many_13 t_before_much_13 (upd t_storesIn_13 x3_13.toNatClampNeg 0) v4 _ _ _ h hP hD hS (lv_sub hl [1, 2, 3, 0] rfl)
  unfold g_X2_goesOn at h
  refine lv_aload_n hx hb dX2_goesOn_0 rfl (lv_at hl 0 rfl) ?_
  refine va_get (D := (dC, dI)) (ci := 6) (v := .ref a_t_before) (C := RX2) (T := TX2) (N := 10) hx hb hta inX2w hown hK hP 0 rfl rfl 5 (by decide) (hta _ lk_X2_22) (fun _ h9 => h9) rfl dX2_goesOn_1 ?_
  refine lv_aload_n hx hb dX2_goesOn_4 rfl (lv_at hl 0 rfl) ?_
  refine va_get (D := (dC, dI)) (ci := 6) (v := .ref a_t_now) (C := RX2) (T := TX2) (N := 10) hx hb hta inX2w hown hK hP 0 rfl rfl 0 (by decide) (hta _ lk_X2_12) (fun _ h9 => h9) rfl dX2_goesOn_5 ?_
  obtain ⟨r1, hq, h⟩ := gb_some h
  refine cxV (X2 := [(a_t, .inr (6, [.ref a_t_now, .ref a_t_storesIn, .int t_boilsAt, .int t_cause, .int t_causeDetail, .ref a_t_before, .ref a_t_isBroth, .ref a_t_many, .ref a_t_much, .int t_spoons])), (a_t_before_many, .inl (cT 0, 6, .inl r1.1)), (a_t_now_many, .inl (cT 0, 6, .inl t_now_many)), (a_t_before_much, .inl (cT 4, 6, .inr (.inr (.inl r1.2)))), (a_t_now_much, .inl (cT 4, 6, .inr (.inr (.inl t_now_much)))), (a_t_storesIn, .inl (cT 0, 6, .inl t_storesIn)), (a_t_isBroth, .inl (cT 1, 5, .inl t_isBroth)), (a_t_many, .inl (cT 0, 5, .inl t_many)), (a_t_much, .inl (cT 4, 5, .inr (.inr (.inl t_much))))]) (va_runV (As := [.ref a_t_now]) (rest := []) ⟨hx, hb, hml, hown, hta⟩ (c_X1_copy l dC dI cT hq (hP.sub (ws' := [(a_t_before_many, .inl (cT 0, 6, .inl t_before_many)), (a_t_before_much, .inl (cT 4, 6, .inr (.inr (.inl t_before_much))))]) [1, 3] rfl) ((va_P.app hP (rk hR0 hNA hS)).sub (ws' := [(a_t_before, .inr (5, [.ref a_t_before_many, .ref a_t_before_much])), (a_t_now, .inr (5, [.ref a_t_now_many, .ref a_t_now_much])), (a_t_now_many, .inl (cT 0, 6, .inl t_now_many)), (a_t_now_much, .inl (cT 4, 6, .inr (.inr (.inl t_now_much))))]) [11, 12, 2, 4] rfl) (ds hD [1, 3] (by decide) rfl) (nac hP hD [1, 3] rfl (va_free hD hS hA [1, 3] rfl) hNA [.inl 2, .inl 3, .inr 2, .inr 4] rfl rfl)) (cV hta lm_X2_41 md_X1_copy ⟨(Nat.le_of_ble_eq_true rfl), (Nat.le_of_ble_eq_true rfl)⟩) ⟨fbK, va_recv hK (rk hR0 hNA hS) (ci := 5) (q0 := 2) rfl rfl, fun U hU hW => ⟨rfl, hU, va_K.moved hW.alike hK⟩⟩ rfl rfl hl.1 rfl (lv_room (Nat.le_of_ble_eq_true rfl)) dX2_goesOn_8 ⟨(Nat.le_of_ble_eq_true rfl), (Nat.le_of_ble_eq_true rfl)⟩) hS hA hP hD [1, 3] rfl [.inr 0, .inl 0, .inr 2, .inl 1, .inr 4, .inr 5, .inr 6, .inr 7, .inr 8] rfl rfl rfl (fun H locs hP hD hS => ?_)
  refine lv_iconst (v := 0) hx hb dX2_goesOn_11 (by decide) ?_
  refine lv_istore_n (lv' := [(3, .int 0), (0, .ref a_t), (1, .ref a_p1), (2, .ref a_p2)]) hx hb dX2_goesOn_12 rfl hl (by decide) rfl (fun ls hl => ?_)
  exact wB_13 100 r1.1 r1.2 t_storesIn 0 _ _ _ h hP hD hS (lv_sub hl [1, 2, 3, 0] rfl)
set_option maxHeartbeats 4000000 in
set_option maxRecDepth 100000 in
theorem c_X2_changes (l : Launch) (dC : Nat → ClassId) (dI : Nat → Nat → Nat) (cT : Nat → ClassId) {Hh : Heap} {a_t : Nat} {a_t_now : Nat} {a_t_before : Nat} {a_t_now_many : Nat} {a_t_before_many : Nat} {a_t_now_much : Nat} {a_t_before_much : Nat} {a_t_storesIn : Nat} {a_t_isBroth : Nat} {a_t_many : Nat} {a_t_much : Nat} {t_now_many : Nat → Int32} {t_before_many : Nat → Int32} {t_now_much : Nat → UInt32} {t_before_much : Nat → UInt32} {t_boilsAt : Int32} {t_cause : Int32} {t_causeDetail : Int32} {t_spoons : Int32} {o : Int32} (h : g_X2_changes t_now_many t_before_many t_now_much t_before_much = some o) (hR0 : va_P (dC, dI) vwCl [(a_t, .inr (6, [.ref a_t_now, .ref a_t_storesIn, .int t_boilsAt, .int t_cause, .int t_causeDetail, .ref a_t_before, .ref a_t_isBroth, .ref a_t_many, .ref a_t_much, .int t_spoons])), (a_t_now, .inr (5, [.ref a_t_now_many, .ref a_t_now_much])), (a_t_before, .inr (5, [.ref a_t_before_many, .ref a_t_before_much])), (a_t_now_many, .inl (cT 0, 6, .inl t_now_many)), (a_t_before_many, .inl (cT 0, 6, .inl t_before_many)), (a_t_now_much, .inl (cT 4, 6, .inr (.inr (.inl t_now_much)))), (a_t_before_much, .inl (cT 4, 6, .inr (.inr (.inl t_before_much))))] Hh) : Met l yX2_changes (wA yX2_changes cX2_changes 1 (some .int)) ({ frames := 3, cells := 0, slots := 0, locals := 65 } : Room) (PK dC dI cT [.ref a_t] Hh) (va_Qi (fun x (_ : Unit) => x = o) (fun _ t => t.heap = Hh) (va_A [] Hh.size)) 0 0 (va_A [] Hh.size) := by
  refine Met.ofW (cc := cX2_changes) (maxL := 1) (ret := (some .int)) (by decide) rfl ?_
  intro p e s m args below meth c s₁ B hml hv
  obtain ⟨rfl, hH, hK⟩ := hv
  subst hH
  have hx := B.exec
  have hb := B.bytes
  have hr := B.returns
  have hta : ∀ w ∈ ALLW, w.before [.ref a_t].toArray s = true := fun w hw => atoms_spec (ws := wA yX2_changes cX2_changes 1 (some .int)) B.pre w (List.mem_cons_of_mem _ hw)
  have hown : s.vm.findClass RX2 = some m.cls := findClass_of_methodNamed B.named
  have hlocks := B.notSynchronized
  generalize hAe : va_A [] s.heap.size = A
  have hA : ∀ q : Nat, s.heap.size ≤ q → A q := fun q h => by rw [← hAe]; exact Or.inr h
  have hS : va_S A s.heap s.heap [] := va_S.rf
  have hl := lv_entry [.ref a_t] (n := 1) (Nat.le_of_ble_eq_true rfl)
  rw [lg_entry_eq]
  generalize (lg_sl [.ref a_t] ++ List.replicate (1 - (lg_sl [.ref a_t]).length) Slot.unset).toArray = ls at hl ⊢
  have hl : lv_has ls 1 [(0, .ref a_t)] := hl
  unfold g_X2_changes at h
  refine lv_aload_n hx hb dX2_changes_0 rfl (lv_at hl 0 rfl) ?_
  refine va_get (D := (dC, dI)) (ci := 6) (v := .ref a_t_now) (C := RX2) (T := TX2) (N := 10) hx hb hta inX2w hown hK hR0 0 rfl rfl 0 (by decide) (hta _ lk_X2_12) (fun _ h9 => h9) rfl dX2_changes_1 ?_
  refine lv_aload_n hx hb dX2_changes_4 rfl (lv_at hl 0 rfl) ?_
  refine va_get (D := (dC, dI)) (ci := 6) (v := .ref a_t_before) (C := RX2) (T := TX2) (N := 10) hx hb hta inX2w hown hK hR0 0 rfl rfl 5 (by decide) (hta _ lk_X2_22) (fun _ h9 => h9) rfl dX2_changes_5 ?_
  obtain ⟨r1, hq, h⟩ := gb_some h
  refine crI (va_runV (As := [.ref a_t_before]) (rest := []) ⟨hx, hb, hml, hown, hta⟩ (c_X1_differences l dC dI cT hq (hR0.sub (ws' := [(a_t_now, .inr (5, [.ref a_t_now_many, .ref a_t_now_much])), (a_t_before, .inr (5, [.ref a_t_before_many, .ref a_t_before_much])), (a_t_now_many, .inl (cT 0, 6, .inl t_now_many)), (a_t_before_many, .inl (cT 0, 6, .inl t_before_many)), (a_t_now_much, .inl (cT 4, 6, .inr (.inr (.inl t_now_much)))), (a_t_before_much, .inl (cT 4, 6, .inr (.inr (.inl t_before_much))))]) [1, 2, 3, 4, 5, 6] rfl)) (cV hta lm_X2_67 md_X1_differences ⟨(Nat.le_of_ble_eq_true rfl), (Nat.le_of_ble_eq_true rfl)⟩) ⟨fbK, va_recv hK hR0 (ci := 5) (q0 := 1) rfl rfl, fun U hU hW => ⟨rfl, hU, va_K.moved hW.alike hK⟩⟩ rfl rfl hl.1 rfl (lv_room (Nat.le_of_ble_eq_true rfl)) dX2_changes_8 ⟨(Nat.le_of_ble_eq_true rfl), (Nat.le_of_ble_eq_true rfl)⟩) hS hA (fun locs hS => ?_)
  have ho := Option.some.inj h
  exact W.iret (v := r1) hx hb hr (fun t ht hW => ⟨⟨r1, (), rfl, by rw [← ho], ht⟩, hS.F ht⟩) hS.2.2 dX2_changes_11
