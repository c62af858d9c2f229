set_option maxHeartbeats 4000000 in
set_option maxRecDepth 100000 in
theorem c_X9_lay (l : Launch) (dC : Nat → ClassId) (dI : Nat → Nat → Nat) (cT : Nat → ClassId) {Hh : Heap} {a_t : Nat} {a_t_isBroth : Nat} {a_t_low : Nat} {a_t_high : Nat} {a_t_storeIsBroth : Nat} {a_t_storeLow : Nat} {a_t_storeHigh : Nat} {t_spoons : Int32} {t_isBroth : Nat → Int32} {t_low : Nat → Int64} {t_high : Nat → Int64} {p1 : Int32} {p2 : Int64} {p3 : Int64} {t_faultAt : Int32} {t_stores : Int32} {o : Int32 × Int32 × (Nat → Int32) × (Nat → Int64) × (Nat → Int64)} (h : g_X9_lay t_spoons t_isBroth t_low t_high p1 p2 p3 = some o) (hP0 : va_P (dC, dI) vwCl [(a_t, .inr (12, [.int t_faultAt, .int t_stores, .ref a_t_storeIsBroth, .ref a_t_storeLow, .ref a_t_storeHigh, .ref a_t_isBroth, .ref a_t_low, .ref a_t_high, .int t_spoons])), (a_t_isBroth, .inl (cT 1, 5, .inl t_isBroth)), (a_t_low, .inl (cT 3, 5, .inr (.inl t_low))), (a_t_high, .inl (cT 3, 5, .inr (.inl t_high)))] Hh) (hD0 : va_D (fun _ => True) [(a_t, .inr (12, [.int t_faultAt, .int t_stores, .ref a_t_storeIsBroth, .ref a_t_storeLow, .ref a_t_storeHigh, .ref a_t_isBroth, .ref a_t_low, .ref a_t_high, .int t_spoons])), (a_t_isBroth, .inl (cT 1, 5, .inl t_isBroth)), (a_t_low, .inl (cT 3, 5, .inr (.inl t_low))), (a_t_high, .inl (cT 3, 5, .inr (.inl t_high)))]) : Met l yX9_lay (wA yX9_lay cX9_lay 6 (some .boolean)) ({ frames := 0, cells := 0, slots := 0, locals := 0 } : Room) (PK dC dI cT [.ref a_t, .int p1, .long p2, .long p3] Hh) (va_Qi (fun x (_ : Unit) => x = o.1) (fun _ t => va_P (dC, dI) vwCl [(a_t, .inr (12, [.int t_faultAt, .int t_stores, .ref a_t_storeIsBroth, .ref a_t_storeLow, .ref a_t_storeHigh, .ref a_t_isBroth, .ref a_t_low, .ref a_t_high, .int o.2.1])), (a_t_isBroth, .inl (cT 1, 5, .inl o.2.2.1)), (a_t_low, .inl (cT 3, 5, .inr (.inl o.2.2.2.1))), (a_t_high, .inl (cT 3, 5, .inr (.inl o.2.2.2.2)))] t.heap) (va_A [(a_t, .inr (12, [.int t_faultAt, .int t_stores, .ref a_t_storeIsBroth, .ref a_t_storeLow, .ref a_t_storeHigh, .ref a_t_isBroth, .ref a_t_low, .ref a_t_high, .int t_spoons])), (a_t_isBroth, .inl (cT 1, 5, .inl t_isBroth)), (a_t_low, .inl (cT 3, 5, .inr (.inl t_low))), (a_t_high, .inl (cT 3, 5, .inr (.inl t_high)))] Hh.size)) 0 0 (va_A [(a_t, .inr (12, [.int t_faultAt, .int t_stores, .ref a_t_storeIsBroth, .ref a_t_storeLow, .ref a_t_storeHigh, .ref a_t_isBroth, .ref a_t_low, .ref a_t_high, .int t_spoons])), (a_t_isBroth, .inl (cT 1, 5, .inl t_isBroth)), (a_t_low, .inl (cT 3, 5, .inr (.inl t_low))), (a_t_high, .inl (cT 3, 5, .inr (.inl t_high)))] Hh.size) := by
  refine Met.ofW (cc := cX9_lay) (maxL := 6) (ret := (some .boolean)) (by decide) rfl ?_
  intro p e s m args below meth c s₁ B hml hv
  obtain ⟨rfl, hH, hK⟩ := hv
  subst hH
  have hx := B.exec
  have hb := B.bytes
  have hr := B.returns
  have hta : ∀ w ∈ ALLW, w.before [.ref a_t, .int p1, .long p2, .long p3].toArray s = true := fun w hw => atoms_spec (ws := wA yX9_lay cX9_lay 6 (some .boolean)) B.pre w (List.mem_cons_of_mem _ hw)
  have hown : s.vm.findClass RX9 = some m.cls := findClass_of_methodNamed B.named
  have hlocks := B.notSynchronized
  have hD := hD0.self (sz := s.heap.size)
  generalize hAe : va_A [(a_t, .inr (12, [.int t_faultAt, .int t_stores, .ref a_t_storeIsBroth, .ref a_t_storeLow, .ref a_t_storeHigh, .ref a_t_isBroth, .ref a_t_low, .ref a_t_high, .int t_spoons])), (a_t_isBroth, .inl (cT 1, 5, .inl t_isBroth)), (a_t_low, .inl (cT 3, 5, .inr (.inl t_low))), (a_t_high, .inl (cT 3, 5, .inr (.inl t_high)))] s.heap.size = A at hD ⊢
  have hP := hP0
  have hA : ∀ q : Nat, s.heap.size ≤ q → A q := fun q h => by rw [← hAe]; exact Or.inr h
  have hS : va_S A s.heap s.heap [] := va_S.rf
  have hl := lv_entry [.ref a_t, .int p1, .long p2, .long p3] (n := 6) (Nat.le_of_ble_eq_true rfl)
  rw [lg_entry_eq]
  generalize (lg_sl [.ref a_t, .int p1, .long p2, .long p3] ++ List.replicate (6 - (lg_sl [.ref a_t, .int p1, .long p2, .long p3]).length) Slot.unset).toArray = ls at hl ⊢
  have hl : lv_has ls 6 [(0, .ref a_t), (1, .int p1), (2, .long p2), (4, .long p3)] := hl
  unfold g_X9_lay at h
  refine lv_aload_n hx hb dX9_lay_0 rfl (lv_at hl 0 rfl) ?_
  refine va_get (D := (dC, dI)) (ci := 12) (v := .int t_spoons) (C := RX9) (T := TX9) (N := 9) hx hb hta inX9w hown hK hP 0 rfl rfl 8 (by decide) (hta _ lk_X9_31) (fun _ h9 => h9) rfl dX9_lay_1 ?_
  refine lv_if_lt (tgt := 15) hx hb dX9_lay_4 (by decide) (fun c0 => ?_) (fun c0 => ?_)
  · have h := (if_pos c0).symm.trans h
    refine lv_iconst (v := 0) hx hb dX9_lay_15 (by decide) ?_
    have ho := Option.some.inj h
    exact W.zret (ty := .boolean) (v := 0) hx hb hr rfl (fun t ht hW => ⟨⟨0, (), rfl, by rw [← ho], by show va_P (dC, dI) vwCl _ t.heap; rw [ht, ← ho]; exact hP⟩, hS.F ht⟩) hS.2.2 dX9_lay_16
  · have h := (if_neg c0).symm.trans h
    refine lv_aload_n hx hb dX9_lay_7 rfl (lv_at hl 0 rfl) ?_
    refine va_get (D := (dC, dI)) (ci := 12) (v := .int t_spoons) (C := RX9) (T := TX9) (N := 9) hx hb hta inX9w hown hK hP 0 rfl rfl 8 (by decide) (hta _ lk_X9_31) (fun _ h9 => h9) rfl dX9_lay_8 ?_
    refine lv_iconst (v := 5) hx hb dX9_lay_11 (by decide) ?_
    refine lv_icmp_lt (tgt := 17) hx hb dX9_lay_12 (by decide) (fun c0 => ?_) (fun c0 => ?_)
    · have h := (if_pos c0).symm.trans h
      refine lv_aload_n hx hb dX9_lay_17 rfl (lv_at hl 0 rfl) ?_
      refine va_get (D := (dC, dI)) (ci := 12) (v := .ref a_t_isBroth) (C := RX9) (T := TX9) (N := 9) hx hb hta inX9w hown hK hP 0 rfl rfl 5 (by decide) (hta _ lk_X9_22) (fun _ h9 => h9) rfl dX9_lay_18 ?_
      refine lv_aload_n hx hb dX9_lay_21 rfl (lv_at hl 0 rfl) ?_
      refine va_get (D := (dC, dI)) (ci := 12) (v := .int t_spoons) (C := RX9) (T := TX9) (N := 9) hx hb hta inX9w hown hK hP 0 rfl rfl 8 (by decide) (hta _ lk_X9_31) (fun _ h9 => h9) rfl dX9_lay_22 ?_
      refine lv_iload_n hx hb dX9_lay_25 rfl (lv_at hl 1 rfl) ?_
      obtain ⟨hc, h⟩ := gc_some h
      refine va_zast hx hb hK hP hD hS 1 1 rfl rfl (inb_in hc) dX9_lay_26 (fun H locs hP hD hS => ?_)
      have hP : va_P (dC, dI) vwCl [(a_t, .inr (12, [.int t_faultAt, .int t_stores, .ref a_t_storeIsBroth, .ref a_t_storeLow, .ref a_t_storeHigh, .ref a_t_isBroth, .ref a_t_low, .ref a_t_high, .int t_spoons])), (a_t_isBroth, .inl (cT 1, 5, .inl (upd t_isBroth t_spoons.toNatClampNeg (vp_nar .boolean p1)))), (a_t_low, .inl (cT 3, 5, .inr (.inl t_low))), (a_t_high, .inl (cT 3, 5, .inr (.inl t_high)))] H := hP
      have hD : va_D A [(a_t, .inr (12, [.int t_faultAt, .int t_stores, .ref a_t_storeIsBroth, .ref a_t_storeLow, .ref a_t_storeHigh, .ref a_t_isBroth, .ref a_t_low, .ref a_t_high, .int t_spoons])), (a_t_isBroth, .inl (cT 1, 5, .inl (upd t_isBroth t_spoons.toNatClampNeg (vp_nar .boolean p1)))), (a_t_low, .inl (cT 3, 5, .inr (.inl t_low))), (a_t_high, .inl (cT 3, 5, .inr (.inl t_high)))] := hD
      refine lv_aload_n hx hb dX9_lay_27 rfl (lv_at hl 0 rfl) ?_
      refine va_get (D := (dC, dI)) (ci := 12) (v := .ref a_t_low) (C := RX9) (T := TX9) (N := 9) hx hb hta inX9w hown hK hP 0 rfl rfl 6 (by decide) (hta _ lk_X9_25) (fun _ h9 => h9) rfl dX9_lay_28 ?_
      refine lv_aload_n hx hb dX9_lay_31 rfl (lv_at hl 0 rfl) ?_
      refine va_get (D := (dC, dI)) (ci := 12) (v := .int t_spoons) (C := RX9) (T := TX9) (N := 9) hx hb hta inX9w hown hK hP 0 rfl rfl 8 (by decide) (hta _ lk_X9_31) (fun _ h9 => h9) rfl dX9_lay_32 ?_
      refine lv_lload_n hx hb dX9_lay_35 rfl (lv_at hl 2 rfl) ?_
      obtain ⟨hc, h⟩ := gc_some h
      refine va_last hx hb hK hP hD hS 2 3 rfl rfl (inb_in hc) dX9_lay_36 (fun H locs hP hD hS => ?_)
      have hP : va_P (dC, dI) vwCl [(a_t, .inr (12, [.int t_faultAt, .int t_stores, .ref a_t_storeIsBroth, .ref a_t_storeLow, .ref a_t_storeHigh, .ref a_t_isBroth, .ref a_t_low, .ref a_t_high, .int t_spoons])), (a_t_isBroth, .inl (cT 1, 5, .inl (upd t_isBroth t_spoons.toNatClampNeg (vp_nar .boolean p1)))), (a_t_low, .inl (cT 3, 5, .inr (.inl (vp_updL t_low t_spoons.toNatClampNeg p2)))), (a_t_high, .inl (cT 3, 5, .inr (.inl t_high)))] H := hP
      have hD : va_D A [(a_t, .inr (12, [.int t_faultAt, .int t_stores, .ref a_t_storeIsBroth, .ref a_t_storeLow, .ref a_t_storeHigh, .ref a_t_isBroth, .ref a_t_low, .ref a_t_high, .int t_spoons])), (a_t_isBroth, .inl (cT 1, 5, .inl (upd t_isBroth t_spoons.toNatClampNeg (vp_nar .boolean p1)))), (a_t_low, .inl (cT 3, 5, .inr (.inl (vp_updL t_low t_spoons.toNatClampNeg p2)))), (a_t_high, .inl (cT 3, 5, .inr (.inl t_high)))] := hD
      refine lv_aload_n hx hb dX9_lay_37 rfl (lv_at hl 0 rfl) ?_
      refine va_get (D := (dC, dI)) (ci := 12) (v := .ref a_t_high) (C := RX9) (T := TX9) (N := 9) hx hb hta inX9w hown hK hP 0 rfl rfl 7 (by decide) (hta _ lk_X9_28) (fun _ h9 => h9) rfl dX9_lay_38 ?_
      refine lv_aload_n hx hb dX9_lay_41 rfl (lv_at hl 0 rfl) ?_
      refine va_get (D := (dC, dI)) (ci := 12) (v := .int t_spoons) (C := RX9) (T := TX9) (N := 9) hx hb hta inX9w hown hK hP 0 rfl rfl 8 (by decide) (hta _ lk_X9_31) (fun _ h9 => h9) rfl dX9_lay_42 ?_
      refine lv_lload hx hb dX9_lay_45 (lv_at hl 3 rfl) ?_
      obtain ⟨hc, h⟩ := gc_some h
      refine va_last hx hb hK hP hD hS 3 3 rfl rfl (inb_in hc) dX9_lay_47 (fun H locs hP hD hS => ?_)
      have hP : va_P (dC, dI) vwCl [(a_t, .inr (12, [.int t_faultAt, .int t_stores, .ref a_t_storeIsBroth, .ref a_t_storeLow, .ref a_t_storeHigh, .ref a_t_isBroth, .ref a_t_low, .ref a_t_high, .int t_spoons])), (a_t_isBroth, .inl (cT 1, 5, .inl (upd t_isBroth t_spoons.toNatClampNeg (vp_nar .boolean p1)))), (a_t_low, .inl (cT 3, 5, .inr (.inl (vp_updL t_low t_spoons.toNatClampNeg p2)))), (a_t_high, .inl (cT 3, 5, .inr (.inl (vp_updL t_high t_spoons.toNatClampNeg p3))))] H := hP
      have hD : va_D A [(a_t, .inr (12, [.int t_faultAt, .int t_stores, .ref a_t_storeIsBroth, .ref a_t_storeLow, .ref a_t_storeHigh, .ref a_t_isBroth, .ref a_t_low, .ref a_t_high, .int t_spoons])), (a_t_isBroth, .inl (cT 1, 5, .inl (upd t_isBroth t_spoons.toNatClampNeg (vp_nar .boolean p1)))), (a_t_low, .inl (cT 3, 5, .inr (.inl (vp_updL t_low t_spoons.toNatClampNeg p2)))), (a_t_high, .inl (cT 3, 5, .inr (.inl (vp_updL t_high t_spoons.toNatClampNeg p3))))] := hD
      refine lv_aload_n hx hb dX9_lay_48 rfl (lv_at hl 0 rfl) ?_
      refine lv_dup hx hb dX9_lay_49 rfl ?_
      refine va_get (D := (dC, dI)) (ci := 12) (v := .int t_spoons) (C := RX9) (T := TX9) (N := 9) hx hb hta inX9w hown hK hP 0 rfl rfl 8 (by decide) (hta _ lk_X9_31) (fun _ h9 => h9) rfl dX9_lay_50 ?_
      refine lv_iconst (v := 1) hx hb dX9_lay_53 (by decide) ?_
      refine lv_iadd hx hb dX9_lay_54 ?_
      refine lv_topi (fun v1 e_v1 => ?_)
      have h := gl_use e_v1 h
      refine va_put (D := (dC, dI)) (ci := 12) (v := .int v1) (ty := .int) (C := RX9) (T := TX9) (N := 9) hx hb hta inX9w tyX9 tyX9_ok nmX9 hown hK hP hD hS 0 rfl rfl 8 (by decide) (hta _ lk_X9_31) (fun _ h9 => h9) rfl (by decide +kernel) rfl rfl (Nat.le_of_ble_eq_true rfl) dX9_lay_55 (fun H locs hP hD hS => ?_)
      have hP : va_P (dC, dI) vwCl [(a_t, .inr (12, [.int t_faultAt, .int t_stores, .ref a_t_storeIsBroth, .ref a_t_storeLow, .ref a_t_storeHigh, .ref a_t_isBroth, .ref a_t_low, .ref a_t_high, .int v1])), (a_t_isBroth, .inl (cT 1, 5, .inl (upd t_isBroth t_spoons.toNatClampNeg (vp_nar .boolean p1)))), (a_t_low, .inl (cT 3, 5, .inr (.inl (vp_updL t_low t_spoons.toNatClampNeg p2)))), (a_t_high, .inl (cT 3, 5, .inr (.inl (vp_updL t_high t_spoons.toNatClampNeg p3))))] H := hP
      have hD : va_D A [(a_t, .inr (12, [.int t_faultAt, .int t_stores, .ref a_t_storeIsBroth, .ref a_t_storeLow, .ref a_t_storeHigh, .ref a_t_isBroth, .ref a_t_low, .ref a_t_high, .int v1])), (a_t_isBroth, .inl (cT 1, 5, .inl (upd t_isBroth t_spoons.toNatClampNeg (vp_nar .boolean p1)))), (a_t_low, .inl (cT 3, 5, .inr (.inl (vp_updL t_low t_spoons.toNatClampNeg p2)))), (a_t_high, .inl (cT 3, 5, .inr (.inl (vp_updL t_high t_spoons.toNatClampNeg p3))))] := hD
      refine lv_iconst (v := 1) hx hb dX9_lay_58 (by decide) ?_
      have ho := Option.some.inj h
      exact W.zret (ty := .boolean) (v := 1) hx hb hr rfl (fun t ht hW => ⟨⟨1, (), rfl, by rw [← ho], by show va_P (dC, dI) vwCl _ t.heap; rw [ht, ← ho]; exact hP⟩, hS.F ht⟩) hS.2.2 dX9_lay_59
    · have h := (if_neg c0).symm.trans h
      refine lv_iconst (v := 0) hx hb dX9_lay_15 (by decide) ?_
      have ho := Option.some.inj h
      exact W.zret (ty := .boolean) (v := 0) hx hb hr rfl (fun t ht hW => ⟨⟨0, (), rfl, by rw [← ho], by show va_P (dC, dI) vwCl _ t.heap; rw [ht, ← ho]; exact hP⟩, hS.F ht⟩) hS.2.2 dX9_lay_16
set_option maxHeartbeats 4000000 in
set_option maxRecDepth 100000 in
theorem c_X9_passesCast (l : Launch) (dC : Nat → ClassId) (dI : Nat → Nat → Nat) (cT : Nat → ClassId) {Hh : Heap} {a_t : Nat} {a_t_isBroth : Nat} {a_t_low : Nat} {a_t_high : Nat} {a_t_storeIsBroth : Nat} {a_t_storeLow : Nat} {a_t_storeHigh : Nat} {t_spoons : Int32} {t_isBroth : Nat → Int32} {t_low : Nat → Int64} {t_high : Nat → Int64} {p1 : Int32} {t_faultAt : Int32} {t_stores : Int32} {o : Int32 × (Nat → Int32) × (Nat → Int64) × (Nat → Int64)} (h : g_X9_passesCast t_spoons t_isBroth t_low t_high p1 = some o) (hP0 : va_P (dC, dI) vwCl [(a_t_isBroth, .inl (cT 1, 5, .inl t_isBroth)), (a_t_low, .inl (cT 3, 5, .inr (.inl t_low))), (a_t_high, .inl (cT 3, 5, .inr (.inl t_high)))] Hh) (hR0 : va_P (dC, dI) vwCl [(a_t, .inr (12, [.int t_faultAt, .int t_stores, .ref a_t_storeIsBroth, .ref a_t_storeLow, .ref a_t_storeHigh, .ref a_t_isBroth, .ref a_t_low, .ref a_t_high, .int t_spoons]))] Hh) (hD0 : va_D (fun _ => True) [(a_t_isBroth, .inl (cT 1, 5, .inl t_isBroth)), (a_t_low, .inl (cT 3, 5, .inr (.inl t_low))), (a_t_high, .inl (cT 3, 5, .inr (.inl t_high)))]) (hN0 : ∀ (k : Nat) (q : Nat × va_E), ([(a_t, .inr (12, [.int t_faultAt, .int t_stores, .ref a_t_storeIsBroth, .ref a_t_storeLow, .ref a_t_storeHigh, .ref a_t_isBroth, .ref a_t_low, .ref a_t_high, .int t_spoons]))] : va_W)[k]? = some q → ¬ va_A [(a_t_isBroth, .inl (cT 1, 5, .inl t_isBroth)), (a_t_low, .inl (cT 3, 5, .inr (.inl t_low))), (a_t_high, .inl (cT 3, 5, .inr (.inl t_high)))] Hh.size q.1) : Met l yX9_passesCast (wA yX9_passesCast cX9_passesCast 3 (some .boolean)) ({ frames := 0, cells := 0, slots := 0, locals := 0 } : Room) (PK dC dI cT [.ref a_t, .int p1] Hh) (va_Qi (fun x (_ : Unit) => x = o.1) (fun _ t => va_P (dC, dI) vwCl [(a_t_isBroth, .inl (cT 1, 5, .inl o.2.1)), (a_t_low, .inl (cT 3, 5, .inr (.inl o.2.2.1))), (a_t_high, .inl (cT 3, 5, .inr (.inl o.2.2.2)))] t.heap) (va_A [(a_t_isBroth, .inl (cT 1, 5, .inl t_isBroth)), (a_t_low, .inl (cT 3, 5, .inr (.inl t_low))), (a_t_high, .inl (cT 3, 5, .inr (.inl t_high)))] Hh.size)) 0 0 (va_A [(a_t_isBroth, .inl (cT 1, 5, .inl t_isBroth)), (a_t_low, .inl (cT 3, 5, .inr (.inl t_low))), (a_t_high, .inl (cT 3, 5, .inr (.inl t_high)))] Hh.size) := by
  refine Met.ofW (cc := cX9_passesCast) (maxL := 3) (ret := (some .boolean)) (by decide) rfl ?_
  intro p e s m args below meth c s₁ B hml hv
  obtain ⟨rfl, hH, hK⟩ := hv
  subst hH
  have hx := B.exec
  have hb := B.bytes
  have hr := B.returns
  have hta : ∀ w ∈ ALLW, w.before [.ref a_t, .int p1].toArray s = true := fun w hw => atoms_spec (ws := wA yX9_passesCast cX9_passesCast 3 (some .boolean)) B.pre w (List.mem_cons_of_mem _ hw)
  have hown : s.vm.findClass RX9 = some m.cls := findClass_of_methodNamed B.named
  have hlocks := B.notSynchronized
  have hD := hD0.self (sz := s.heap.size)
  have hNA := hN0
  generalize hAe : va_A [(a_t_isBroth, .inl (cT 1, 5, .inl t_isBroth)), (a_t_low, .inl (cT 3, 5, .inr (.inl t_low))), (a_t_high, .inl (cT 3, 5, .inr (.inl t_high)))] s.heap.size = A at hD hNA ⊢
  have hP := hP0
  have hA : ∀ q : Nat, s.heap.size ≤ q → A q := fun q h => by rw [← hAe]; exact Or.inr h
  have hS : va_S A s.heap s.heap [] := va_S.rf
  have hl := lv_entry [.ref a_t, .int p1] (n := 3) (Nat.le_of_ble_eq_true rfl)
  rw [lg_entry_eq]
  generalize (lg_sl [.ref a_t, .int p1] ++ List.replicate (3 - (lg_sl [.ref a_t, .int p1]).length) Slot.unset).toArray = ls at hl ⊢
  have hl : lv_has ls 3 [(0, .ref a_t), (1, .int p1)] := hl
  unfold g_X9_passesCast at h
  refine lv_aload_n hx hb dX9_passesCast_0 rfl (lv_at hl 0 rfl) ?_
  refine va_get (D := (dC, dI)) (ci := 12) (v := .int t_spoons) (C := RX9) (T := TX9) (N := 9) hx hb hta inX9w hown hK (rk hR0 hNA hS) 0 rfl rfl 8 (by decide) (hta _ lk_X9_31) (fun _ h9 => h9) rfl dX9_passesCast_1 ?_
  refine lv_iconst (v := 1) hx hb dX9_passesCast_4 (by decide) ?_
  refine lv_isub hx hb dX9_passesCast_5 ?_
  refine lv_topi (fun v1 e_v1 => ?_)
  have h := gl_use e_v1 h
  refine lv_istore_n (lv' := [(2, .int v1), (0, .ref a_t), (1, .int p1)]) hx hb dX9_passesCast_6 rfl hl (by decide) rfl (fun ls hl => ?_)
  refine lv_iload_n hx hb dX9_passesCast_7 rfl (lv_at hl 0 rfl) ?_
  refine lv_if_lt (tgt := 26) hx hb dX9_passesCast_8 (by decide) (fun c0 => ?_) (fun c0 => ?_)
  · have h := (if_pos c0).symm.trans h
    refine lv_iconst (v := 0) hx hb dX9_passesCast_26 (by decide) ?_
    have ho := Option.some.inj h
    exact W.zret (ty := .boolean) (v := 0) hx hb hr rfl (fun t ht hW => ⟨⟨0, (), rfl, by rw [← ho], by show va_P (dC, dI) vwCl _ t.heap; rw [ht, ← ho]; exact hP⟩, hS.F ht⟩) hS.2.2 dX9_passesCast_27
  · have h := (if_neg c0).symm.trans h
    refine lv_iload_n hx hb dX9_passesCast_11 rfl (lv_at hl 0 rfl) ?_
    refine lv_iconst (v := 5) hx hb dX9_passesCast_12 (by decide) ?_
    refine lv_icmp_ge (tgt := 26) hx hb dX9_passesCast_13 (by decide) (fun c0 => ?_) (fun c0 => ?_)
    · have h := (if_pos c0).symm.trans h
      refine lv_iconst (v := 0) hx hb dX9_passesCast_26 (by decide) ?_
      have ho := Option.some.inj h
      exact W.zret (ty := .boolean) (v := 0) hx hb hr rfl (fun t ht hW => ⟨⟨0, (), rfl, by rw [← ho], by show va_P (dC, dI) vwCl _ t.heap; rw [ht, ← ho]; exact hP⟩, hS.F ht⟩) hS.2.2 dX9_passesCast_27
    · have h := (if_neg c0).symm.trans h
      refine lv_aload_n hx hb dX9_passesCast_16 rfl (lv_at hl 1 rfl) ?_
      refine va_get (D := (dC, dI)) (ci := 12) (v := .ref a_t_isBroth) (C := RX9) (T := TX9) (N := 9) hx hb hta inX9w hown hK (rk hR0 hNA hS) 0 rfl rfl 5 (by decide) (hta _ lk_X9_22) (fun _ h9 => h9) rfl dX9_passesCast_17 ?_
      refine lv_iload_n hx hb dX9_passesCast_20 rfl (lv_at hl 0 rfl) ?_
      obtain ⟨hc, h⟩ := gc_some h
      refine va_zald hx hb hK hP 0 1 rfl rfl (inb_in hc) dX9_passesCast_21 ?_
      refine lv_iload_n hx hb dX9_passesCast_22 rfl (lv_at hl 2 rfl) ?_
      refine lv_icmp_ne (tgt := 28) hx hb dX9_passesCast_23 (by decide) (fun c0 => ?_) (fun c0 => ?_)
      · have h := (if_neg c0).symm.trans h
        refine lv_aload_n hx hb dX9_passesCast_28 rfl (lv_at hl 1 rfl) ?_
        refine va_get (D := (dC, dI)) (ci := 12) (v := .ref a_t_isBroth) (C := RX9) (T := TX9) (N := 9) hx hb hta inX9w hown hK (rk hR0 hNA hS) 0 rfl rfl 5 (by decide) (hta _ lk_X9_22) (fun _ h9 => h9) rfl dX9_passesCast_29 ?_
        refine lv_iload_n hx hb dX9_passesCast_32 rfl (lv_at hl 0 rfl) ?_
        refine lv_iload_n hx hb dX9_passesCast_33 rfl (lv_at hl 2 rfl) ?_
        obtain ⟨hc, h⟩ := gc_some h
        refine va_zast hx hb hK hP hD hS 0 1 rfl rfl (inb_in hc) dX9_passesCast_34 (fun H locs hP hD hS => ?_)
        have hP : va_P (dC, dI) vwCl [(a_t_isBroth, .inl (cT 1, 5, .inl (upd t_isBroth v1.toNatClampNeg (vp_nar .boolean p1)))), (a_t_low, .inl (cT 3, 5, .inr (.inl t_low))), (a_t_high, .inl (cT 3, 5, .inr (.inl t_high)))] H := hP
        have hD : va_D A [(a_t_isBroth, .inl (cT 1, 5, .inl (upd t_isBroth v1.toNatClampNeg (vp_nar .boolean p1)))), (a_t_low, .inl (cT 3, 5, .inr (.inl t_low))), (a_t_high, .inl (cT 3, 5, .inr (.inl t_high)))] := hD
        refine lv_aload_n hx hb dX9_passesCast_35 rfl (lv_at hl 1 rfl) ?_
        refine va_get (D := (dC, dI)) (ci := 12) (v := .ref a_t_low) (C := RX9) (T := TX9) (N := 9) hx hb hta inX9w hown hK (rk hR0 hNA hS) 0 rfl rfl 6 (by decide) (hta _ lk_X9_25) (fun _ h9 => h9) rfl dX9_passesCast_36 ?_
        refine lv_iload_n hx hb dX9_passesCast_39 rfl (lv_at hl 0 rfl) ?_
        refine lv_ldc2 (v := -99) hx hb hown (hta _ kc_X9_80) dX9_passesCast_40 ?_
        obtain ⟨hc, h⟩ := gc_some h
        refine va_last hx hb hK hP hD hS 1 3 rfl rfl (inb_in hc) dX9_passesCast_43 (fun H locs hP hD hS => ?_)
        have hP : va_P (dC, dI) vwCl [(a_t_isBroth, .inl (cT 1, 5, .inl (upd t_isBroth v1.toNatClampNeg (vp_nar .boolean p1)))), (a_t_low, .inl (cT 3, 5, .inr (.inl (vp_updL t_low v1.toNatClampNeg (-99 : Int64))))), (a_t_high, .inl (cT 3, 5, .inr (.inl t_high)))] H := hP
        have hD : va_D A [(a_t_isBroth, .inl (cT 1, 5, .inl (upd t_isBroth v1.toNatClampNeg (vp_nar .boolean p1)))), (a_t_low, .inl (cT 3, 5, .inr (.inl (vp_updL t_low v1.toNatClampNeg (-99 : Int64))))), (a_t_high, .inl (cT 3, 5, .inr (.inl t_high)))] := hD
        refine lv_aload_n hx hb dX9_passesCast_44 rfl (lv_at hl 1 rfl) ?_
        refine va_get (D := (dC, dI)) (ci := 12) (v := .ref a_t_high) (C := RX9) (T := TX9) (N := 9) hx hb hta inX9w hown hK (rk hR0 hNA hS) 0 rfl rfl 7 (by decide) (hta _ lk_X9_28) (fun _ h9 => h9) rfl dX9_passesCast_45 ?_
        refine lv_iload_n hx hb dX9_passesCast_48 rfl (lv_at hl 0 rfl) ?_
        refine lv_ldc2 (v := 99) hx hb hown (hta _ kc_X9_82) dX9_passesCast_49 ?_
        obtain ⟨hc, h⟩ := gc_some h
        refine va_last hx hb hK hP hD hS 2 3 rfl rfl (inb_in hc) dX9_passesCast_52 (fun H locs hP hD hS => ?_)
        have hP : va_P (dC, dI) vwCl [(a_t_isBroth, .inl (cT 1, 5, .inl (upd t_isBroth v1.toNatClampNeg (vp_nar .boolean p1)))), (a_t_low, .inl (cT 3, 5, .inr (.inl (vp_updL t_low v1.toNatClampNeg (-99 : Int64))))), (a_t_high, .inl (cT 3, 5, .inr (.inl (vp_updL t_high v1.toNatClampNeg (99 : Int64)))))] H := hP
        have hD : va_D A [(a_t_isBroth, .inl (cT 1, 5, .inl (upd t_isBroth v1.toNatClampNeg (vp_nar .boolean p1)))), (a_t_low, .inl (cT 3, 5, .inr (.inl (vp_updL t_low v1.toNatClampNeg (-99 : Int64))))), (a_t_high, .inl (cT 3, 5, .inr (.inl (vp_updL t_high v1.toNatClampNeg (99 : Int64)))))] := hD
        refine lv_iconst (v := 1) hx hb dX9_passesCast_53 (by decide) ?_
        have ho := Option.some.inj h
        exact W.zret (ty := .boolean) (v := 1) hx hb hr rfl (fun t ht hW => ⟨⟨1, (), rfl, by rw [← ho], by show va_P (dC, dI) vwCl _ t.heap; rw [ht, ← ho]; exact hP⟩, hS.F ht⟩) hS.2.2 dX9_passesCast_54
      · have h := (if_pos c0).symm.trans h
        refine lv_iconst (v := 0) hx hb dX9_passesCast_26 (by decide) ?_
        have ho := Option.some.inj h
        exact W.zret (ty := .boolean) (v := 0) hx hb hr rfl (fun t ht hW => ⟨⟨0, (), rfl, by rw [← ho], by show va_P (dC, dI) vwCl _ t.heap; rw [ht, ← ho]; exact hP⟩, hS.F ht⟩) hS.2.2 dX9_passesCast_27
set_option maxHeartbeats 4000000 in
set_option maxRecDepth 100000 in
theorem c_X9_passesStore (l : Launch) (dC : Nat → ClassId) (dI : Nat → Nat → Nat) (cT : Nat → ClassId) {Hh : Heap} {a_t : Nat} {a_p2 : Nat} {a_t_storeIsBroth : Nat} {a_t_isBroth : Nat} {a_t_storeLow : Nat} {a_t_low : Nat} {a_t_storeHigh : Nat} {a_t_high : Nat} {a_p2_isBroth : Nat} {a_p2_low : Nat} {a_p2_high : Nat} {a_p2_contents : Nat} {a_p2_storesIn : Nat} {a_p2_texts : Nat} {a_p2_cooked : Nat} {t_stores : Int32} {t_spoons : Int32} {t_storeIsBroth : Nat → Int32} {t_isBroth : Nat → Int32} {t_storeLow : Nat → Int64} {t_low : Nat → Int64} {t_storeHigh : Nat → Int64} {t_high : Nat → Int64} {p2_isBroth : Nat → Int32} {p2_low : Nat → Int32} {p2_high : Nat → Int32} {p1 : Int32} {t_faultAt : Int32} {p2_cauldrons : Int32} {p2_spells : Int32} {p2_cookedSoFar : Int32} {p2_storesSoFar : Int32} {o : Int32 × Int32 × Int32 × (Nat → Int32) × (Nat → Int64) × (Nat → Int64)} (h : g_X9_passesStore t_stores t_spoons t_storeIsBroth t_isBroth t_storeLow t_low t_storeHigh t_high p2_isBroth p2_low p2_high p1 = some o) (hP0 : va_P (dC, dI) vwCl [(a_t, .inr (12, [.int t_faultAt, .int t_stores, .ref a_t_storeIsBroth, .ref a_t_storeLow, .ref a_t_storeHigh, .ref a_t_isBroth, .ref a_t_low, .ref a_t_high, .int t_spoons])), (a_t_storeIsBroth, .inl (cT 1, 24, .inl t_storeIsBroth)), (a_t_storeLow, .inl (cT 3, 24, .inr (.inl t_storeLow))), (a_t_storeHigh, .inl (cT 3, 24, .inr (.inl t_storeHigh)))] Hh) (hR0 : va_P (dC, dI) vwCl [(a_p2, .inr (4, [.int p2_cauldrons, .ref a_p2_isBroth, .ref a_p2_low, .ref a_p2_high, .ref a_p2_contents, .ref a_p2_storesIn, .int p2_spells, .ref a_p2_texts, .ref a_p2_cooked, .int p2_cookedSoFar, .int p2_storesSoFar])), (a_t_isBroth, .inl (cT 1, 5, .inl t_isBroth)), (a_t_low, .inl (cT 3, 5, .inr (.inl t_low))), (a_t_high, .inl (cT 3, 5, .inr (.inl t_high))), (a_p2_isBroth, .inl (cT 1, 6, .inl p2_isBroth)), (a_p2_low, .inl (cT 0, 6, .inl p2_low)), (a_p2_high, .inl (cT 0, 6, .inl p2_high))] Hh) (hD0 : va_D (fun _ => True) [(a_t, .inr (12, [.int t_faultAt, .int t_stores, .ref a_t_storeIsBroth, .ref a_t_storeLow, .ref a_t_storeHigh, .ref a_t_isBroth, .ref a_t_low, .ref a_t_high, .int t_spoons])), (a_t_storeIsBroth, .inl (cT 1, 24, .inl t_storeIsBroth)), (a_t_storeLow, .inl (cT 3, 24, .inr (.inl t_storeLow))), (a_t_storeHigh, .inl (cT 3, 24, .inr (.inl t_storeHigh)))]) (hN0 : ∀ (k : Nat) (q : Nat × va_E), ([(a_p2, .inr (4, [.int p2_cauldrons, .ref a_p2_isBroth, .ref a_p2_low, .ref a_p2_high, .ref a_p2_contents, .ref a_p2_storesIn, .int p2_spells, .ref a_p2_texts, .ref a_p2_cooked, .int p2_cookedSoFar, .int p2_storesSoFar])), (a_t_isBroth, .inl (cT 1, 5, .inl t_isBroth)), (a_t_low, .inl (cT 3, 5, .inr (.inl t_low))), (a_t_high, .inl (cT 3, 5, .inr (.inl t_high))), (a_p2_isBroth, .inl (cT 1, 6, .inl p2_isBroth)), (a_p2_low, .inl (cT 0, 6, .inl p2_low)), (a_p2_high, .inl (cT 0, 6, .inl p2_high))] : va_W)[k]? = some q → ¬ va_A [(a_t, .inr (12, [.int t_faultAt, .int t_stores, .ref a_t_storeIsBroth, .ref a_t_storeLow, .ref a_t_storeHigh, .ref a_t_isBroth, .ref a_t_low, .ref a_t_high, .int t_spoons])), (a_t_storeIsBroth, .inl (cT 1, 24, .inl t_storeIsBroth)), (a_t_storeLow, .inl (cT 3, 24, .inr (.inl t_storeLow))), (a_t_storeHigh, .inl (cT 3, 24, .inr (.inl t_storeHigh)))] Hh.size q.1) : Met l yX9_passesStore (wA yX9_passesStore cX9_passesStore 4 (some .boolean)) ({ frames := 1, cells := 0, slots := 0, locals := 23 } : Room) (PK dC dI cT [.ref a_t, .int p1, .ref a_p2] Hh) (va_Qi (fun x (_ : Unit) => x = o.1) (fun _ t => va_P (dC, dI) vwCl [(a_t, .inr (12, [.int t_faultAt, .int o.2.1, .ref a_t_storeIsBroth, .ref a_t_storeLow, .ref a_t_storeHigh, .ref a_t_isBroth, .ref a_t_low, .ref a_t_high, .int o.2.2.1])), (a_t_storeIsBroth, .inl (cT 1, 24, .inl o.2.2.2.1)), (a_t_storeLow, .inl (cT 3, 24, .inr (.inl o.2.2.2.2.1))), (a_t_storeHigh, .inl (cT 3, 24, .inr (.inl o.2.2.2.2.2)))] t.heap) (va_A [(a_t, .inr (12, [.int t_faultAt, .int t_stores, .ref a_t_storeIsBroth, .ref a_t_storeLow, .ref a_t_storeHigh, .ref a_t_isBroth, .ref a_t_low, .ref a_t_high, .int t_spoons])), (a_t_storeIsBroth, .inl (cT 1, 24, .inl t_storeIsBroth)), (a_t_storeLow, .inl (cT 3, 24, .inr (.inl t_storeLow))), (a_t_storeHigh, .inl (cT 3, 24, .inr (.inl t_storeHigh)))] Hh.size)) 0 0 (va_A [(a_t, .inr (12, [.int t_faultAt, .int t_stores, .ref a_t_storeIsBroth, .ref a_t_storeLow, .ref a_t_storeHigh, .ref a_t_isBroth, .ref a_t_low, .ref a_t_high, .int t_spoons])), (a_t_storeIsBroth, .inl (cT 1, 24, .inl t_storeIsBroth)), (a_t_storeLow, .inl (cT 3, 24, .inr (.inl t_storeLow))), (a_t_storeHigh, .inl (cT 3, 24, .inr (.inl t_storeHigh)))] Hh.size) := by
  refine Met.ofW (cc := cX9_passesStore) (maxL := 4) (ret := (some .boolean)) (by decide) rfl ?_
  intro p e s m args below meth c s₁ B hml hv
  obtain ⟨rfl, hH, hK⟩ := hv
  subst hH
  have hx := B.exec
  have hb := B.bytes
  have hr := B.returns
  have hta : ∀ w ∈ ALLW, w.before [.ref a_t, .int p1, .ref a_p2].toArray s = true := fun w hw => atoms_spec (ws := wA yX9_passesStore cX9_passesStore 4 (some .boolean)) B.pre w (List.mem_cons_of_mem _ hw)
  have hown : s.vm.findClass RX9 = some m.cls := findClass_of_methodNamed B.named
  have hlocks := B.notSynchronized
  have hD := hD0.self (sz := s.heap.size)
  have hNA := hN0
  generalize hAe : va_A [(a_t, .inr (12, [.int t_faultAt, .int t_stores, .ref a_t_storeIsBroth, .ref a_t_storeLow, .ref a_t_storeHigh, .ref a_t_isBroth, .ref a_t_low, .ref a_t_high, .int t_spoons])), (a_t_storeIsBroth, .inl (cT 1, 24, .inl t_storeIsBroth)), (a_t_storeLow, .inl (cT 3, 24, .inr (.inl t_storeLow))), (a_t_storeHigh, .inl (cT 3, 24, .inr (.inl t_storeHigh)))] s.heap.size = A at hD hNA ⊢
  have hP := hP0
  have hA : ∀ q : Nat, s.heap.size ≤ q → A q := fun q h => by rw [← hAe]; exact Or.inr h
  have hS : va_S A s.heap s.heap [] := va_S.rf
  have hl := lv_entry [.ref a_t, .int p1, .ref a_p2] (n := 4) (Nat.le_of_ble_eq_true rfl)
  rw [lg_entry_eq]
  generalize (lg_sl [.ref a_t, .int p1, .ref a_p2] ++ List.replicate (4 - (lg_sl [.ref a_t, .int p1, .ref a_p2]).length) Slot.unset).toArray = ls at hl ⊢
  have hl : lv_has ls 4 [(0, .ref a_t), (1, .int p1), (2, .ref a_p2)] := hl
  unfold g_X9_passesStore at h
  refine lv_aload_n hx hb dX9_passesStore_0 rfl (lv_at hl 0 rfl) ?_
  refine va_get (D := (dC, dI)) (ci := 12) (v := .int t_spoons) (C := RX9) (T := TX9) (N := 9) hx hb hta inX9w hown hK hP 0 rfl rfl 8 (by decide) (hta _ lk_X9_31) (fun _ h9 => h9) rfl dX9_passesStore_1 ?_
  refine lv_iconst (v := 1) hx hb dX9_passesStore_4 (by decide) ?_
  refine lv_isub hx hb dX9_passesStore_5 ?_
  refine lv_topi (fun v1 e_v1 => ?_)
  have h := gl_use e_v1 h
  refine lv_istore_n (lv' := [(3, .int v1), (0, .ref a_t), (1, .int p1), (2, .ref a_p2)]) hx hb dX9_passesStore_6 rfl hl (by decide) rfl (fun ls hl => ?_)
  refine lv_iload_n hx hb dX9_passesStore_7 rfl (lv_at hl 0 rfl) ?_
  refine lv_if_lt (tgt := 32) hx hb dX9_passesStore_8 (by decide) (fun c0 => ?_) (fun c0 => ?_)
  · have h := (if_pos c0).symm.trans h
    refine lv_iconst (v := 0) hx hb dX9_passesStore_32 (by decide) ?_
    have ho := Option.some.inj h
    exact W.zret (ty := .boolean) (v := 0) hx hb hr rfl (fun t ht hW => ⟨⟨0, (), rfl, by rw [← ho], by show va_P (dC, dI) vwCl _ t.heap; rw [ht, ← ho]; exact hP⟩, hS.F ht⟩) hS.2.2 dX9_passesStore_33
  · have h := (if_neg c0).symm.trans h
    refine lv_iload_n hx hb dX9_passesStore_11 rfl (lv_at hl 0 rfl) ?_
    refine lv_iconst (v := 5) hx hb dX9_passesStore_12 (by decide) ?_
    refine lv_icmp_ge (tgt := 32) hx hb dX9_passesStore_13 (by decide) (fun c0 => ?_) (fun c0 => ?_)
    · have h := (if_pos c0).symm.trans h
      refine lv_iconst (v := 0) hx hb dX9_passesStore_32 (by decide) ?_
      have ho := Option.some.inj h
      exact W.zret (ty := .boolean) (v := 0) hx hb hr rfl (fun t ht hW => ⟨⟨0, (), rfl, by rw [← ho], by show va_P (dC, dI) vwCl _ t.heap; rw [ht, ← ho]; exact hP⟩, hS.F ht⟩) hS.2.2 dX9_passesStore_33
    · have h := (if_neg c0).symm.trans h
      refine lv_aload_n hx hb dX9_passesStore_16 rfl (lv_at hl 1 rfl) ?_
      refine va_get (D := (dC, dI)) (ci := 12) (v := .int t_stores) (C := RX9) (T := TX9) (N := 9) hx hb hta inX9w hown hK hP 0 rfl rfl 1 (by decide) (hta _ lk_X9_35) (fun _ h9 => h9) rfl dX9_passesStore_17 ?_
      refine lv_if_lt (tgt := 32) hx hb dX9_passesStore_20 (by decide) (fun c0 => ?_) (fun c0 => ?_)
      · have h := (if_pos c0).symm.trans h
        refine lv_iconst (v := 0) hx hb dX9_passesStore_32 (by decide) ?_
        have ho := Option.some.inj h
        exact W.zret (ty := .boolean) (v := 0) hx hb hr rfl (fun t ht hW => ⟨⟨0, (), rfl, by rw [← ho], by show va_P (dC, dI) vwCl _ t.heap; rw [ht, ← ho]; exact hP⟩, hS.F ht⟩) hS.2.2 dX9_passesStore_33
      · have h := (if_neg c0).symm.trans h
        refine lv_aload_n hx hb dX9_passesStore_23 rfl (lv_at hl 1 rfl) ?_
        refine va_get (D := (dC, dI)) (ci := 12) (v := .int t_stores) (C := RX9) (T := TX9) (N := 9) hx hb hta inX9w hown hK hP 0 rfl rfl 1 (by decide) (hta _ lk_X9_35) (fun _ h9 => h9) rfl dX9_passesStore_24 ?_
        refine lv_bipush (v := 24) hx hb dX9_passesStore_27 (by decide) ?_
        refine lv_icmp_lt (tgt := 34) hx hb dX9_passesStore_29 (by decide) (fun c0 => ?_) (fun c0 => ?_)
        · have h := (if_pos c0).symm.trans h
          refine lv_aload_n hx hb dX9_passesStore_34 rfl (lv_at hl 1 rfl) ?_
          refine lv_dup hx hb dX9_passesStore_35 rfl ?_
          refine va_get (D := (dC, dI)) (ci := 12) (v := .int t_spoons) (C := RX9) (T := TX9) (N := 9) hx hb hta inX9w hown hK hP 0 rfl rfl 8 (by decide) (hta _ lk_X9_31) (fun _ h9 => h9) rfl dX9_passesStore_36 ?_
          refine lv_iconst (v := 1) hx hb dX9_passesStore_39 (by decide) ?_
          refine lv_isub hx hb dX9_passesStore_40 ?_
          refine lv_topi (fun v2 e_v2 => ?_)
          have h := gl_use e_v2 h
          refine va_put (D := (dC, dI)) (ci := 12) (v := .int v2) (ty := .int) (C := RX9) (T := TX9) (N := 9) hx hb hta inX9w tyX9 tyX9_ok nmX9 hown hK hP hD hS 0 rfl rfl 8 (by decide) (hta _ lk_X9_31) (fun _ h9 => h9) rfl (by decide +kernel) rfl rfl (Nat.le_of_ble_eq_true rfl) dX9_passesStore_41 (fun H locs hP hD hS => ?_)
          have hP : va_P (dC, dI) vwCl [(a_t, .inr (12, [.int t_faultAt, .int t_stores, .ref a_t_storeIsBroth, .ref a_t_storeLow, .ref a_t_storeHigh, .ref a_t_isBroth, .ref a_t_low, .ref a_t_high, .int v2])), (a_t_storeIsBroth, .inl (cT 1, 24, .inl t_storeIsBroth)), (a_t_storeLow, .inl (cT 3, 24, .inr (.inl t_storeLow))), (a_t_storeHigh, .inl (cT 3, 24, .inr (.inl t_storeHigh)))] H := hP
          have hD : va_D A [(a_t, .inr (12, [.int t_faultAt, .int t_stores, .ref a_t_storeIsBroth, .ref a_t_storeLow, .ref a_t_storeHigh, .ref a_t_isBroth, .ref a_t_low, .ref a_t_high, .int v2])), (a_t_storeIsBroth, .inl (cT 1, 24, .inl t_storeIsBroth)), (a_t_storeLow, .inl (cT 3, 24, .inr (.inl t_storeLow))), (a_t_storeHigh, .inl (cT 3, 24, .inr (.inl t_storeHigh)))] := hD
          refine lv_aload_n hx hb dX9_passesStore_44 rfl (lv_at hl 1 rfl) ?_
          refine va_get (D := (dC, dI)) (ci := 12) (v := .ref a_t_storeIsBroth) (C := RX9) (T := TX9) (N := 9) hx hb hta inX9w hown hK hP 0 rfl rfl 2 (by decide) (hta _ lk_X9_9) (fun _ h9 => h9) rfl dX9_passesStore_45 ?_
          refine lv_aload_n hx hb dX9_passesStore_48 rfl (lv_at hl 1 rfl) ?_
          refine va_get (D := (dC, dI)) (ci := 12) (v := .int t_stores) (C := RX9) (T := TX9) (N := 9) hx hb hta inX9w hown hK hP 0 rfl rfl 1 (by decide) (hta _ lk_X9_35) (fun _ h9 => h9) rfl dX9_passesStore_49 ?_
          refine lv_aload_n hx hb dX9_passesStore_52 rfl (lv_at hl 1 rfl) ?_
          refine va_get (D := (dC, dI)) (ci := 12) (v := .ref a_t_isBroth) (C := RX9) (T := TX9) (N := 9) hx hb hta inX9w hown hK hP 0 rfl rfl 5 (by decide) (hta _ lk_X9_22) (fun _ h9 => h9) rfl dX9_passesStore_53 ?_
          refine lv_iload_n hx hb dX9_passesStore_56 rfl (lv_at hl 0 rfl) ?_
          obtain ⟨hc, h⟩ := gc_some h
          refine va_zald hx hb hK (rk hR0 hNA hS) 1 1 rfl rfl (inb_in hc) dX9_passesStore_57 ?_
          obtain ⟨hc, h⟩ := gc_some h
          refine va_zast hx hb hK hP hD hS 1 1 rfl rfl (inb_in hc) dX9_passesStore_58 (fun H locs hP hD hS => ?_)
          have hP : va_P (dC, dI) vwCl [(a_t, .inr (12, [.int t_faultAt, .int t_stores, .ref a_t_storeIsBroth, .ref a_t_storeLow, .ref a_t_storeHigh, .ref a_t_isBroth, .ref a_t_low, .ref a_t_high, .int v2])), (a_t_storeIsBroth, .inl (cT 1, 24, .inl (upd t_storeIsBroth t_stores.toNatClampNeg (vp_nar .boolean (t_isBroth v1.toNatClampNeg))))), (a_t_storeLow, .inl (cT 3, 24, .inr (.inl t_storeLow))), (a_t_storeHigh, .inl (cT 3, 24, .inr (.inl t_storeHigh)))] H := hP
          have hD : va_D A [(a_t, .inr (12, [.int t_faultAt, .int t_stores, .ref a_t_storeIsBroth, .ref a_t_storeLow, .ref a_t_storeHigh, .ref a_t_isBroth, .ref a_t_low, .ref a_t_high, .int v2])), (a_t_storeIsBroth, .inl (cT 1, 24, .inl (upd t_storeIsBroth t_stores.toNatClampNeg (vp_nar .boolean (t_isBroth v1.toNatClampNeg))))), (a_t_storeLow, .inl (cT 3, 24, .inr (.inl t_storeLow))), (a_t_storeHigh, .inl (cT 3, 24, .inr (.inl t_storeHigh)))] := hD
          refine lv_aload_n hx hb dX9_passesStore_59 rfl (lv_at hl 1 rfl) ?_
          refine va_get (D := (dC, dI)) (ci := 12) (v := .ref a_t_storeLow) (C := RX9) (T := TX9) (N := 9) hx hb hta inX9w hown hK hP 0 rfl rfl 3 (by decide) (hta _ lk_X9_15) (fun _ h9 => h9) rfl dX9_passesStore_60 ?_
          refine lv_aload_n hx hb dX9_passesStore_63 rfl (lv_at hl 1 rfl) ?_
          refine va_get (D := (dC, dI)) (ci := 12) (v := .int t_stores) (C := RX9) (T := TX9) (N := 9) hx hb hta inX9w hown hK hP 0 rfl rfl 1 (by decide) (hta _ lk_X9_35) (fun _ h9 => h9) rfl dX9_passesStore_64 ?_
          refine lv_aload_n hx hb dX9_passesStore_67 rfl (lv_at hl 1 rfl) ?_
          refine va_get (D := (dC, dI)) (ci := 12) (v := .ref a_t_low) (C := RX9) (T := TX9) (N := 9) hx hb hta inX9w hown hK hP 0 rfl rfl 6 (by decide) (hta _ lk_X9_25) (fun _ h9 => h9) rfl dX9_passesStore_68 ?_
          refine lv_iload_n hx hb dX9_passesStore_71 rfl (lv_at hl 0 rfl) ?_
          obtain ⟨hc, h⟩ := gc_some h
          refine va_lald hx hb hK (rk hR0 hNA hS) 2 3 rfl rfl (inb_in hc) dX9_passesStore_72 ?_
          obtain ⟨hc, h⟩ := gc_some h
          refine va_last hx hb hK hP hD hS 2 3 rfl rfl (inb_in hc) dX9_passesStore_73 (fun H locs hP hD hS => ?_)
          have hP : va_P (dC, dI) vwCl [(a_t, .inr (12, [.int t_faultAt, .int t_stores, .ref a_t_storeIsBroth, .ref a_t_storeLow, .ref a_t_storeHigh, .ref a_t_isBroth, .ref a_t_low, .ref a_t_high, .int v2])), (a_t_storeIsBroth, .inl (cT 1, 24, .inl (upd t_storeIsBroth t_stores.toNatClampNeg (vp_nar .boolean (t_isBroth v1.toNatClampNeg))))), (a_t_storeLow, .inl (cT 3, 24, .inr (.inl (vp_updL t_storeLow t_stores.toNatClampNeg (t_low v1.toNatClampNeg))))), (a_t_storeHigh, .inl (cT 3, 24, .inr (.inl t_storeHigh)))] H := hP
          have hD : va_D A [(a_t, .inr (12, [.int t_faultAt, .int t_stores, .ref a_t_storeIsBroth, .ref a_t_storeLow, .ref a_t_storeHigh, .ref a_t_isBroth, .ref a_t_low, .ref a_t_high, .int v2])), (a_t_storeIsBroth, .inl (cT 1, 24, .inl (upd t_storeIsBroth t_stores.toNatClampNeg (vp_nar .boolean (t_isBroth v1.toNatClampNeg))))), (a_t_storeLow, .inl (cT 3, 24, .inr (.inl (vp_updL t_storeLow t_stores.toNatClampNeg (t_low v1.toNatClampNeg))))), (a_t_storeHigh, .inl (cT 3, 24, .inr (.inl t_storeHigh)))] := hD
          refine lv_aload_n hx hb dX9_passesStore_74 rfl (lv_at hl 1 rfl) ?_
          refine va_get (D := (dC, dI)) (ci := 12) (v := .ref a_t_storeHigh) (C := RX9) (T := TX9) (N := 9) hx hb hta inX9w hown hK hP 0 rfl rfl 4 (by decide) (hta _ lk_X9_19) (fun _ h9 => h9) rfl dX9_passesStore_75 ?_
          refine lv_aload_n hx hb dX9_passesStore_78 rfl (lv_at hl 1 rfl) ?_
          refine va_get (D := (dC, dI)) (ci := 12) (v := .int t_stores) (C := RX9) (T := TX9) (N := 9) hx hb hta inX9w hown hK hP 0 rfl rfl 1 (by decide) (hta _ lk_X9_35) (fun _ h9 => h9) rfl dX9_passesStore_79 ?_
          refine lv_aload_n hx hb dX9_passesStore_82 rfl (lv_at hl 1 rfl) ?_
          refine va_get (D := (dC, dI)) (ci := 12) (v := .ref a_t_high) (C := RX9) (T := TX9) (N := 9) hx hb hta inX9w hown hK hP 0 rfl rfl 7 (by decide) (hta _ lk_X9_28) (fun _ h9 => h9) rfl dX9_passesStore_83 ?_
          refine lv_iload_n hx hb dX9_passesStore_86 rfl (lv_at hl 0 rfl) ?_
          obtain ⟨hc, h⟩ := gc_some h
          refine va_lald hx hb hK (rk hR0 hNA hS) 3 3 rfl rfl (inb_in hc) dX9_passesStore_87 ?_
          obtain ⟨hc, h⟩ := gc_some h
          refine va_last hx hb hK hP hD hS 3 3 rfl rfl (inb_in hc) dX9_passesStore_88 (fun H locs hP hD hS => ?_)
          have hP : va_P (dC, dI) vwCl [(a_t, .inr (12, [.int t_faultAt, .int t_stores, .ref a_t_storeIsBroth, .ref a_t_storeLow, .ref a_t_storeHigh, .ref a_t_isBroth, .ref a_t_low, .ref a_t_high, .int v2])), (a_t_storeIsBroth, .inl (cT 1, 24, .inl (upd t_storeIsBroth t_stores.toNatClampNeg (vp_nar .boolean (t_isBroth v1.toNatClampNeg))))), (a_t_storeLow, .inl (cT 3, 24, .inr (.inl (vp_updL t_storeLow t_stores.toNatClampNeg (t_low v1.toNatClampNeg))))), (a_t_storeHigh, .inl (cT 3, 24, .inr (.inl (vp_updL t_storeHigh t_stores.toNatClampNeg (t_high v1.toNatClampNeg)))))] H := hP
          have hD : va_D A [(a_t, .inr (12, [.int t_faultAt, .int t_stores, .ref a_t_storeIsBroth, .ref a_t_storeLow, .ref a_t_storeHigh, .ref a_t_isBroth, .ref a_t_low, .ref a_t_high, .int v2])), (a_t_storeIsBroth, .inl (cT 1, 24, .inl (upd t_storeIsBroth t_stores.toNatClampNeg (vp_nar .boolean (t_isBroth v1.toNatClampNeg))))), (a_t_storeLow, .inl (cT 3, 24, .inr (.inl (vp_updL t_storeLow t_stores.toNatClampNeg (t_low v1.toNatClampNeg))))), (a_t_storeHigh, .inl (cT 3, 24, .inr (.inl (vp_updL t_storeHigh t_stores.toNatClampNeg (t_high v1.toNatClampNeg)))))] := hD
          refine lv_aload_n hx hb dX9_passesStore_89 rfl (lv_at hl 1 rfl) ?_
          refine lv_dup hx hb dX9_passesStore_90 rfl ?_
          refine va_get (D := (dC, dI)) (ci := 12) (v := .int t_stores) (C := RX9) (T := TX9) (N := 9) hx hb hta inX9w hown hK hP 0 rfl rfl 1 (by decide) (hta _ lk_X9_35) (fun _ h9 => h9) rfl dX9_passesStore_91 ?_
          refine lv_iconst (v := 1) hx hb dX9_passesStore_94 (by decide) ?_
          refine lv_iadd hx hb dX9_passesStore_95 ?_
          refine lv_topi (fun v3 e_v3 => ?_)
          have h := gl_use e_v3 h
          refine va_put (D := (dC, dI)) (ci := 12) (v := .int v3) (ty := .int) (C := RX9) (T := TX9) (N := 9) hx hb hta inX9w tyX9 tyX9_ok nmX9 hown hK hP hD hS 0 rfl rfl 1 (by decide) (hta _ lk_X9_35) (fun _ h9 => h9) rfl (by decide +kernel) rfl rfl (Nat.le_of_ble_eq_true rfl) dX9_passesStore_96 (fun H locs hP hD hS => ?_)
          have hP : va_P (dC, dI) vwCl [(a_t, .inr (12, [.int t_faultAt, .int v3, .ref a_t_storeIsBroth, .ref a_t_storeLow, .ref a_t_storeHigh, .ref a_t_isBroth, .ref a_t_low, .ref a_t_high, .int v2])), (a_t_storeIsBroth, .inl (cT 1, 24, .inl (upd t_storeIsBroth t_stores.toNatClampNeg (vp_nar .boolean (t_isBroth v1.toNatClampNeg))))), (a_t_storeLow, .inl (cT 3, 24, .inr (.inl (vp_updL t_storeLow t_stores.toNatClampNeg (t_low v1.toNatClampNeg))))), (a_t_storeHigh, .inl (cT 3, 24, .inr (.inl (vp_updL t_storeHigh t_stores.toNatClampNeg (t_high v1.toNatClampNeg)))))] H := hP
          have hD : va_D A [(a_t, .inr (12, [.int t_faultAt, .int v3, .ref a_t_storeIsBroth, .ref a_t_storeLow, .ref a_t_storeHigh, .ref a_t_isBroth, .ref a_t_low, .ref a_t_high, .int v2])), (a_t_storeIsBroth, .inl (cT 1, 24, .inl (upd t_storeIsBroth t_stores.toNatClampNeg (vp_nar .boolean (t_isBroth v1.toNatClampNeg))))), (a_t_storeLow, .inl (cT 3, 24, .inr (.inl (vp_updL t_storeLow t_stores.toNatClampNeg (t_low v1.toNatClampNeg))))), (a_t_storeHigh, .inl (cT 3, 24, .inr (.inl (vp_updL t_storeHigh t_stores.toNatClampNeg (t_high v1.toNatClampNeg)))))] := hD
          refine lv_aload_n hx hb dX9_passesStore_99 rfl (lv_at hl 1 rfl) ?_
          refine va_get (D := (dC, dI)) (ci := 12) (v := .ref a_t_isBroth) (C := RX9) (T := TX9) (N := 9) hx hb hta inX9w hown hK hP 0 rfl rfl 5 (by decide) (hta _ lk_X9_22) (fun _ h9 => h9) rfl dX9_passesStore_100 ?_
          refine lv_iload_n hx hb dX9_passesStore_103 rfl (lv_at hl 0 rfl) ?_
          obtain ⟨hc, h⟩ := gc_some h
          refine va_zald hx hb hK (rk hR0 hNA hS) 1 1 rfl rfl (inb_in hc) dX9_passesStore_104 ?_
          refine lv_aload_n hx hb dX9_passesStore_105 rfl (lv_at hl 3 rfl) ?_
          refine va_get (D := (dC, dI)) (ci := 4) (v := .ref a_p2_isBroth) (C := RX0) (T := TX0) (N := 11) hx hb hta inX0w hown hK (rk hR0 hNA hS) 0 rfl rfl 1 (by decide) (hta _ lk_X9_57) (fun _ h9 => h9) rfl dX9_passesStore_106 ?_
          refine lv_iload_n hx hb dX9_passesStore_109 rfl (lv_at hl 2 rfl) ?_
          obtain ⟨hc, h⟩ := gc_some h
          refine va_zald hx hb hK (rk hR0 hNA hS) 4 1 rfl rfl (inb_in hc) dX9_passesStore_110 ?_
          refine lv_icmp_eq (tgt := 116) hx hb dX9_passesStore_111 (by decide) (fun c0 => ?_) (fun c0 => ?_)
          · have h := (if_pos c0).symm.trans h
            refine lv_aload_n hx hb dX9_passesStore_116 rfl (lv_at hl 1 rfl) ?_
            refine va_get (D := (dC, dI)) (ci := 12) (v := .ref a_t_isBroth) (C := RX9) (T := TX9) (N := 9) hx hb hta inX9w hown hK hP 0 rfl rfl 5 (by decide) (hta _ lk_X9_22) (fun _ h9 => h9) rfl dX9_passesStore_117 ?_
            refine lv_iload_n hx hb dX9_passesStore_120 rfl (lv_at hl 0 rfl) ?_
            obtain ⟨hc, h⟩ := gc_some h
            refine va_zald hx hb hK (rk hR0 hNA hS) 1 1 rfl rfl (inb_in hc) dX9_passesStore_121 ?_
            refine lv_if_ne (tgt := 153) hx hb dX9_passesStore_122 (by decide) (fun c0 => ?_) (fun c0 => ?_)
            · have h := (if_neg c0).symm.trans h
              refine lv_iconst (v := 1) hx hb dX9_passesStore_153 (by decide) ?_
              refine lv_goto (tgt := 158) hx hb dX9_passesStore_154 (by decide) ?_
              have ho := Option.some.inj h
              exact W.zret (ty := .boolean) (v := 1) hx hb hr rfl (fun t ht hW => ⟨⟨1, (), rfl, by rw [← ho], by show va_P (dC, dI) vwCl _ t.heap; rw [ht, ← ho]; exact hP⟩, hS.F ht⟩) hS.2.2 dX9_passesStore_158
            · have h := (if_pos c0).symm.trans h
              refine lv_aload_n hx hb dX9_passesStore_125 rfl (lv_at hl 3 rfl) ?_
              refine lv_iload_n hx hb dX9_passesStore_126 rfl (lv_at hl 2 rfl) ?_
              refine lv_aload_n hx hb dX9_passesStore_127 rfl (lv_at hl 1 rfl) ?_
              refine va_get (D := (dC, dI)) (ci := 12) (v := .ref a_t_low) (C := RX9) (T := TX9) (N := 9) hx hb hta inX9w hown hK hP 0 rfl rfl 6 (by decide) (hta _ lk_X9_25) (fun _ h9 => h9) rfl dX9_passesStore_128 ?_
              refine lv_iload_n hx hb dX9_passesStore_131 rfl (lv_at hl 0 rfl) ?_
              obtain ⟨hc, h⟩ := gc_some h
              refine va_lald hx hb hK (rk hR0 hNA hS) 2 3 rfl rfl (inb_in hc) dX9_passesStore_132 ?_
              obtain ⟨r4, hq, h⟩ := gb_some h
              refine crI (va_runV (As := [.int p1, .long (t_low v1.toNatClampNeg)]) (rest := []) ⟨hx, hb, hml, hown, hta⟩ (c_X0_holds l dC dI cT hq ((rk hR0 hNA hS).sub (ws' := [(a_p2, .inr (4, [.int p2_cauldrons, .ref a_p2_isBroth, .ref a_p2_low, .ref a_p2_high, .ref a_p2_contents, .ref a_p2_storesIn, .int p2_spells, .ref a_p2_texts, .ref a_p2_cooked, .int p2_cookedSoFar, .int p2_storesSoFar])), (a_p2_low, .inl (cT 0, 6, .inl p2_low)), (a_p2_high, .inl (cT 0, 6, .inl p2_high))]) [0, 5, 6] rfl)) (cV hta lm_X9_97 md_X0_holds ⟨(Nat.le_of_ble_eq_true rfl), (Nat.le_of_ble_eq_true rfl)⟩) ⟨fbK, va_recv hK (rk hR0 hNA hS) (ci := 4) (q0 := 0) rfl rfl, fun U hU hW => ⟨rfl, hU, va_K.moved hW.alike hK⟩⟩ rfl rfl hl.1 rfl (lv_room (Nat.le_of_ble_eq_true rfl)) dX9_passesStore_133 ⟨(Nat.le_of_ble_eq_true rfl), (Nat.le_of_ble_eq_true rfl)⟩) hS hA (fun locs hS => ?_)
              refine lv_if_eq (tgt := 157) hx hb dX9_passesStore_136 (by decide) (fun c0 => ?_) (fun c0 => ?_)
              · have h := (if_pos c0).symm.trans h
                refine lv_iconst (v := 0) hx hb dX9_passesStore_157 (by decide) ?_
                have ho := Option.some.inj h
                exact W.zret (ty := .boolean) (v := 0) hx hb hr rfl (fun t ht hW => ⟨⟨0, (), rfl, by rw [← ho], by show va_P (dC, dI) vwCl _ t.heap; rw [ht, ← ho]; exact hP⟩, hS.F ht⟩) hS.2.2 dX9_passesStore_158
              · have h := (if_neg c0).symm.trans h
                refine lv_aload_n hx hb dX9_passesStore_139 rfl (lv_at hl 3 rfl) ?_
                refine lv_iload_n hx hb dX9_passesStore_140 rfl (lv_at hl 2 rfl) ?_
                refine lv_aload_n hx hb dX9_passesStore_141 rfl (lv_at hl 1 rfl) ?_
                refine va_get (D := (dC, dI)) (ci := 12) (v := .ref a_t_high) (C := RX9) (T := TX9) (N := 9) hx hb hta inX9w hown hK hP 0 rfl rfl 7 (by decide) (hta _ lk_X9_28) (fun _ h9 => h9) rfl dX9_passesStore_142 ?_
                refine lv_iload_n hx hb dX9_passesStore_145 rfl (lv_at hl 0 rfl) ?_
                obtain ⟨hc, h⟩ := gc_some h
                refine va_lald hx hb hK (rk hR0 hNA hS) 3 3 rfl rfl (inb_in hc) dX9_passesStore_146 ?_
                obtain ⟨r5, hq, h⟩ := gb_some h
                refine crI (va_runV (As := [.int p1, .long (t_high v1.toNatClampNeg)]) (rest := []) ⟨hx, hb, hml, hown, hta⟩ (c_X0_holds l dC dI cT hq ((rk hR0 hNA hS).sub (ws' := [(a_p2, .inr (4, [.int p2_cauldrons, .ref a_p2_isBroth, .ref a_p2_low, .ref a_p2_high, .ref a_p2_contents, .ref a_p2_storesIn, .int p2_spells, .ref a_p2_texts, .ref a_p2_cooked, .int p2_cookedSoFar, .int p2_storesSoFar])), (a_p2_low, .inl (cT 0, 6, .inl p2_low)), (a_p2_high, .inl (cT 0, 6, .inl p2_high))]) [0, 5, 6] rfl)) (cV hta lm_X9_97 md_X0_holds ⟨(Nat.le_of_ble_eq_true rfl), (Nat.le_of_ble_eq_true rfl)⟩) ⟨fbK, va_recv hK (rk hR0 hNA hS) (ci := 4) (q0 := 0) rfl rfl, fun U hU hW => ⟨rfl, hU, va_K.moved hW.alike hK⟩⟩ rfl rfl hl.1 rfl (lv_room (Nat.le_of_ble_eq_true rfl)) dX9_passesStore_147 ⟨(Nat.le_of_ble_eq_true rfl), (Nat.le_of_ble_eq_true rfl)⟩) hS hA (fun locs hS => ?_)
                refine lv_if_eq (tgt := 157) hx hb dX9_passesStore_150 (by decide) (fun c0 => ?_) (fun c0 => ?_)
                · have h := (if_pos c0).symm.trans h
                  refine lv_iconst (v := 0) hx hb dX9_passesStore_157 (by decide) ?_
                  have ho := Option.some.inj h
                  exact W.zret (ty := .boolean) (v := 0) hx hb hr rfl (fun t ht hW => ⟨⟨0, (), rfl, by rw [← ho], by show va_P (dC, dI) vwCl _ t.heap; rw [ht, ← ho]; exact hP⟩, hS.F ht⟩) hS.2.2 dX9_passesStore_158
                · have h := (if_neg c0).symm.trans h
                  refine lv_iconst (v := 1) hx hb dX9_passesStore_153 (by decide) ?_
                  refine lv_goto (tgt := 158) hx hb dX9_passesStore_154 (by decide) ?_
                  have ho := Option.some.inj h
                  exact W.zret (ty := .boolean) (v := 1) hx hb hr rfl (fun t ht hW => ⟨⟨1, (), rfl, by rw [← ho], by show va_P (dC, dI) vwCl _ t.heap; rw [ht, ← ho]; exact hP⟩, hS.F ht⟩) hS.2.2 dX9_passesStore_158
          · have h := (if_neg c0).symm.trans h
            refine lv_iconst (v := 0) hx hb dX9_passesStore_114 (by decide) ?_
            have ho := Option.some.inj h
            exact W.zret (ty := .boolean) (v := 0) hx hb hr rfl (fun t ht hW => ⟨⟨0, (), rfl, by rw [← ho], by show va_P (dC, dI) vwCl _ t.heap; rw [ht, ← ho]; exact hP⟩, hS.F ht⟩) hS.2.2 dX9_passesStore_115
        · have h := (if_neg c0).symm.trans h
          refine lv_iconst (v := 0) hx hb dX9_passesStore_32 (by decide) ?_
          have ho := Option.some.inj h
          exact W.zret (ty := .boolean) (v := 0) hx hb hr rfl (fun t ht hW => ⟨⟨0, (), rfl, by rw [← ho], by show va_P (dC, dI) vwCl _ t.heap; rw [ht, ← ho]; exact hP⟩, hS.F ht⟩) hS.2.2 dX9_passesStore_33
set_option maxHeartbeats 4000000 in
set_option maxRecDepth 100000 in
theorem c_X9_passesReckoning (l : Launch) (dC : Nat → ClassId) (dI : Nat → Nat → Nat) (cT : Nat → ClassId) {Hh : Heap} {a_t : Nat} {a_t_isBroth : Nat} {a_t_low : Nat} {a_t_high : Nat} {a_t_storeIsBroth : Nat} {a_t_storeLow : Nat} {a_t_storeHigh : Nat} {t_spoons : Int32} {t_isBroth : Nat → Int32} {t_low : Nat → Int64} {t_high : Nat → Int64} {p1 : Int32} {t_faultAt : Int32} {t_stores : Int32} {o : Int32 × Int32 × (Nat → Int64) × (Nat → Int64)} (h : g_X9_passesReckoning t_spoons t_isBroth t_low t_high p1 = some o) (hP0 : va_P (dC, dI) vwCl [(a_t, .inr (12, [.int t_faultAt, .int t_stores, .ref a_t_storeIsBroth, .ref a_t_storeLow, .ref a_t_storeHigh, .ref a_t_isBroth, .ref a_t_low, .ref a_t_high, .int t_spoons])), (a_t_low, .inl (cT 3, 5, .inr (.inl t_low))), (a_t_high, .inl (cT 3, 5, .inr (.inl t_high)))] Hh) (hR0 : va_P (dC, dI) vwCl [(a_t_isBroth, .inl (cT 1, 5, .inl t_isBroth))] Hh) (hD0 : va_D (fun _ => True) [(a_t, .inr (12, [.int t_faultAt, .int t_stores, .ref a_t_storeIsBroth, .ref a_t_storeLow, .ref a_t_storeHigh, .ref a_t_isBroth, .ref a_t_low, .ref a_t_high, .int t_spoons])), (a_t_low, .inl (cT 3, 5, .inr (.inl t_low))), (a_t_high, .inl (cT 3, 5, .inr (.inl t_high)))]) (hN0 : ∀ (k : Nat) (q : Nat × va_E), ([(a_t_isBroth, .inl (cT 1, 5, .inl t_isBroth))] : va_W)[k]? = some q → ¬ va_A [(a_t, .inr (12, [.int t_faultAt, .int t_stores, .ref a_t_storeIsBroth, .ref a_t_storeLow, .ref a_t_storeHigh, .ref a_t_isBroth, .ref a_t_low, .ref a_t_high, .int t_spoons])), (a_t_low, .inl (cT 3, 5, .inr (.inl t_low))), (a_t_high, .inl (cT 3, 5, .inr (.inl t_high)))] Hh.size q.1) : Met l yX9_passesReckoning (wA yX9_passesReckoning cX9_passesReckoning 8 (some .boolean)) ({ frames := 2, cells := 0, slots := 0, locals := 49 } : Room) (PK dC dI cT [.ref a_t, .int p1] Hh) (va_Qi (fun x (_ : Unit) => x = o.1) (fun _ t => va_P (dC, dI) vwCl [(a_t, .inr (12, [.int t_faultAt, .int t_stores, .ref a_t_storeIsBroth, .ref a_t_storeLow, .ref a_t_storeHigh, .ref a_t_isBroth, .ref a_t_low, .ref a_t_high, .int o.2.1])), (a_t_low, .inl (cT 3, 5, .inr (.inl o.2.2.1))), (a_t_high, .inl (cT 3, 5, .inr (.inl o.2.2.2)))] t.heap) (va_A [(a_t, .inr (12, [.int t_faultAt, .int t_stores, .ref a_t_storeIsBroth, .ref a_t_storeLow, .ref a_t_storeHigh, .ref a_t_isBroth, .ref a_t_low, .ref a_t_high, .int t_spoons])), (a_t_low, .inl (cT 3, 5, .inr (.inl t_low))), (a_t_high, .inl (cT 3, 5, .inr (.inl t_high)))] Hh.size)) 0 0 (va_A [(a_t, .inr (12, [.int t_faultAt, .int t_stores, .ref a_t_storeIsBroth, .ref a_t_storeLow, .ref a_t_storeHigh, .ref a_t_isBroth, .ref a_t_low, .ref a_t_high, .int t_spoons])), (a_t_low, .inl (cT 3, 5, .inr (.inl t_low))), (a_t_high, .inl (cT 3, 5, .inr (.inl t_high)))] Hh.size) := by
  refine Met.ofW (cc := cX9_passesReckoning) (maxL := 8) (ret := (some .boolean)) (by decide) rfl ?_
  intro p e s m args below meth c s₁ B hml hv
  obtain ⟨rfl, hH, hK⟩ := hv
  subst hH
  have hx := B.exec
  have hb := B.bytes
  have hr := B.returns
  have hta : ∀ w ∈ ALLW, w.before [.ref a_t, .int p1].toArray s = true := fun w hw => atoms_spec (ws := wA yX9_passesReckoning cX9_passesReckoning 8 (some .boolean)) B.pre w (List.mem_cons_of_mem _ hw)
  have hown : s.vm.findClass RX9 = some m.cls := findClass_of_methodNamed B.named
  have hlocks := B.notSynchronized
  have hD := hD0.self (sz := s.heap.size)
  have hNA := hN0
  generalize hAe : va_A [(a_t, .inr (12, [.int t_faultAt, .int t_stores, .ref a_t_storeIsBroth, .ref a_t_storeLow, .ref a_t_storeHigh, .ref a_t_isBroth, .ref a_t_low, .ref a_t_high, .int t_spoons])), (a_t_low, .inl (cT 3, 5, .inr (.inl t_low))), (a_t_high, .inl (cT 3, 5, .inr (.inl t_high)))] s.heap.size = A at hD hNA ⊢
  have hP := hP0
  have hA : ∀ q : Nat, s.heap.size ≤ q → A q := fun q h => by rw [← hAe]; exact Or.inr h
  have hS : va_S A s.heap s.heap [] := va_S.rf
  have hl := lv_entry [.ref a_t, .int p1] (n := 8) (Nat.le_of_ble_eq_true rfl)
  rw [lg_entry_eq]
  generalize (lg_sl [.ref a_t, .int p1] ++ List.replicate (8 - (lg_sl [.ref a_t, .int p1]).length) Slot.unset).toArray = ls at hl ⊢
  have hl : lv_has ls 8 [(0, .ref a_t), (1, .int p1)] := hl
  unfold g_X9_passesReckoning at h
  refine lv_aload_n hx hb dX9_passesReckoning_0 rfl (lv_at hl 0 rfl) ?_
  refine va_get (D := (dC, dI)) (ci := 12) (v := .int t_spoons) (C := RX9) (T := TX9) (N := 9) hx hb hta inX9w hown hK hP 0 rfl rfl 8 (by decide) (hta _ lk_X9_31) (fun _ h9 => h9) rfl dX9_passesReckoning_1 ?_
  refine lv_iconst (v := 1) hx hb dX9_passesReckoning_4 (by decide) ?_
  refine lv_isub hx hb dX9_passesReckoning_5 ?_
  refine lv_topi (fun v1 e_v1 => ?_)
  have h := gl_use e_v1 h
  refine lv_istore_n (lv' := [(2, .int v1), (0, .ref a_t), (1, .int p1)]) hx hb dX9_passesReckoning_6 rfl hl (by decide) rfl (fun ls hl => ?_)
  refine lv_aload_n hx hb dX9_passesReckoning_7 rfl (lv_at hl 1 rfl) ?_
  refine va_get (D := (dC, dI)) (ci := 12) (v := .int t_spoons) (C := RX9) (T := TX9) (N := 9) hx hb hta inX9w hown hK hP 0 rfl rfl 8 (by decide) (hta _ lk_X9_31) (fun _ h9 => h9) rfl dX9_passesReckoning_8 ?_
  refine lv_iconst (v := 2) hx hb dX9_passesReckoning_11 (by decide) ?_
  refine lv_isub hx hb dX9_passesReckoning_12 ?_
  refine lv_topi (fun v2 e_v2 => ?_)
  have h := gl_use e_v2 h
  refine lv_istore_n (lv' := [(3, .int v2), (2, .int v1), (0, .ref a_t), (1, .int p1)]) hx hb dX9_passesReckoning_13 rfl hl (by decide) rfl (fun ls hl => ?_)
  refine lv_iload_n hx hb dX9_passesReckoning_14 rfl (lv_at hl 0 rfl) ?_
  refine lv_if_lt (tgt := 38) hx hb dX9_passesReckoning_15 (by decide) (fun c0 => ?_) (fun c0 => ?_)
  · have h := (if_pos c0).symm.trans h
    refine lv_iconst (v := 0) hx hb dX9_passesReckoning_38 (by decide) ?_
    have ho := Option.some.inj h
    exact W.zret (ty := .boolean) (v := 0) hx hb hr rfl (fun t ht hW => ⟨⟨0, (), rfl, by rw [← ho], by show va_P (dC, dI) vwCl _ t.heap; rw [ht, ← ho]; exact hP⟩, hS.F ht⟩) hS.2.2 dX9_passesReckoning_39
  · have h := (if_neg c0).symm.trans h
    refine lv_iload_n hx hb dX9_passesReckoning_18 rfl (lv_at hl 1 rfl) ?_
    refine lv_iconst (v := 5) hx hb dX9_passesReckoning_19 (by decide) ?_
    refine lv_icmp_ge (tgt := 38) hx hb dX9_passesReckoning_20 (by decide) (fun c0 => ?_) (fun c0 => ?_)
    · have h := (if_pos c0).symm.trans h
      refine lv_iconst (v := 0) hx hb dX9_passesReckoning_38 (by decide) ?_
      have ho := Option.some.inj h
      exact W.zret (ty := .boolean) (v := 0) hx hb hr rfl (fun t ht hW => ⟨⟨0, (), rfl, by rw [← ho], by show va_P (dC, dI) vwCl _ t.heap; rw [ht, ← ho]; exact hP⟩, hS.F ht⟩) hS.2.2 dX9_passesReckoning_39
    · have h := (if_neg c0).symm.trans h
      refine lv_aload_n hx hb dX9_passesReckoning_23 rfl (lv_at hl 2 rfl) ?_
      refine va_get (D := (dC, dI)) (ci := 12) (v := .ref a_t_isBroth) (C := RX9) (T := TX9) (N := 9) hx hb hta inX9w hown hK hP 0 rfl rfl 5 (by decide) (hta _ lk_X9_22) (fun _ h9 => h9) rfl dX9_passesReckoning_24 ?_
      refine lv_iload_n hx hb dX9_passesReckoning_27 rfl (lv_at hl 0 rfl) ?_
      obtain ⟨hc, h⟩ := gc_some h
      refine va_zald hx hb hK (rk hR0 hNA hS) 0 1 rfl rfl (inb_in hc) dX9_passesReckoning_28 ?_
      refine lv_aload_n hx hb dX9_passesReckoning_29 rfl (lv_at hl 2 rfl) ?_
      refine va_get (D := (dC, dI)) (ci := 12) (v := .ref a_t_isBroth) (C := RX9) (T := TX9) (N := 9) hx hb hta inX9w hown hK hP 0 rfl rfl 5 (by decide) (hta _ lk_X9_22) (fun _ h9 => h9) rfl dX9_passesReckoning_30 ?_
      refine lv_iload_n hx hb dX9_passesReckoning_33 rfl (lv_at hl 1 rfl) ?_
      obtain ⟨hc, h⟩ := gc_some h
      refine va_zald hx hb hK (rk hR0 hNA hS) 0 1 rfl rfl (inb_in hc) dX9_passesReckoning_34 ?_
      refine lv_icmp_eq (tgt := 40) hx hb dX9_passesReckoning_35 (by decide) (fun c0 => ?_) (fun c0 => ?_)
      · have h := (if_pos c0).symm.trans h
        refine lv_aload_n hx hb dX9_passesReckoning_40 rfl (lv_at hl 2 rfl) ?_
        refine lv_dup hx hb dX9_passesReckoning_41 rfl ?_
        refine va_get (D := (dC, dI)) (ci := 12) (v := .int t_spoons) (C := RX9) (T := TX9) (N := 9) hx hb hta inX9w hown hK hP 0 rfl rfl 8 (by decide) (hta _ lk_X9_31) (fun _ h9 => h9) rfl dX9_passesReckoning_42 ?_
        refine lv_iconst (v := 1) hx hb dX9_passesReckoning_45 (by decide) ?_
        refine lv_isub hx hb dX9_passesReckoning_46 ?_
        refine lv_topi (fun v3 e_v3 => ?_)
        have h := gl_use e_v3 h
        refine va_put (D := (dC, dI)) (ci := 12) (v := .int v3) (ty := .int) (C := RX9) (T := TX9) (N := 9) hx hb hta inX9w tyX9 tyX9_ok nmX9 hown hK hP hD hS 0 rfl rfl 8 (by decide) (hta _ lk_X9_31) (fun _ h9 => h9) rfl (by decide +kernel) rfl rfl (Nat.le_of_ble_eq_true rfl) dX9_passesReckoning_47 (fun H locs hP hD hS => ?_)
        have hP : va_P (dC, dI) vwCl [(a_t, .inr (12, [.int t_faultAt, .int t_stores, .ref a_t_storeIsBroth, .ref a_t_storeLow, .ref a_t_storeHigh, .ref a_t_isBroth, .ref a_t_low, .ref a_t_high, .int v3])), (a_t_low, .inl (cT 3, 5, .inr (.inl t_low))), (a_t_high, .inl (cT 3, 5, .inr (.inl t_high)))] H := hP
        have hD : va_D A [(a_t, .inr (12, [.int t_faultAt, .int t_stores, .ref a_t_storeIsBroth, .ref a_t_storeLow, .ref a_t_storeHigh, .ref a_t_isBroth, .ref a_t_low, .ref a_t_high, .int v3])), (a_t_low, .inl (cT 3, 5, .inr (.inl t_low))), (a_t_high, .inl (cT 3, 5, .inr (.inl t_high)))] := hD
        refine lv_aload_n hx hb dX9_passesReckoning_50 rfl (lv_at hl 2 rfl) ?_
        refine va_get (D := (dC, dI)) (ci := 12) (v := .ref a_t_isBroth) (C := RX9) (T := TX9) (N := 9) hx hb hta inX9w hown hK hP 0 rfl rfl 5 (by decide) (hta _ lk_X9_22) (fun _ h9 => h9) rfl dX9_passesReckoning_51 ?_
        refine lv_iload_n hx hb dX9_passesReckoning_54 rfl (lv_at hl 0 rfl) ?_
        obtain ⟨hc, h⟩ := gc_some h
        refine va_zald hx hb hK (rk hR0 hNA hS) 0 1 rfl rfl (inb_in hc) dX9_passesReckoning_55 ?_
        refine lv_if_eq (tgt := 61) hx hb dX9_passesReckoning_56 (by decide) (fun c0 => ?_) (fun c0 => ?_)
        · have h := (if_pos c0).symm.trans h
          refine lv_iload_n hx hb dX9_passesReckoning_61 rfl (lv_at hl 3 rfl) ?_
          refine lv_aload_n hx hb dX9_passesReckoning_62 rfl (lv_at hl 2 rfl) ?_
          refine va_get (D := (dC, dI)) (ci := 12) (v := .ref a_t_low) (C := RX9) (T := TX9) (N := 9) hx hb hta inX9w hown hK hP 0 rfl rfl 6 (by decide) (hta _ lk_X9_25) (fun _ h9 => h9) rfl dX9_passesReckoning_63 ?_
          refine lv_iload_n hx hb dX9_passesReckoning_66 rfl (lv_at hl 0 rfl) ?_
          obtain ⟨hc, h⟩ := gc_some h
          refine va_lald hx hb hK hP 1 3 rfl rfl (inb_in hc) dX9_passesReckoning_67 ?_
          refine lv_aload_n hx hb dX9_passesReckoning_68 rfl (lv_at hl 2 rfl) ?_
          refine va_get (D := (dC, dI)) (ci := 12) (v := .ref a_t_high) (C := RX9) (T := TX9) (N := 9) hx hb hta inX9w hown hK hP 0 rfl rfl 7 (by decide) (hta _ lk_X9_28) (fun _ h9 => h9) rfl dX9_passesReckoning_69 ?_
          refine lv_iload_n hx hb dX9_passesReckoning_72 rfl (lv_at hl 0 rfl) ?_
          obtain ⟨hc, h⟩ := gc_some h
          refine va_lald hx hb hK hP 2 3 rfl rfl (inb_in hc) dX9_passesReckoning_73 ?_
          refine lv_aload_n hx hb dX9_passesReckoning_74 rfl (lv_at hl 2 rfl) ?_
          refine va_get (D := (dC, dI)) (ci := 12) (v := .ref a_t_low) (C := RX9) (T := TX9) (N := 9) hx hb hta inX9w hown hK hP 0 rfl rfl 6 (by decide) (hta _ lk_X9_25) (fun _ h9 => h9) rfl dX9_passesReckoning_75 ?_
          refine lv_iload_n hx hb dX9_passesReckoning_78 rfl (lv_at hl 1 rfl) ?_
          obtain ⟨hc, h⟩ := gc_some h
          refine va_lald hx hb hK hP 1 3 rfl rfl (inb_in hc) dX9_passesReckoning_79 ?_
          refine lv_aload_n hx hb dX9_passesReckoning_80 rfl (lv_at hl 2 rfl) ?_
          refine va_get (D := (dC, dI)) (ci := 12) (v := .ref a_t_high) (C := RX9) (T := TX9) (N := 9) hx hb hta inX9w hown hK hP 0 rfl rfl 7 (by decide) (hta _ lk_X9_28) (fun _ h9 => h9) rfl dX9_passesReckoning_81 ?_
          refine lv_iload_n hx hb dX9_passesReckoning_84 rfl (lv_at hl 1 rfl) ?_
          obtain ⟨hc, h⟩ := gc_some h
          refine va_lald hx hb hK hP 2 3 rfl rfl (inb_in hc) dX9_passesReckoning_85 ?_
          obtain ⟨r4, hq, h⟩ := gb_some h
          refine crL (va_runS (As := [.int p1, .long (t_low v2.toNatClampNeg), .long (t_high v2.toNatClampNeg), .long (t_low v1.toNatClampNeg), .long (t_high v1.toNatClampNeg)]) (rest := []) ⟨hx, hb, hml, hown, hta⟩ (c_X5_lowest l dC dI cT hq) (cS hta lm_X9_84 md_X5_lowest ⟨(Nat.le_of_ble_eq_true rfl), (Nat.le_of_ble_eq_true rfl)⟩) ⟨fbK, fun U hU hW => ⟨rfl, hU, va_K.moved hW.alike hK⟩⟩ rfl rfl hl.1 rfl (lv_room (Nat.le_of_ble_eq_true rfl)) dX9_passesReckoning_86 ⟨(Nat.le_of_ble_eq_true rfl), (Nat.le_of_ble_eq_true rfl)⟩) hS hA (fun locs hS => ?_)
          refine lv_lstore (lv' := [(4, .long r4), (3, .int v2), (2, .int v1), (0, .ref a_t), (1, .int p1)]) hx hb dX9_passesReckoning_89 hl (by decide) rfl (fun ls hl => ?_)
          refine lv_iload_n hx hb dX9_passesReckoning_91 rfl (lv_at hl 4 rfl) ?_
          refine lv_aload_n hx hb dX9_passesReckoning_92 rfl (lv_at hl 3 rfl) ?_
          refine va_get (D := (dC, dI)) (ci := 12) (v := .ref a_t_low) (C := RX9) (T := TX9) (N := 9) hx hb hta inX9w hown hK hP 0 rfl rfl 6 (by decide) (hta _ lk_X9_25) (fun _ h9 => h9) rfl dX9_passesReckoning_93 ?_
          refine lv_iload_n hx hb dX9_passesReckoning_96 rfl (lv_at hl 1 rfl) ?_
          obtain ⟨hc, h⟩ := gc_some h
          refine va_lald hx hb hK hP 1 3 rfl rfl (inb_in hc) dX9_passesReckoning_97 ?_
          refine lv_aload_n hx hb dX9_passesReckoning_98 rfl (lv_at hl 3 rfl) ?_
          refine va_get (D := (dC, dI)) (ci := 12) (v := .ref a_t_high) (C := RX9) (T := TX9) (N := 9) hx hb hta inX9w hown hK hP 0 rfl rfl 7 (by decide) (hta _ lk_X9_28) (fun _ h9 => h9) rfl dX9_passesReckoning_99 ?_
          refine lv_iload_n hx hb dX9_passesReckoning_102 rfl (lv_at hl 1 rfl) ?_
          obtain ⟨hc, h⟩ := gc_some h
          refine va_lald hx hb hK hP 2 3 rfl rfl (inb_in hc) dX9_passesReckoning_103 ?_
          refine lv_aload_n hx hb dX9_passesReckoning_104 rfl (lv_at hl 3 rfl) ?_
          refine va_get (D := (dC, dI)) (ci := 12) (v := .ref a_t_low) (C := RX9) (T := TX9) (N := 9) hx hb hta inX9w hown hK hP 0 rfl rfl 6 (by decide) (hta _ lk_X9_25) (fun _ h9 => h9) rfl dX9_passesReckoning_105 ?_
          refine lv_iload_n hx hb dX9_passesReckoning_108 rfl (lv_at hl 2 rfl) ?_
          obtain ⟨hc, h⟩ := gc_some h
          refine va_lald hx hb hK hP 1 3 rfl rfl (inb_in hc) dX9_passesReckoning_109 ?_
          refine lv_aload_n hx hb dX9_passesReckoning_110 rfl (lv_at hl 3 rfl) ?_
          refine va_get (D := (dC, dI)) (ci := 12) (v := .ref a_t_high) (C := RX9) (T := TX9) (N := 9) hx hb hta inX9w hown hK hP 0 rfl rfl 7 (by decide) (hta _ lk_X9_28) (fun _ h9 => h9) rfl dX9_passesReckoning_111 ?_
          refine lv_iload_n hx hb dX9_passesReckoning_114 rfl (lv_at hl 2 rfl) ?_
          obtain ⟨hc, h⟩ := gc_some h
          refine va_lald hx hb hK hP 2 3 rfl rfl (inb_in hc) dX9_passesReckoning_115 ?_
          obtain ⟨r5, hq, h⟩ := gb_some h
          refine crL (va_runS (As := [.int p1, .long (t_low v2.toNatClampNeg), .long (t_high v2.toNatClampNeg), .long (t_low v1.toNatClampNeg), .long (t_high v1.toNatClampNeg)]) (rest := []) ⟨hx, hb, hml, hown, hta⟩ (c_X5_highest l dC dI cT hq) (cS hta lm_X9_90 md_X5_highest ⟨(Nat.le_of_ble_eq_true rfl), (Nat.le_of_ble_eq_true rfl)⟩) ⟨fbK, fun U hU hW => ⟨rfl, hU, va_K.moved hW.alike hK⟩⟩ rfl rfl hl.1 rfl (lv_room (Nat.le_of_ble_eq_true rfl)) dX9_passesReckoning_116 ⟨(Nat.le_of_ble_eq_true rfl), (Nat.le_of_ble_eq_true rfl)⟩) hS hA (fun locs hS => ?_)
          refine lv_lstore (lv' := [(6, .long r5), (4, .long r4), (3, .int v2), (2, .int v1), (0, .ref a_t), (1, .int p1)]) hx hb dX9_passesReckoning_119 hl (by decide) rfl (fun ls hl => ?_)
          refine lv_aload_n hx hb dX9_passesReckoning_121 rfl (lv_at hl 4 rfl) ?_
          refine va_get (D := (dC, dI)) (ci := 12) (v := .ref a_t_low) (C := RX9) (T := TX9) (N := 9) hx hb hta inX9w hown hK hP 0 rfl rfl 6 (by decide) (hta _ lk_X9_25) (fun _ h9 => h9) rfl dX9_passesReckoning_122 ?_
          refine lv_iload_n hx hb dX9_passesReckoning_125 rfl (lv_at hl 2 rfl) ?_
          refine lv_lload hx hb dX9_passesReckoning_126 (lv_at hl 1 rfl) ?_
          obtain ⟨hc, h⟩ := gc_some h
          refine va_last hx hb hK hP hD hS 1 3 rfl rfl (inb_in hc) dX9_passesReckoning_128 (fun H locs hP hD hS => ?_)
          have hP : va_P (dC, dI) vwCl [(a_t, .inr (12, [.int t_faultAt, .int t_stores, .ref a_t_storeIsBroth, .ref a_t_storeLow, .ref a_t_storeHigh, .ref a_t_isBroth, .ref a_t_low, .ref a_t_high, .int v3])), (a_t_low, .inl (cT 3, 5, .inr (.inl (vp_updL t_low v2.toNatClampNeg r4)))), (a_t_high, .inl (cT 3, 5, .inr (.inl t_high)))] H := hP
          have hD : va_D A [(a_t, .inr (12, [.int t_faultAt, .int t_stores, .ref a_t_storeIsBroth, .ref a_t_storeLow, .ref a_t_storeHigh, .ref a_t_isBroth, .ref a_t_low, .ref a_t_high, .int v3])), (a_t_low, .inl (cT 3, 5, .inr (.inl (vp_updL t_low v2.toNatClampNeg r4)))), (a_t_high, .inl (cT 3, 5, .inr (.inl t_high)))] := hD
          refine lv_aload_n hx hb dX9_passesReckoning_129 rfl (lv_at hl 4 rfl) ?_
          refine va_get (D := (dC, dI)) (ci := 12) (v := .ref a_t_high) (C := RX9) (T := TX9) (N := 9) hx hb hta inX9w hown hK hP 0 rfl rfl 7 (by decide) (hta _ lk_X9_28) (fun _ h9 => h9) rfl dX9_passesReckoning_130 ?_
          refine lv_iload_n hx hb dX9_passesReckoning_133 rfl (lv_at hl 2 rfl) ?_
          refine lv_lload hx hb dX9_passesReckoning_134 (lv_at hl 0 rfl) ?_
          obtain ⟨hc, h⟩ := gc_some h
          refine va_last hx hb hK hP hD hS 2 3 rfl rfl (inb_in hc) dX9_passesReckoning_136 (fun H locs hP hD hS => ?_)
          have hP : va_P (dC, dI) vwCl [(a_t, .inr (12, [.int t_faultAt, .int t_stores, .ref a_t_storeIsBroth, .ref a_t_storeLow, .ref a_t_storeHigh, .ref a_t_isBroth, .ref a_t_low, .ref a_t_high, .int v3])), (a_t_low, .inl (cT 3, 5, .inr (.inl (vp_updL t_low v2.toNatClampNeg r4)))), (a_t_high, .inl (cT 3, 5, .inr (.inl (vp_updL t_high v2.toNatClampNeg r5))))] H := hP
          have hD : va_D A [(a_t, .inr (12, [.int t_faultAt, .int t_stores, .ref a_t_storeIsBroth, .ref a_t_storeLow, .ref a_t_storeHigh, .ref a_t_isBroth, .ref a_t_low, .ref a_t_high, .int v3])), (a_t_low, .inl (cT 3, 5, .inr (.inl (vp_updL t_low v2.toNatClampNeg r4)))), (a_t_high, .inl (cT 3, 5, .inr (.inl (vp_updL t_high v2.toNatClampNeg r5))))] := hD
          refine lv_lload hx hb dX9_passesReckoning_137 (lv_at hl 1 rfl) ?_
          obtain ⟨r6, hq, h⟩ := gb_some h
          refine crI (va_runS (As := [.long r4]) (rest := []) ⟨hx, hb, hml, hown, hta⟩ (c_X5_excess l dC dI cT hq) (cS hta lm_X9_93 md_X5_excess ⟨(Nat.le_of_ble_eq_true rfl), (Nat.le_of_ble_eq_true rfl)⟩) ⟨fbK, fun U hU hW => ⟨rfl, hU, va_K.moved hW.alike hK⟩⟩ rfl rfl hl.1 rfl (lv_room (Nat.le_of_ble_eq_true rfl)) dX9_passesReckoning_139 ⟨(Nat.le_of_ble_eq_true rfl), (Nat.le_of_ble_eq_true rfl)⟩) hS hA (fun locs hS => ?_)
          refine lv_if_ne (tgt := 157) hx hb dX9_passesReckoning_142 (by decide) (fun c0 => ?_) (fun c0 => ?_)
          · have h := (if_neg c0).symm.trans h
            refine lv_iconst (v := 0) hx hb dX9_passesReckoning_157 (by decide) ?_
            have ho := Option.some.inj h
            exact W.zret (ty := .boolean) (v := 0) hx hb hr rfl (fun t ht hW => ⟨⟨0, (), rfl, by rw [← ho], by show va_P (dC, dI) vwCl _ t.heap; rw [ht, ← ho]; exact hP⟩, hS.F ht⟩) hS.2.2 dX9_passesReckoning_158
          · have h := (if_pos c0).symm.trans h
            refine lv_lload hx hb dX9_passesReckoning_145 (lv_at hl 0 rfl) ?_
            obtain ⟨r7, hq, h⟩ := gb_some h
            refine crI (va_runS (As := [.long r5]) (rest := []) ⟨hx, hb, hml, hown, hta⟩ (c_X5_excess l dC dI cT hq) (cS hta lm_X9_93 md_X5_excess ⟨(Nat.le_of_ble_eq_true rfl), (Nat.le_of_ble_eq_true rfl)⟩) ⟨fbK, fun U hU hW => ⟨rfl, hU, va_K.moved hW.alike hK⟩⟩ rfl rfl hl.1 rfl (lv_room (Nat.le_of_ble_eq_true rfl)) dX9_passesReckoning_147 ⟨(Nat.le_of_ble_eq_true rfl), (Nat.le_of_ble_eq_true rfl)⟩) hS hA (fun locs hS => ?_)
            refine lv_if_ne (tgt := 157) hx hb dX9_passesReckoning_150 (by decide) (fun c0 => ?_) (fun c0 => ?_)
            · have h := (if_neg c0).symm.trans h
              refine lv_iconst (v := 0) hx hb dX9_passesReckoning_157 (by decide) ?_
              have ho := Option.some.inj h
              exact W.zret (ty := .boolean) (v := 0) hx hb hr rfl (fun t ht hW => ⟨⟨0, (), rfl, by rw [← ho], by show va_P (dC, dI) vwCl _ t.heap; rw [ht, ← ho]; exact hP⟩, hS.F ht⟩) hS.2.2 dX9_passesReckoning_158
            · have h := (if_pos c0).symm.trans h
              refine lv_iconst (v := 1) hx hb dX9_passesReckoning_153 (by decide) ?_
              refine lv_goto (tgt := 158) hx hb dX9_passesReckoning_154 (by decide) ?_
              have ho := Option.some.inj h
              exact W.zret (ty := .boolean) (v := 1) hx hb hr rfl (fun t ht hW => ⟨⟨1, (), rfl, by rw [← ho], by show va_P (dC, dI) vwCl _ t.heap; rw [ht, ← ho]; exact hP⟩, hS.F ht⟩) hS.2.2 dX9_passesReckoning_158
        · have h := (if_neg c0).symm.trans h
          refine lv_iconst (v := 1) hx hb dX9_passesReckoning_59 (by decide) ?_
          have ho := Option.some.inj h
          exact W.zret (ty := .boolean) (v := 1) hx hb hr rfl (fun t ht hW => ⟨⟨1, (), rfl, by rw [← ho], by show va_P (dC, dI) vwCl _ t.heap; rw [ht, ← ho]; exact hP⟩, hS.F ht⟩) hS.2.2 dX9_passesReckoning_60
      · have h := (if_neg c0).symm.trans h
        refine lv_iconst (v := 0) hx hb dX9_passesReckoning_38 (by decide) ?_
        have ho := Option.some.inj h
        exact W.zret (ty := .boolean) (v := 0) hx hb hr rfl (fun t ht hW => ⟨⟨0, (), rfl, by rw [← ho], by show va_P (dC, dI) vwCl _ t.heap; rw [ht, ← ho]; exact hP⟩, hS.F ht⟩) hS.2.2 dX9_passesReckoning_39
set_option maxHeartbeats 4000000 in
set_option maxRecDepth 100000 in
theorem c_X9_passesToken (l : Launch) (dC : Nat → ClassId) (dI : Nat → Nat → Nat) (cT : Nat → ClassId) {Hh : Heap} {a_t : Nat} {a_p3 : Nat} {a_p3_isBroth : Nat} {a_p3_low : Nat} {a_p3_high : Nat} {a_t_isBroth : Nat} {a_t_low : Nat} {a_t_high : Nat} {a_t_storeIsBroth : Nat} {a_t_storeLow : Nat} {a_t_storeHigh : Nat} {a_p3_contents : Nat} {a_p3_storesIn : Nat} {a_p3_texts : Nat} {a_p3_cooked : Nat} {t_stores : Int32} {t_spoons : Int32} {p3_isBroth : Nat → Int32} {p3_low : Nat → Int32} {p3_high : Nat → Int32} {t_isBroth : Nat → Int32} {t_low : Nat → Int64} {t_high : Nat → Int64} {t_storeIsBroth : Nat → Int32} {t_storeLow : Nat → Int64} {t_storeHigh : Nat → Int64} {p1 : Int32} {p2 : Int32} {t_faultAt : Int32} {p3_cauldrons : Int32} {p3_spells : Int32} {p3_cookedSoFar : Int32} {p3_storesSoFar : Int32} {o : Int32 × Int32 × Int32 × (Nat → Int32) × (Nat → Int64) × (Nat → Int64) × (Nat → Int32) × (Nat → Int64) × (Nat → Int64)} (h : g_X9_passesToken t_stores t_spoons p3_isBroth p3_low p3_high t_isBroth t_low t_high t_storeIsBroth t_storeLow t_storeHigh p1 p2 = some o) (hP0 : va_P (dC, dI) vwCl [(a_t, .inr (12, [.int t_faultAt, .int t_stores, .ref a_t_storeIsBroth, .ref a_t_storeLow, .ref a_t_storeHigh, .ref a_t_isBroth, .ref a_t_low, .ref a_t_high, .int t_spoons])), (a_t_isBroth, .inl (cT 1, 5, .inl t_isBroth)), (a_t_low, .inl (cT 3, 5, .inr (.inl t_low))), (a_t_high, .inl (cT 3, 5, .inr (.inl t_high))), (a_t_storeIsBroth, .inl (cT 1, 24, .inl t_storeIsBroth)), (a_t_storeLow, .inl (cT 3, 24, .inr (.inl t_storeLow))), (a_t_storeHigh, .inl (cT 3, 24, .inr (.inl t_storeHigh)))] Hh) (hR0 : va_P (dC, dI) vwCl [(a_p3, .inr (4, [.int p3_cauldrons, .ref a_p3_isBroth, .ref a_p3_low, .ref a_p3_high, .ref a_p3_contents, .ref a_p3_storesIn, .int p3_spells, .ref a_p3_texts, .ref a_p3_cooked, .int p3_cookedSoFar, .int p3_storesSoFar])), (a_p3_isBroth, .inl (cT 1, 6, .inl p3_isBroth)), (a_p3_low, .inl (cT 0, 6, .inl p3_low)), (a_p3_high, .inl (cT 0, 6, .inl p3_high))] Hh) (hD0 : va_D (fun _ => True) [(a_t, .inr (12, [.int t_faultAt, .int t_stores, .ref a_t_storeIsBroth, .ref a_t_storeLow, .ref a_t_storeHigh, .ref a_t_isBroth, .ref a_t_low, .ref a_t_high, .int t_spoons])), (a_t_isBroth, .inl (cT 1, 5, .inl t_isBroth)), (a_t_low, .inl (cT 3, 5, .inr (.inl t_low))), (a_t_high, .inl (cT 3, 5, .inr (.inl t_high))), (a_t_storeIsBroth, .inl (cT 1, 24, .inl t_storeIsBroth)), (a_t_storeLow, .inl (cT 3, 24, .inr (.inl t_storeLow))), (a_t_storeHigh, .inl (cT 3, 24, .inr (.inl t_storeHigh)))]) (hN0 : ∀ (k : Nat) (q : Nat × va_E), ([(a_p3, .inr (4, [.int p3_cauldrons, .ref a_p3_isBroth, .ref a_p3_low, .ref a_p3_high, .ref a_p3_contents, .ref a_p3_storesIn, .int p3_spells, .ref a_p3_texts, .ref a_p3_cooked, .int p3_cookedSoFar, .int p3_storesSoFar])), (a_p3_isBroth, .inl (cT 1, 6, .inl p3_isBroth)), (a_p3_low, .inl (cT 0, 6, .inl p3_low)), (a_p3_high, .inl (cT 0, 6, .inl p3_high))] : va_W)[k]? = some q → ¬ va_A [(a_t, .inr (12, [.int t_faultAt, .int t_stores, .ref a_t_storeIsBroth, .ref a_t_storeLow, .ref a_t_storeHigh, .ref a_t_isBroth, .ref a_t_low, .ref a_t_high, .int t_spoons])), (a_t_isBroth, .inl (cT 1, 5, .inl t_isBroth)), (a_t_low, .inl (cT 3, 5, .inr (.inl t_low))), (a_t_high, .inl (cT 3, 5, .inr (.inl t_high))), (a_t_storeIsBroth, .inl (cT 1, 24, .inl t_storeIsBroth)), (a_t_storeLow, .inl (cT 3, 24, .inr (.inl t_storeLow))), (a_t_storeHigh, .inl (cT 3, 24, .inr (.inl t_storeHigh)))] Hh.size q.1) : Met l yX9_passesToken (wA yX9_passesToken cX9_passesToken 4 (some .boolean)) ({ frames := 3, cells := 0, slots := 0, locals := 76 } : Room) (PK dC dI cT [.ref a_t, .int p1, .int p2, .ref a_p3] Hh) (va_Qi (fun x (_ : Unit) => x = o.1) (fun _ t => va_P (dC, dI) vwCl [(a_t, .inr (12, [.int t_faultAt, .int o.2.1, .ref a_t_storeIsBroth, .ref a_t_storeLow, .ref a_t_storeHigh, .ref a_t_isBroth, .ref a_t_low, .ref a_t_high, .int o.2.2.1])), (a_t_isBroth, .inl (cT 1, 5, .inl o.2.2.2.1)), (a_t_low, .inl (cT 3, 5, .inr (.inl o.2.2.2.2.1))), (a_t_high, .inl (cT 3, 5, .inr (.inl o.2.2.2.2.2.1))), (a_t_storeIsBroth, .inl (cT 1, 24, .inl o.2.2.2.2.2.2.1)), (a_t_storeLow, .inl (cT 3, 24, .inr (.inl o.2.2.2.2.2.2.2.1))), (a_t_storeHigh, .inl (cT 3, 24, .inr (.inl o.2.2.2.2.2.2.2.2)))] t.heap) (va_A [(a_t, .inr (12, [.int t_faultAt, .int t_stores, .ref a_t_storeIsBroth, .ref a_t_storeLow, .ref a_t_storeHigh, .ref a_t_isBroth, .ref a_t_low, .ref a_t_high, .int t_spoons])), (a_t_isBroth, .inl (cT 1, 5, .inl t_isBroth)), (a_t_low, .inl (cT 3, 5, .inr (.inl t_low))), (a_t_high, .inl (cT 3, 5, .inr (.inl t_high))), (a_t_storeIsBroth, .inl (cT 1, 24, .inl t_storeIsBroth)), (a_t_storeLow, .inl (cT 3, 24, .inr (.inl t_storeLow))), (a_t_storeHigh, .inl (cT 3, 24, .inr (.inl t_storeHigh)))] Hh.size)) 0 0 (va_A [(a_t, .inr (12, [.int t_faultAt, .int t_stores, .ref a_t_storeIsBroth, .ref a_t_storeLow, .ref a_t_storeHigh, .ref a_t_isBroth, .ref a_t_low, .ref a_t_high, .int t_spoons])), (a_t_isBroth, .inl (cT 1, 5, .inl t_isBroth)), (a_t_low, .inl (cT 3, 5, .inr (.inl t_low))), (a_t_high, .inl (cT 3, 5, .inr (.inl t_high))), (a_t_storeIsBroth, .inl (cT 1, 24, .inl t_storeIsBroth)), (a_t_storeLow, .inl (cT 3, 24, .inr (.inl t_storeLow))), (a_t_storeHigh, .inl (cT 3, 24, .inr (.inl t_storeHigh)))] Hh.size) := by
  refine Met.ofW (cc := cX9_passesToken) (maxL := 4) (ret := (some .boolean)) (by decide) rfl ?_
  intro p e s m args below meth c s₁ B hml hv
  obtain ⟨rfl, hH, hK⟩ := hv
  subst hH
  have hx := B.exec
  have hb := B.bytes
  have hr := B.returns
  have hta : ∀ w ∈ ALLW, w.before [.ref a_t, .int p1, .int p2, .ref a_p3].toArray s = true := fun w hw => atoms_spec (ws := wA yX9_passesToken cX9_passesToken 4 (some .boolean)) B.pre w (List.mem_cons_of_mem _ hw)
  have hown : s.vm.findClass RX9 = some m.cls := findClass_of_methodNamed B.named
  have hlocks := B.notSynchronized
  have hD := hD0.self (sz := s.heap.size)
  have hNA := hN0
  generalize hAe : va_A [(a_t, .inr (12, [.int t_faultAt, .int t_stores, .ref a_t_storeIsBroth, .ref a_t_storeLow, .ref a_t_storeHigh, .ref a_t_isBroth, .ref a_t_low, .ref a_t_high, .int t_spoons])), (a_t_isBroth, .inl (cT 1, 5, .inl t_isBroth)), (a_t_low, .inl (cT 3, 5, .inr (.inl t_low))), (a_t_high, .inl (cT 3, 5, .inr (.inl t_high))), (a_t_storeIsBroth, .inl (cT 1, 24, .inl t_storeIsBroth)), (a_t_storeLow, .inl (cT 3, 24, .inr (.inl t_storeLow))), (a_t_storeHigh, .inl (cT 3, 24, .inr (.inl t_storeHigh)))] s.heap.size = A at hD hNA ⊢
  have hP := hP0
  have hA : ∀ q : Nat, s.heap.size ≤ q → A q := fun q h => by rw [← hAe]; exact Or.inr h
  have hS : va_S A s.heap s.heap [] := va_S.rf
  have hl := lv_entry [.ref a_t, .int p1, .int p2, .ref a_p3] (n := 4) (Nat.le_of_ble_eq_true rfl)
  rw [lg_entry_eq]
  generalize (lg_sl [.ref a_t, .int p1, .int p2, .ref a_p3] ++ List.replicate (4 - (lg_sl [.ref a_t, .int p1, .int p2, .ref a_p3]).length) Slot.unset).toArray = ls at hl ⊢
  have hl : lv_has ls 4 [(0, .ref a_t), (1, .int p1), (2, .int p2), (3, .ref a_p3)] := hl
  obtain ⟨Q, hQ⟩ : ∃ Q, Q = MQ below (va_Qi (fun x (_ : Unit) => x = o.1) (fun _ t => va_P (dC, dI) vwCl [(a_t, .inr (12, [.int t_faultAt, .int o.2.1, .ref a_t_storeIsBroth, .ref a_t_storeLow, .ref a_t_storeHigh, .ref a_t_isBroth, .ref a_t_low, .ref a_t_high, .int o.2.2.1])), (a_t_isBroth, .inl (cT 1, 5, .inl o.2.2.2.1)), (a_t_low, .inl (cT 3, 5, .inr (.inl o.2.2.2.2.1))), (a_t_high, .inl (cT 3, 5, .inr (.inl o.2.2.2.2.2.1))), (a_t_storeIsBroth, .inl (cT 1, 24, .inl o.2.2.2.2.2.2.1)), (a_t_storeLow, .inl (cT 3, 24, .inr (.inl o.2.2.2.2.2.2.2.1))), (a_t_storeHigh, .inl (cT 3, 24, .inr (.inl o.2.2.2.2.2.2.2.2)))] t.heap) A) [.ref a_t, .int p1, .int p2, .ref a_p3].toArray s 0 0 A := ⟨_, rfl⟩
  rw [← hQ]
  have wB_138 : ∀ (H : Heap) (locs : List Loc) (ls : Array Slot), g_X9_passesToken_b138 t_stores t_spoons t_isBroth t_low t_high t_storeIsBroth t_storeLow t_storeHigh p1 = some o → va_P (dC, dI) vwCl [(a_t, .inr (12, [.int t_faultAt, .int t_stores, .ref a_t_storeIsBroth, .ref a_t_storeLow, .ref a_t_storeHigh, .ref a_t_isBroth, .ref a_t_low, .ref a_t_high, .int t_spoons])), (a_t_isBroth, .inl (cT 1, 5, .inl t_isBroth)), (a_t_low, .inl (cT 3, 5, .inr (.inl t_low))), (a_t_high, .inl (cT 3, 5, .inr (.inl t_high))), (a_t_storeIsBroth, .inl (cT 1, 24, .inl t_storeIsBroth)), (a_t_storeLow, .inl (cT 3, 24, .inr (.inl t_storeLow))), (a_t_storeHigh, .inl (cT 3, 24, .inr (.inl t_storeHigh)))] H → va_D A [(a_t, .inr (12, [.int t_faultAt, .int t_stores, .ref a_t_storeIsBroth, .ref a_t_storeLow, .ref a_t_storeHigh, .ref a_t_isBroth, .ref a_t_low, .ref a_t_high, .int t_spoons])), (a_t_isBroth, .inl (cT 1, 5, .inl t_isBroth)), (a_t_low, .inl (cT 3, 5, .inr (.inl t_low))), (a_t_high, .inl (cT 3, 5, .inr (.inl t_high))), (a_t_storeIsBroth, .inl (cT 1, 24, .inl t_storeIsBroth)), (a_t_storeLow, .inl (cT 3, 24, .inr (.inl t_storeLow))), (a_t_storeHigh, .inl (cT 3, 24, .inr (.inl t_storeHigh)))] → va_S A s.heap H locs → lv_has ls 4 [(0, .ref a_t), (1, .int p1)] → W p l e ({ frames := 3, cells := 0, slots := 0, locals := 76 } : Room) s m [.ref a_t, .int p1, .int p2, .ref a_p3].toArray below meth c H locs 0 0 Q (F0 m 138 ls []) := by
    intro H locs ls h hP hD hS hl
    unfold g_X9_passesToken_b138 at h
    refine lv_aload_n hx hb dX9_passesToken_138 rfl (lv_at hl 0 rfl) ?_
    refine lv_iload_n hx hb dX9_passesToken_139 rfl (lv_at hl 1 rfl) ?_
    obtain ⟨r6, hq, h⟩ := gb_some h
    refine cxI (X2 := [(a_t, .inr (12, [.int t_faultAt, .int t_stores, .ref a_t_storeIsBroth, .ref a_t_storeLow, .ref a_t_storeHigh, .ref a_t_isBroth, .ref a_t_low, .ref a_t_high, .int r6.2.1])), (a_t_isBroth, .inl (cT 1, 5, .inl t_isBroth)), (a_t_low, .inl (cT 3, 5, .inr (.inl r6.2.2.1))), (a_t_high, .inl (cT 3, 5, .inr (.inl r6.2.2.2))), (a_t_storeIsBroth, .inl (cT 1, 24, .inl t_storeIsBroth)), (a_t_storeLow, .inl (cT 3, 24, .inr (.inl t_storeLow))), (a_t_storeHigh, .inl (cT 3, 24, .inr (.inl t_storeHigh)))]) (va_runV (As := [.int p1]) (rest := []) ⟨hx, hb, hml, hown, hta⟩ (c_X9_passesReckoning l dC dI cT hq (hP.sub (ws' := [(a_t, .inr (12, [.int t_faultAt, .int t_stores, .ref a_t_storeIsBroth, .ref a_t_storeLow, .ref a_t_storeHigh, .ref a_t_isBroth, .ref a_t_low, .ref a_t_high, .int t_spoons])), (a_t_low, .inl (cT 3, 5, .inr (.inl t_low))), (a_t_high, .inl (cT 3, 5, .inr (.inl t_high)))]) [0, 2, 3] rfl) (hP.sub (ws' := [(a_t_isBroth, .inl (cT 1, 5, .inl t_isBroth))]) [1] rfl) (ds hD [0, 2, 3] (by decide) rfl) (nac hP hD [0, 2, 3] rfl (va_free hD hS hA [0, 2, 3] rfl) na_nil [.inr 1] rfl rfl)) (cV hta lm_X9_76 md_X9_passesReckoning ⟨(Nat.le_of_ble_eq_true rfl), (Nat.le_of_ble_eq_true rfl)⟩) ⟨fbK, va_recv hK hP (ci := 12) (q0 := 0) rfl rfl, fun U hU hW => ⟨rfl, hU, va_K.moved hW.alike hK⟩⟩ rfl rfl hl.1 rfl (lv_room (Nat.le_of_ble_eq_true rfl)) dX9_passesToken_140 ⟨(Nat.le_of_ble_eq_true rfl), (Nat.le_of_ble_eq_true rfl)⟩) hS hA hP hD [0, 2, 3] rfl [.inl 0, .inr 1, .inl 1, .inl 2, .inr 4, .inr 5, .inr 6] rfl rfl rfl (fun H locs hP hD hS => ?_)
    obtain ⟨hc, h⟩ := gc_some h
    have ho := Option.some.inj h
    rw [hQ]
    exact W.zret (ty := .boolean) (v := r6.1) hx hb hr (bo_n hc) (fun t ht hW => ⟨⟨r6.1, (), rfl, by rw [← ho], by show va_P (dC, dI) vwCl _ t.heap; rw [ht, ← ho]; exact hP⟩, hS.F ht⟩) hS.2.2 dX9_passesToken_143
  unfold g_X9_passesToken at h
  refine lv_iload_n hx hb dX9_passesToken_0 rfl (lv_at hl 1 rfl) ?_
  by_cases cs8 : p1 = 0
  · have h := (if_pos cs8).symm.trans h
    refine lv_tableIn (tgt := 48) (off := 47) hx hb dX9_passesToken_1 (by rw [cs8]; decide) (by rw [cs8]; decide) (by rw [cs8]; rfl) (by decide) ?_
    refine lv_iload_n hx hb dX9_passesToken_48 rfl (lv_at hl 2 rfl) ?_
    refine lv_if_lt (tgt := 89) hx hb dX9_passesToken_49 (by decide) (fun c0 => ?_) (fun c0 => ?_)
    · have h := (if_pos c0).symm.trans h
      refine lv_iconst (v := 0) hx hb dX9_passesToken_89 (by decide) ?_
      have ho := Option.some.inj h
      rw [hQ]
      exact W.zret (ty := .boolean) (v := 0) hx hb hr rfl (fun t ht hW => ⟨⟨0, (), rfl, by rw [← ho], by show va_P (dC, dI) vwCl _ t.heap; rw [ht, ← ho]; exact hP⟩, hS.F ht⟩) hS.2.2 dX9_passesToken_90
    · have h := (if_neg c0).symm.trans h
      refine lv_iload_n hx hb dX9_passesToken_52 rfl (lv_at hl 2 rfl) ?_
      refine lv_bipush (v := 6) hx hb dX9_passesToken_53 (by decide) ?_
      refine lv_icmp_ge (tgt := 89) hx hb dX9_passesToken_55 (by decide) (fun c0 => ?_) (fun c0 => ?_)
      · have h := (if_pos c0).symm.trans h
        refine lv_iconst (v := 0) hx hb dX9_passesToken_89 (by decide) ?_
        have ho := Option.some.inj h
        rw [hQ]
        exact W.zret (ty := .boolean) (v := 0) hx hb hr rfl (fun t ht hW => ⟨⟨0, (), rfl, by rw [← ho], by show va_P (dC, dI) vwCl _ t.heap; rw [ht, ← ho]; exact hP⟩, hS.F ht⟩) hS.2.2 dX9_passesToken_90
      · have h := (if_neg c0).symm.trans h
        refine lv_aload_n hx hb dX9_passesToken_58 rfl (lv_at hl 0 rfl) ?_
        refine lv_aload_n hx hb dX9_passesToken_59 rfl (lv_at hl 3 rfl) ?_
        refine va_get (D := (dC, dI)) (ci := 4) (v := .ref a_p3_isBroth) (C := RX0) (T := TX0) (N := 11) hx hb hta inX0w hown hK (rk hR0 hNA hS) 0 rfl rfl 1 (by decide) (hta _ lk_X9_57) (fun _ h9 => h9) rfl dX9_passesToken_60 ?_
        refine lv_iload_n hx hb dX9_passesToken_63 rfl (lv_at hl 2 rfl) ?_
        obtain ⟨hc, h⟩ := gc_some h
        refine va_zald hx hb hK (rk hR0 hNA hS) 1 1 rfl rfl (inb_in hc) dX9_passesToken_64 ?_
        refine lv_aload_n hx hb dX9_passesToken_65 rfl (lv_at hl 3 rfl) ?_
        refine va_get (D := (dC, dI)) (ci := 4) (v := .ref a_p3_low) (C := RX0) (T := TX0) (N := 11) hx hb hta inX0w hown hK (rk hR0 hNA hS) 0 rfl rfl 2 (by decide) (hta _ lk_X9_60) (fun _ h9 => h9) rfl dX9_passesToken_66 ?_
        refine lv_iload_n hx hb dX9_passesToken_69 rfl (lv_at hl 2 rfl) ?_
        obtain ⟨hc, h⟩ := gc_some h
        refine va_iald hx hb hK (rk hR0 hNA hS) 2 0 rfl rfl (inb_in hc) dX9_passesToken_70 ?_
        refine lv_i2l hx hb dX9_passesToken_71 rfl ?_
        refine lv_aload_n hx hb dX9_passesToken_72 rfl (lv_at hl 3 rfl) ?_
        refine va_get (D := (dC, dI)) (ci := 4) (v := .ref a_p3_high) (C := RX0) (T := TX0) (N := 11) hx hb hta inX0w hown hK (rk hR0 hNA hS) 0 rfl rfl 3 (by decide) (hta _ lk_X9_62) (fun _ h9 => h9) rfl dX9_passesToken_73 ?_
        refine lv_iload_n hx hb dX9_passesToken_76 rfl (lv_at hl 2 rfl) ?_
        obtain ⟨hc, h⟩ := gc_some h
        refine va_iald hx hb hK (rk hR0 hNA hS) 3 0 rfl rfl (inb_in hc) dX9_passesToken_77 ?_
        refine lv_i2l hx hb dX9_passesToken_78 rfl ?_
        obtain ⟨r1, hq, h⟩ := gb_some h
        refine cxI (X2 := [(a_t, .inr (12, [.int t_faultAt, .int t_stores, .ref a_t_storeIsBroth, .ref a_t_storeLow, .ref a_t_storeHigh, .ref a_t_isBroth, .ref a_t_low, .ref a_t_high, .int r1.2.1])), (a_t_isBroth, .inl (cT 1, 5, .inl r1.2.2.1)), (a_t_low, .inl (cT 3, 5, .inr (.inl r1.2.2.2.1))), (a_t_high, .inl (cT 3, 5, .inr (.inl r1.2.2.2.2))), (a_t_storeIsBroth, .inl (cT 1, 24, .inl t_storeIsBroth)), (a_t_storeLow, .inl (cT 3, 24, .inr (.inl t_storeLow))), (a_t_storeHigh, .inl (cT 3, 24, .inr (.inl t_storeHigh)))]) (va_runV (As := [.int (p3_isBroth p2.toNatClampNeg), .long ((p3_low p2.toNatClampNeg).toInt64), .long ((p3_high p2.toNatClampNeg).toInt64)]) (rest := []) ⟨hx, hb, hml, hown, hta⟩ (c_X9_lay l dC dI cT hq (hP.sub (ws' := [(a_t, .inr (12, [.int t_faultAt, .int t_stores, .ref a_t_storeIsBroth, .ref a_t_storeLow, .ref a_t_storeHigh, .ref a_t_isBroth, .ref a_t_low, .ref a_t_high, .int t_spoons])), (a_t_isBroth, .inl (cT 1, 5, .inl t_isBroth)), (a_t_low, .inl (cT 3, 5, .inr (.inl t_low))), (a_t_high, .inl (cT 3, 5, .inr (.inl t_high)))]) [0, 1, 2, 3] rfl) (ds hD [0, 1, 2, 3] (by decide) rfl)) (cV hta lm_X9_64 md_X9_lay ⟨(Nat.le_of_ble_eq_true rfl), (Nat.le_of_ble_eq_true rfl)⟩) ⟨fbK, va_recv hK hP (ci := 12) (q0 := 0) rfl rfl, fun U hU hW => ⟨rfl, hU, va_K.moved hW.alike hK⟩⟩ rfl rfl hl.1 rfl (lv_room (Nat.le_of_ble_eq_true rfl)) dX9_passesToken_79 ⟨(Nat.le_of_ble_eq_true rfl), (Nat.le_of_ble_eq_true rfl)⟩) hS hA hP hD [0, 1, 2, 3] rfl [.inl 0, .inl 1, .inl 2, .inl 3, .inr 4, .inr 5, .inr 6] rfl rfl rfl (fun H locs hP hD hS => ?_)
        refine lv_if_eq (tgt := 89) hx hb dX9_passesToken_82 (by decide) (fun c0 => ?_) (fun c0 => ?_)
        · have h := (if_pos c0).symm.trans h
          refine lv_iconst (v := 0) hx hb dX9_passesToken_89 (by decide) ?_
          have ho := Option.some.inj h
          rw [hQ]
          exact W.zret (ty := .boolean) (v := 0) hx hb hr rfl (fun t ht hW => ⟨⟨0, (), rfl, by rw [← ho], by show va_P (dC, dI) vwCl _ t.heap; rw [ht, ← ho]; exact hP⟩, hS.F ht⟩) hS.2.2 dX9_passesToken_90
        · have h := (if_neg c0).symm.trans h
          refine lv_iconst (v := 1) hx hb dX9_passesToken_85 (by decide) ?_
          refine lv_goto (tgt := 90) hx hb dX9_passesToken_86 (by decide) ?_
          have ho := Option.some.inj h
          rw [hQ]
          exact W.zret (ty := .boolean) (v := 1) hx hb hr rfl (fun t ht hW => ⟨⟨1, (), rfl, by rw [← ho], by show va_P (dC, dI) vwCl _ t.heap; rw [ht, ← ho]; exact hP⟩, hS.F ht⟩) hS.2.2 dX9_passesToken_90
  · have h := (if_neg cs8).symm.trans h
    by_cases cs7 : p1 = 1
    · have h := (if_pos cs7).symm.trans h
      refine lv_tableIn (tgt := 91) (off := 90) hx hb dX9_passesToken_1 (by rw [cs7]; decide) (by rw [cs7]; decide) (by rw [cs7]; rfl) (by decide) ?_
      refine lv_aload_n hx hb dX9_passesToken_91 rfl (lv_at hl 0 rfl) ?_
      refine lv_iconst (v := 0) hx hb dX9_passesToken_92 (by decide) ?_
      refine lv_iload_n hx hb dX9_passesToken_93 rfl (lv_at hl 2 rfl) ?_
      refine lv_i2l hx hb dX9_passesToken_94 rfl ?_
      refine lv_iload_n hx hb dX9_passesToken_95 rfl (lv_at hl 2 rfl) ?_
      refine lv_i2l hx hb dX9_passesToken_96 rfl ?_
      obtain ⟨r2, hq, h⟩ := gb_some h
      refine cxI (X2 := [(a_t, .inr (12, [.int t_faultAt, .int t_stores, .ref a_t_storeIsBroth, .ref a_t_storeLow, .ref a_t_storeHigh, .ref a_t_isBroth, .ref a_t_low, .ref a_t_high, .int r2.2.1])), (a_t_isBroth, .inl (cT 1, 5, .inl r2.2.2.1)), (a_t_low, .inl (cT 3, 5, .inr (.inl r2.2.2.2.1))), (a_t_high, .inl (cT 3, 5, .inr (.inl r2.2.2.2.2))), (a_t_storeIsBroth, .inl (cT 1, 24, .inl t_storeIsBroth)), (a_t_storeLow, .inl (cT 3, 24, .inr (.inl t_storeLow))), (a_t_storeHigh, .inl (cT 3, 24, .inr (.inl t_storeHigh)))]) (va_runV (As := [.int 0, .long p2.toInt64, .long p2.toInt64]) (rest := []) ⟨hx, hb, hml, hown, hta⟩ (c_X9_lay l dC dI cT hq (hP.sub (ws' := [(a_t, .inr (12, [.int t_faultAt, .int t_stores, .ref a_t_storeIsBroth, .ref a_t_storeLow, .ref a_t_storeHigh, .ref a_t_isBroth, .ref a_t_low, .ref a_t_high, .int t_spoons])), (a_t_isBroth, .inl (cT 1, 5, .inl t_isBroth)), (a_t_low, .inl (cT 3, 5, .inr (.inl t_low))), (a_t_high, .inl (cT 3, 5, .inr (.inl t_high)))]) [0, 1, 2, 3] rfl) (ds hD [0, 1, 2, 3] (by decide) rfl)) (cV hta lm_X9_64 md_X9_lay ⟨(Nat.le_of_ble_eq_true rfl), (Nat.le_of_ble_eq_true rfl)⟩) ⟨fbK, va_recv hK hP (ci := 12) (q0 := 0) rfl rfl, fun U hU hW => ⟨rfl, hU, va_K.moved hW.alike hK⟩⟩ rfl rfl hl.1 rfl (lv_room (Nat.le_of_ble_eq_true rfl)) dX9_passesToken_97 ⟨(Nat.le_of_ble_eq_true rfl), (Nat.le_of_ble_eq_true rfl)⟩) hS hA hP hD [0, 1, 2, 3] rfl [.inl 0, .inl 1, .inl 2, .inl 3, .inr 4, .inr 5, .inr 6] rfl rfl rfl (fun H locs hP hD hS => ?_)
      obtain ⟨hc, h⟩ := gc_some h
      have ho := Option.some.inj h
      rw [hQ]
      exact W.zret (ty := .boolean) (v := r2.1) hx hb hr (bo_n hc) (fun t ht hW => ⟨⟨r2.1, (), rfl, by rw [← ho], by show va_P (dC, dI) vwCl _ t.heap; rw [ht, ← ho]; exact hP⟩, hS.F ht⟩) hS.2.2 dX9_passesToken_100
    · have h := (if_neg cs7).symm.trans h
      by_cases cs6 : p1 = 2
      · have h := (if_pos cs6).symm.trans h
        refine lv_tableIn (tgt := 138) (off := 137) hx hb dX9_passesToken_1 (by rw [cs6]; decide) (by rw [cs6]; decide) (by rw [cs6]; rfl) (by decide) ?_
        exact wB_138 _ _ _ h hP hD hS (lv_sub hl [0, 1] rfl)
      · have h := (if_neg cs6).symm.trans h
        by_cases cs5 : p1 = 3
        · have h := (if_pos cs5).symm.trans h
          refine lv_tableIn (tgt := 138) (off := 137) hx hb dX9_passesToken_1 (by rw [cs5]; decide) (by rw [cs5]; decide) (by rw [cs5]; rfl) (by decide) ?_
          exact wB_138 _ _ _ h hP hD hS (lv_sub hl [0, 1] rfl)
        · have h := (if_neg cs5).symm.trans h
          by_cases cs4 : p1 = 4
          · have h := (if_pos cs4).symm.trans h
            refine lv_tableIn (tgt := 138) (off := 137) hx hb dX9_passesToken_1 (by rw [cs4]; decide) (by rw [cs4]; decide) (by rw [cs4]; rfl) (by decide) ?_
            exact wB_138 _ _ _ h hP hD hS (lv_sub hl [0, 1] rfl)
          · have h := (if_neg cs4).symm.trans h
            by_cases cs3 : p1 = 5
            · have h := (if_pos cs3).symm.trans h
              refine lv_tableIn (tgt := 101) (off := 100) hx hb dX9_passesToken_1 (by rw [cs3]; decide) (by rw [cs3]; decide) (by rw [cs3]; rfl) (by decide) ?_
              refine lv_aload_n hx hb dX9_passesToken_101 rfl (lv_at hl 0 rfl) ?_
              refine lv_iconst (v := 1) hx hb dX9_passesToken_102 (by decide) ?_
              obtain ⟨r3, hq, h⟩ := gb_some h
              refine cxI (X2 := [(a_t, .inr (12, [.int t_faultAt, .int t_stores, .ref a_t_storeIsBroth, .ref a_t_storeLow, .ref a_t_storeHigh, .ref a_t_isBroth, .ref a_t_low, .ref a_t_high, .int t_spoons])), (a_t_isBroth, .inl (cT 1, 5, .inl r3.2.1)), (a_t_low, .inl (cT 3, 5, .inr (.inl r3.2.2.1))), (a_t_high, .inl (cT 3, 5, .inr (.inl r3.2.2.2))), (a_t_storeIsBroth, .inl (cT 1, 24, .inl t_storeIsBroth)), (a_t_storeLow, .inl (cT 3, 24, .inr (.inl t_storeLow))), (a_t_storeHigh, .inl (cT 3, 24, .inr (.inl t_storeHigh)))]) (va_runV (As := [.int 1]) (rest := []) ⟨hx, hb, hml, hown, hta⟩ (c_X9_passesCast l dC dI cT hq (hP.sub (ws' := [(a_t_isBroth, .inl (cT 1, 5, .inl t_isBroth)), (a_t_low, .inl (cT 3, 5, .inr (.inl t_low))), (a_t_high, .inl (cT 3, 5, .inr (.inl t_high)))]) [1, 2, 3] rfl) (hP.sub (ws' := [(a_t, .inr (12, [.int t_faultAt, .int t_stores, .ref a_t_storeIsBroth, .ref a_t_storeLow, .ref a_t_storeHigh, .ref a_t_isBroth, .ref a_t_low, .ref a_t_high, .int t_spoons]))]) [0] rfl) (ds hD [1, 2, 3] (by decide) rfl) (nac hP hD [1, 2, 3] rfl (va_free hD hS hA [1, 2, 3] rfl) na_nil [.inr 0] rfl rfl)) (cV hta lm_X9_68 md_X9_passesCast ⟨(Nat.le_of_ble_eq_true rfl), (Nat.le_of_ble_eq_true rfl)⟩) ⟨fbK, va_recv hK hP (ci := 12) (q0 := 0) rfl rfl, fun U hU hW => ⟨rfl, hU, va_K.moved hW.alike hK⟩⟩ rfl rfl hl.1 rfl (lv_room (Nat.le_of_ble_eq_true rfl)) dX9_passesToken_103 ⟨(Nat.le_of_ble_eq_true rfl), (Nat.le_of_ble_eq_true rfl)⟩) hS hA hP hD [1, 2, 3] rfl [.inr 0, .inl 0, .inl 1, .inl 2, .inr 4, .inr 5, .inr 6] rfl rfl rfl (fun H locs hP hD hS => ?_)
              obtain ⟨hc, h⟩ := gc_some h
              have ho := Option.some.inj h
              rw [hQ]
              exact W.zret (ty := .boolean) (v := r3.1) hx hb hr (bo_n hc) (fun t ht hW => ⟨⟨r3.1, (), rfl, by rw [← ho], by show va_P (dC, dI) vwCl _ t.heap; rw [ht, ← ho]; exact hP⟩, hS.F ht⟩) hS.2.2 dX9_passesToken_106
            · have h := (if_neg cs3).symm.trans h
              by_cases cs2 : p1 = 6
              · have h := (if_pos cs2).symm.trans h
                refine lv_tableIn (tgt := 107) (off := 106) hx hb dX9_passesToken_1 (by rw [cs2]; decide) (by rw [cs2]; decide) (by rw [cs2]; rfl) (by decide) ?_
                refine lv_aload_n hx hb dX9_passesToken_107 rfl (lv_at hl 0 rfl) ?_
                refine lv_iconst (v := 0) hx hb dX9_passesToken_108 (by decide) ?_
                obtain ⟨r4, hq, h⟩ := gb_some h
                refine cxI (X2 := [(a_t, .inr (12, [.int t_faultAt, .int t_stores, .ref a_t_storeIsBroth, .ref a_t_storeLow, .ref a_t_storeHigh, .ref a_t_isBroth, .ref a_t_low, .ref a_t_high, .int t_spoons])), (a_t_isBroth, .inl (cT 1, 5, .inl r4.2.1)), (a_t_low, .inl (cT 3, 5, .inr (.inl r4.2.2.1))), (a_t_high, .inl (cT 3, 5, .inr (.inl r4.2.2.2))), (a_t_storeIsBroth, .inl (cT 1, 24, .inl t_storeIsBroth)), (a_t_storeLow, .inl (cT 3, 24, .inr (.inl t_storeLow))), (a_t_storeHigh, .inl (cT 3, 24, .inr (.inl t_storeHigh)))]) (va_runV (As := [.int 0]) (rest := []) ⟨hx, hb, hml, hown, hta⟩ (c_X9_passesCast l dC dI cT hq (hP.sub (ws' := [(a_t_isBroth, .inl (cT 1, 5, .inl t_isBroth)), (a_t_low, .inl (cT 3, 5, .inr (.inl t_low))), (a_t_high, .inl (cT 3, 5, .inr (.inl t_high)))]) [1, 2, 3] rfl) (hP.sub (ws' := [(a_t, .inr (12, [.int t_faultAt, .int t_stores, .ref a_t_storeIsBroth, .ref a_t_storeLow, .ref a_t_storeHigh, .ref a_t_isBroth, .ref a_t_low, .ref a_t_high, .int t_spoons]))]) [0] rfl) (ds hD [1, 2, 3] (by decide) rfl) (nac hP hD [1, 2, 3] rfl (va_free hD hS hA [1, 2, 3] rfl) na_nil [.inr 0] rfl rfl)) (cV hta lm_X9_68 md_X9_passesCast ⟨(Nat.le_of_ble_eq_true rfl), (Nat.le_of_ble_eq_true rfl)⟩) ⟨fbK, va_recv hK hP (ci := 12) (q0 := 0) rfl rfl, fun U hU hW => ⟨rfl, hU, va_K.moved hW.alike hK⟩⟩ rfl rfl hl.1 rfl (lv_room (Nat.le_of_ble_eq_true rfl)) dX9_passesToken_109 ⟨(Nat.le_of_ble_eq_true rfl), (Nat.le_of_ble_eq_true rfl)⟩) hS hA hP hD [1, 2, 3] rfl [.inr 0, .inl 0, .inl 1, .inl 2, .inr 4, .inr 5, .inr 6] rfl rfl rfl (fun H locs hP hD hS => ?_)
                obtain ⟨hc, h⟩ := gc_some h
                have ho := Option.some.inj h
                rw [hQ]
                exact W.zret (ty := .boolean) (v := r4.1) hx hb hr (bo_n hc) (fun t ht hW => ⟨⟨r4.1, (), rfl, by rw [← ho], by show va_P (dC, dI) vwCl _ t.heap; rw [ht, ← ho]; exact hP⟩, hS.F ht⟩) hS.2.2 dX9_passesToken_112
              · have h := (if_neg cs2).symm.trans h
                by_cases cs1 : p1 = 7
                · have h := (if_pos cs1).symm.trans h
                  refine lv_tableIn (tgt := 113) (off := 112) hx hb dX9_passesToken_1 (by rw [cs1]; decide) (by rw [cs1]; decide) (by rw [cs1]; rfl) (by decide) ?_
                  refine lv_iload_n hx hb dX9_passesToken_113 rfl (lv_at hl 2 rfl) ?_
                  refine lv_if_lt (tgt := 136) hx hb dX9_passesToken_114 (by decide) (fun c0 => ?_) (fun c0 => ?_)
                  · have h := (if_pos c0).symm.trans h
                    refine lv_iconst (v := 0) hx hb dX9_passesToken_136 (by decide) ?_
                    have ho := Option.some.inj h
                    rw [hQ]
                    exact W.zret (ty := .boolean) (v := 0) hx hb hr rfl (fun t ht hW => ⟨⟨0, (), rfl, by rw [← ho], by show va_P (dC, dI) vwCl _ t.heap; rw [ht, ← ho]; exact hP⟩, hS.F ht⟩) hS.2.2 dX9_passesToken_137
                  · have h := (if_neg c0).symm.trans h
                    refine lv_iload_n hx hb dX9_passesToken_117 rfl (lv_at hl 2 rfl) ?_
                    refine lv_bipush (v := 6) hx hb dX9_passesToken_118 (by decide) ?_
                    refine lv_icmp_ge (tgt := 136) hx hb dX9_passesToken_120 (by decide) (fun c0 => ?_) (fun c0 => ?_)
                    · have h := (if_pos c0).symm.trans h
                      refine lv_iconst (v := 0) hx hb dX9_passesToken_136 (by decide) ?_
                      have ho := Option.some.inj h
                      rw [hQ]
                      exact W.zret (ty := .boolean) (v := 0) hx hb hr rfl (fun t ht hW => ⟨⟨0, (), rfl, by rw [← ho], by show va_P (dC, dI) vwCl _ t.heap; rw [ht, ← ho]; exact hP⟩, hS.F ht⟩) hS.2.2 dX9_passesToken_137
                    · have h := (if_neg c0).symm.trans h
                      refine lv_aload_n hx hb dX9_passesToken_123 rfl (lv_at hl 0 rfl) ?_
                      refine lv_iload_n hx hb dX9_passesToken_124 rfl (lv_at hl 2 rfl) ?_
                      refine lv_aload_n hx hb dX9_passesToken_125 rfl (lv_at hl 3 rfl) ?_
                      obtain ⟨r5, hq, h⟩ := gb_some h
                      refine cxI (X2 := [(a_t, .inr (12, [.int t_faultAt, .int r5.2.1, .ref a_t_storeIsBroth, .ref a_t_storeLow, .ref a_t_storeHigh, .ref a_t_isBroth, .ref a_t_low, .ref a_t_high, .int r5.2.2.1])), (a_t_isBroth, .inl (cT 1, 5, .inl t_isBroth)), (a_t_low, .inl (cT 3, 5, .inr (.inl t_low))), (a_t_high, .inl (cT 3, 5, .inr (.inl t_high))), (a_t_storeIsBroth, .inl (cT 1, 24, .inl r5.2.2.2.1)), (a_t_storeLow, .inl (cT 3, 24, .inr (.inl r5.2.2.2.2.1))), (a_t_storeHigh, .inl (cT 3, 24, .inr (.inl r5.2.2.2.2.2)))]) (va_runV (As := [.int p2, .ref a_p3]) (rest := []) ⟨hx, hb, hml, hown, hta⟩ (c_X9_passesStore l dC dI cT hq (hP.sub (ws' := [(a_t, .inr (12, [.int t_faultAt, .int t_stores, .ref a_t_storeIsBroth, .ref a_t_storeLow, .ref a_t_storeHigh, .ref a_t_isBroth, .ref a_t_low, .ref a_t_high, .int t_spoons])), (a_t_storeIsBroth, .inl (cT 1, 24, .inl t_storeIsBroth)), (a_t_storeLow, .inl (cT 3, 24, .inr (.inl t_storeLow))), (a_t_storeHigh, .inl (cT 3, 24, .inr (.inl t_storeHigh)))]) [0, 4, 5, 6] rfl) ((va_P.app hP (rk hR0 hNA hS)).sub (ws' := [(a_p3, .inr (4, [.int p3_cauldrons, .ref a_p3_isBroth, .ref a_p3_low, .ref a_p3_high, .ref a_p3_contents, .ref a_p3_storesIn, .int p3_spells, .ref a_p3_texts, .ref a_p3_cooked, .int p3_cookedSoFar, .int p3_storesSoFar])), (a_t_isBroth, .inl (cT 1, 5, .inl t_isBroth)), (a_t_low, .inl (cT 3, 5, .inr (.inl t_low))), (a_t_high, .inl (cT 3, 5, .inr (.inl t_high))), (a_p3_isBroth, .inl (cT 1, 6, .inl p3_isBroth)), (a_p3_low, .inl (cT 0, 6, .inl p3_low)), (a_p3_high, .inl (cT 0, 6, .inl p3_high))]) [7, 1, 2, 3, 8, 9, 10] rfl) (ds hD [0, 4, 5, 6] (by decide) rfl) (nac hP hD [0, 4, 5, 6] rfl (va_free hD hS hA [0, 4, 5, 6] rfl) hNA [.inl 0, .inr 1, .inr 2, .inr 3, .inl 1, .inl 2, .inl 3] rfl rfl)) (cV hta lm_X9_72 md_X9_passesStore ⟨(Nat.le_of_ble_eq_true rfl), (Nat.le_of_ble_eq_true rfl)⟩) ⟨fbK, va_recv hK hP (ci := 12) (q0 := 0) rfl rfl, fun U hU hW => ⟨rfl, hU, va_K.moved hW.alike hK⟩⟩ rfl rfl hl.1 rfl (lv_room (Nat.le_of_ble_eq_true rfl)) dX9_passesToken_126 ⟨(Nat.le_of_ble_eq_true rfl), (Nat.le_of_ble_eq_true rfl)⟩) hS hA hP hD [0, 4, 5, 6] rfl [.inl 0, .inr 1, .inr 2, .inr 3, .inl 1, .inl 2, .inl 3] rfl rfl rfl (fun H locs hP hD hS => ?_)
                      refine lv_if_eq (tgt := 136) hx hb dX9_passesToken_129 (by decide) (fun c0 => ?_) (fun c0 => ?_)
                      · have h := (if_pos c0).symm.trans h
                        refine lv_iconst (v := 0) hx hb dX9_passesToken_136 (by decide) ?_
                        have ho := Option.some.inj h
                        rw [hQ]
                        exact W.zret (ty := .boolean) (v := 0) hx hb hr rfl (fun t ht hW => ⟨⟨0, (), rfl, by rw [← ho], by show va_P (dC, dI) vwCl _ t.heap; rw [ht, ← ho]; exact hP⟩, hS.F ht⟩) hS.2.2 dX9_passesToken_137
                      · have h := (if_neg c0).symm.trans h
                        refine lv_iconst (v := 1) hx hb dX9_passesToken_132 (by decide) ?_
                        refine lv_goto (tgt := 137) hx hb dX9_passesToken_133 (by decide) ?_
                        have ho := Option.some.inj h
                        rw [hQ]
                        exact W.zret (ty := .boolean) (v := 1) hx hb hr rfl (fun t ht hW => ⟨⟨1, (), rfl, by rw [← ho], by show va_P (dC, dI) vwCl _ t.heap; rw [ht, ← ho]; exact hP⟩, hS.F ht⟩) hS.2.2 dX9_passesToken_137
                · have h := (if_neg cs1).symm.trans h
                  refine lv_tableOut (tgt := 138) hx hb dX9_passesToken_1 (by have q0 := lv_neT cs8 (a := 0) (by decide); have q1 := lv_neT cs7 (a := 1) (by decide); have q2 := lv_neT cs6 (a := 2) (by decide); have q3 := lv_neT cs5 (a := 3) (by decide); have q4 := lv_neT cs4 (a := 4) (by decide); have q5 := lv_neT cs3 (a := 5) (by decide); have q6 := lv_neT cs2 (a := 6) (by decide); have q7 := lv_neT cs1 (a := 7) (by decide); omega) (by decide) ?_
                  exact wB_138 _ _ _ h hP hD hS (lv_sub hl [0, 1] rfl)
set_option maxHeartbeats 4000000 in
set_option maxRecDepth 100000 in
theorem c_X9_passes (l : Launch) (dC : Nat → ClassId) (dI : Nat → Nat → Nat) (cT : Nat → ClassId) {Hh : Heap} {a_t : Nat} {a_p1 : Nat} {a_p2 : Nat} {a_p1_kinds : Nat} {a_p1_values : Nat} {a_p2_isBroth : Nat} {a_p2_low : Nat} {a_p2_high : Nat} {a_t_isBroth : Nat} {a_t_low : Nat} {a_t_high : Nat} {a_t_storeIsBroth : Nat} {a_t_storeLow : Nat} {a_t_storeHigh : Nat} {a_p1_text : Nat} {a_p1_firsts : Nat} {a_p1_parts : Nat} {a_p1_lastParts : Nat} {a_p2_contents : Nat} {a_p2_storesIn : Nat} {a_p2_texts : Nat} {a_p2_cooked : Nat} {t_faultAt : Int32} {t_stores : Int32} {t_spoons : Int32} {p1_tokens : Int32} {p1_kinds : Nat → Int32} {p1_values : Nat → Int32} {p2_isBroth : Nat → Int32} {p2_low : Nat → Int32} {p2_high : Nat → Int32} {t_isBroth : Nat → Int32} {t_low : Nat → Int64} {t_high : Nat → Int64} {t_storeIsBroth : Nat → Int32} {t_storeLow : Nat → Int64} {t_storeHigh : Nat → Int64} {p1_stores : Int32} {p1_mostSpoons : Int32} {p2_cauldrons : Int32} {p2_spells : Int32} {p2_cookedSoFar : Int32} {p2_storesSoFar : Int32} {o : Int32 × Int32 × Int32 × Int32 × (Nat → Int32) × (Nat → Int64) × (Nat → Int64) × (Nat → Int32) × (Nat → Int64) × (Nat → Int64)} (h : g_X9_passes t_faultAt t_stores t_spoons p1_tokens p1_kinds p1_values p2_isBroth p2_low p2_high t_isBroth t_low t_high t_storeIsBroth t_storeLow t_storeHigh = some o) (hP0 : va_P (dC, dI) vwCl [(a_t, .inr (12, [.int t_faultAt, .int t_stores, .ref a_t_storeIsBroth, .ref a_t_storeLow, .ref a_t_storeHigh, .ref a_t_isBroth, .ref a_t_low, .ref a_t_high, .int t_spoons])), (a_t_isBroth, .inl (cT 1, 5, .inl t_isBroth)), (a_t_low, .inl (cT 3, 5, .inr (.inl t_low))), (a_t_high, .inl (cT 3, 5, .inr (.inl t_high))), (a_t_storeIsBroth, .inl (cT 1, 24, .inl t_storeIsBroth)), (a_t_storeLow, .inl (cT 3, 24, .inr (.inl t_storeLow))), (a_t_storeHigh, .inl (cT 3, 24, .inr (.inl t_storeHigh)))] Hh) (hR0 : va_P (dC, dI) vwCl [(a_p1, .inr (11, [.ref a_p1_text, .int p1_tokens, .int p1_stores, .int p1_mostSpoons, .ref a_p1_firsts, .ref a_p1_kinds, .ref a_p1_values, .ref a_p1_parts, .ref a_p1_lastParts])), (a_p2, .inr (4, [.int p2_cauldrons, .ref a_p2_isBroth, .ref a_p2_low, .ref a_p2_high, .ref a_p2_contents, .ref a_p2_storesIn, .int p2_spells, .ref a_p2_texts, .ref a_p2_cooked, .int p2_cookedSoFar, .int p2_storesSoFar])), (a_p1_kinds, .inl (cT 0, 24, .inl p1_kinds)), (a_p1_values, .inl (cT 0, 24, .inl p1_values)), (a_p2_isBroth, .inl (cT 1, 6, .inl p2_isBroth)), (a_p2_low, .inl (cT 0, 6, .inl p2_low)), (a_p2_high, .inl (cT 0, 6, .inl p2_high))] Hh) (hD0 : va_D (fun _ => True) [(a_t, .inr (12, [.int t_faultAt, .int t_stores, .ref a_t_storeIsBroth, .ref a_t_storeLow, .ref a_t_storeHigh, .ref a_t_isBroth, .ref a_t_low, .ref a_t_high, .int t_spoons])), (a_t_isBroth, .inl (cT 1, 5, .inl t_isBroth)), (a_t_low, .inl (cT 3, 5, .inr (.inl t_low))), (a_t_high, .inl (cT 3, 5, .inr (.inl t_high))), (a_t_storeIsBroth, .inl (cT 1, 24, .inl t_storeIsBroth)), (a_t_storeLow, .inl (cT 3, 24, .inr (.inl t_storeLow))), (a_t_storeHigh, .inl (cT 3, 24, .inr (.inl t_storeHigh)))]) (hN0 : ∀ (k : Nat) (q : Nat × va_E), ([(a_p1, .inr (11, [.ref a_p1_text, .int p1_tokens, .int p1_stores, .int p1_mostSpoons, .ref a_p1_firsts, .ref a_p1_kinds, .ref a_p1_values, .ref a_p1_parts, .ref a_p1_lastParts])), (a_p2, .inr (4, [.int p2_cauldrons, .ref a_p2_isBroth, .ref a_p2_low, .ref a_p2_high, .ref a_p2_contents, .ref a_p2_storesIn, .int p2_spells, .ref a_p2_texts, .ref a_p2_cooked, .int p2_cookedSoFar, .int p2_storesSoFar])), (a_p1_kinds, .inl (cT 0, 24, .inl p1_kinds)), (a_p1_values, .inl (cT 0, 24, .inl p1_values)), (a_p2_isBroth, .inl (cT 1, 6, .inl p2_isBroth)), (a_p2_low, .inl (cT 0, 6, .inl p2_low)), (a_p2_high, .inl (cT 0, 6, .inl p2_high))] : va_W)[k]? = some q → ¬ va_A [(a_t, .inr (12, [.int t_faultAt, .int t_stores, .ref a_t_storeIsBroth, .ref a_t_storeLow, .ref a_t_storeHigh, .ref a_t_isBroth, .ref a_t_low, .ref a_t_high, .int t_spoons])), (a_t_isBroth, .inl (cT 1, 5, .inl t_isBroth)), (a_t_low, .inl (cT 3, 5, .inr (.inl t_low))), (a_t_high, .inl (cT 3, 5, .inr (.inl t_high))), (a_t_storeIsBroth, .inl (cT 1, 24, .inl t_storeIsBroth)), (a_t_storeLow, .inl (cT 3, 24, .inr (.inl t_storeLow))), (a_t_storeHigh, .inl (cT 3, 24, .inr (.inl t_storeHigh)))] Hh.size q.1) : Met l yX9_passes (wA yX9_passes cX9_passes 4 (some .boolean)) ({ frames := 4, cells := 0, slots := 0, locals := 99 } : Room) (PK dC dI cT [.ref a_t, .ref a_p1, .ref a_p2] Hh) (va_Qi (fun x (_ : Unit) => x = o.1) (fun _ t => va_P (dC, dI) vwCl [(a_t, .inr (12, [.int o.2.1, .int o.2.2.1, .ref a_t_storeIsBroth, .ref a_t_storeLow, .ref a_t_storeHigh, .ref a_t_isBroth, .ref a_t_low, .ref a_t_high, .int o.2.2.2.1])), (a_t_isBroth, .inl (cT 1, 5, .inl o.2.2.2.2.1)), (a_t_low, .inl (cT 3, 5, .inr (.inl o.2.2.2.2.2.1))), (a_t_high, .inl (cT 3, 5, .inr (.inl o.2.2.2.2.2.2.1))), (a_t_storeIsBroth, .inl (cT 1, 24, .inl o.2.2.2.2.2.2.2.1)), (a_t_storeLow, .inl (cT 3, 24, .inr (.inl o.2.2.2.2.2.2.2.2.1))), (a_t_storeHigh, .inl (cT 3, 24, .inr (.inl o.2.2.2.2.2.2.2.2.2)))] t.heap) (va_A [(a_t, .inr (12, [.int t_faultAt, .int t_stores, .ref a_t_storeIsBroth, .ref a_t_storeLow, .ref a_t_storeHigh, .ref a_t_isBroth, .ref a_t_low, .ref a_t_high, .int t_spoons])), (a_t_isBroth, .inl (cT 1, 5, .inl t_isBroth)), (a_t_low, .inl (cT 3, 5, .inr (.inl t_low))), (a_t_high, .inl (cT 3, 5, .inr (.inl t_high))), (a_t_storeIsBroth, .inl (cT 1, 24, .inl t_storeIsBroth)), (a_t_storeLow, .inl (cT 3, 24, .inr (.inl t_storeLow))), (a_t_storeHigh, .inl (cT 3, 24, .inr (.inl t_storeHigh)))] Hh.size)) 0 0 (va_A [(a_t, .inr (12, [.int t_faultAt, .int t_stores, .ref a_t_storeIsBroth, .ref a_t_storeLow, .ref a_t_storeHigh, .ref a_t_isBroth, .ref a_t_low, .ref a_t_high, .int t_spoons])), (a_t_isBroth, .inl (cT 1, 5, .inl t_isBroth)), (a_t_low, .inl (cT 3, 5, .inr (.inl t_low))), (a_t_high, .inl (cT 3, 5, .inr (.inl t_high))), (a_t_storeIsBroth, .inl (cT 1, 24, .inl t_storeIsBroth)), (a_t_storeLow, .inl (cT 3, 24, .inr (.inl t_storeLow))), (a_t_storeHigh, .inl (cT 3, 24, .inr (.inl t_storeHigh)))] Hh.size) := by
  refine Met.ofW (cc := cX9_passes) (maxL := 4) (ret := (some .boolean)) (by decide) rfl ?_
  intro p e s m args below meth c s₁ B hml hv
  obtain ⟨rfl, hH, hK⟩ := hv
  subst hH
  have hx := B.exec
  have hb := B.bytes
  have hr := B.returns
  have hta : ∀ w ∈ ALLW, w.before [.ref a_t, .ref a_p1, .ref a_p2].toArray s = true := fun w hw => atoms_spec (ws := wA yX9_passes cX9_passes 4 (some .boolean)) B.pre w (List.mem_cons_of_mem _ hw)
  have hown : s.vm.findClass RX9 = some m.cls := findClass_of_methodNamed B.named
  have hlocks := B.notSynchronized
  have hD := hD0.self (sz := s.heap.size)
  have hNA := hN0
  generalize hAe : va_A [(a_t, .inr (12, [.int t_faultAt, .int t_stores, .ref a_t_storeIsBroth, .ref a_t_storeLow, .ref a_t_storeHigh, .ref a_t_isBroth, .ref a_t_low, .ref a_t_high, .int t_spoons])), (a_t_isBroth, .inl (cT 1, 5, .inl t_isBroth)), (a_t_low, .inl (cT 3, 5, .inr (.inl t_low))), (a_t_high, .inl (cT 3, 5, .inr (.inl t_high))), (a_t_storeIsBroth, .inl (cT 1, 24, .inl t_storeIsBroth)), (a_t_storeLow, .inl (cT 3, 24, .inr (.inl t_storeLow))), (a_t_storeHigh, .inl (cT 3, 24, .inr (.inl t_storeHigh)))] s.heap.size = A at hD hNA ⊢
  have hP := hP0
  have hA : ∀ q : Nat, s.heap.size ≤ q → A q := fun q h => by rw [← hAe]; exact Or.inr h
  have hS : va_S A s.heap s.heap [] := va_S.rf
  have hl := lv_entry [.ref a_t, .ref a_p1, .ref a_p2] (n := 4) (Nat.le_of_ble_eq_true rfl)
  rw [lg_entry_eq]
  generalize (lg_sl [.ref a_t, .ref a_p1, .ref a_p2] ++ List.replicate (4 - (lg_sl [.ref a_t, .ref a_p1, .ref a_p2]).length) Slot.unset).toArray = ls at hl ⊢
  have hl : lv_has ls 4 [(0, .ref a_t), (1, .ref a_p1), (2, .ref a_p2)] := hl
  obtain ⟨Q, hQ⟩ : ∃ Q, Q = MQ below (va_Qi (fun x (_ : Unit) => x = o.1) (fun _ t => va_P (dC, dI) vwCl [(a_t, .inr (12, [.int o.2.1, .int o.2.2.1, .ref a_t_storeIsBroth, .ref a_t_storeLow, .ref a_t_storeHigh, .ref a_t_isBroth, .ref a_t_low, .ref a_t_high, .int o.2.2.2.1])), (a_t_isBroth, .inl (cT 1, 5, .inl o.2.2.2.2.1)), (a_t_low, .inl (cT 3, 5, .inr (.inl o.2.2.2.2.2.1))), (a_t_high, .inl (cT 3, 5, .inr (.inl o.2.2.2.2.2.2.1))), (a_t_storeIsBroth, .inl (cT 1, 24, .inl o.2.2.2.2.2.2.2.1)), (a_t_storeLow, .inl (cT 3, 24, .inr (.inl o.2.2.2.2.2.2.2.2.1))), (a_t_storeHigh, .inl (cT 3, 24, .inr (.inl o.2.2.2.2.2.2.2.2.2)))] t.heap) A) [.ref a_t, .ref a_p1, .ref a_p2].toArray s 0 0 A := ⟨_, rfl⟩
  rw [← hQ]
  have wB_17 : ∀ (n_17 : Nat), ∀ (t_high_17 : Nat → Int64) (t_isBroth_17 : Nat → Int32) (t_low_17 : Nat → Int64) (t_storeHigh_17 : Nat → Int64) (t_storeIsBroth_17 : Nat → Int32) (t_storeLow_17 : Nat → Int64) (t_stores_17 : Int32) (t_spoons_17 : Int32) (x3_17 : Int32) (H : Heap) (locs : List Loc) (ls : Array Slot), g_X9_passes_b17 p1_tokens p1_kinds p1_values p2_isBroth p2_low p2_high n_17 t_high_17 t_isBroth_17 t_low_17 t_storeHigh_17 t_storeIsBroth_17 t_storeLow_17 t_stores_17 t_spoons_17 x3_17 = some o → va_P (dC, dI) vwCl [(a_t, .inr (12, [.int (-1), .int t_stores_17, .ref a_t_storeIsBroth, .ref a_t_storeLow, .ref a_t_storeHigh, .ref a_t_isBroth, .ref a_t_low, .ref a_t_high, .int t_spoons_17])), (a_t_isBroth, .inl (cT 1, 5, .inl t_isBroth_17)), (a_t_low, .inl (cT 3, 5, .inr (.inl t_low_17))), (a_t_high, .inl (cT 3, 5, .inr (.inl t_high_17))), (a_t_storeIsBroth, .inl (cT 1, 24, .inl t_storeIsBroth_17)), (a_t_storeLow, .inl (cT 3, 24, .inr (.inl t_storeLow_17))), (a_t_storeHigh, .inl (cT 3, 24, .inr (.inl t_storeHigh_17)))] H → va_D A [(a_t, .inr (12, [.int (-1), .int t_stores_17, .ref a_t_storeIsBroth, .ref a_t_storeLow, .ref a_t_storeHigh, .ref a_t_isBroth, .ref a_t_low, .ref a_t_high, .int t_spoons_17])), (a_t_isBroth, .inl (cT 1, 5, .inl t_isBroth_17)), (a_t_low, .inl (cT 3, 5, .inr (.inl t_low_17))), (a_t_high, .inl (cT 3, 5, .inr (.inl t_high_17))), (a_t_storeIsBroth, .inl (cT 1, 24, .inl t_storeIsBroth_17)), (a_t_storeLow, .inl (cT 3, 24, .inr (.inl t_storeLow_17))), (a_t_storeHigh, .inl (cT 3, 24, .inr (.inl t_storeHigh_17)))] → va_S A s.heap H locs → lv_has ls 4 [(0, .ref a_t), (1, .ref a_p1), (2, .ref a_p2), (3, .int x3_17)] → W p l e ({ frames := 4, cells := 0, slots := 0, locals := 99 } : Room) s m [.ref a_t, .ref a_p1, .ref a_p2].toArray below meth c H locs 0 0 Q (F0 m 17 ls []) := by
    intro n_17
    induction n_17 with
    | zero =>
      intro t_high_17 t_isBroth_17 t_low_17 t_storeHigh_17 t_storeIsBroth_17 t_storeLow_17 t_stores_17 t_spoons_17 x3_17 H locs ls h hP hD hS hl
      simp [g_X9_passes_b17] at h
    | succ n_17 ih_17 =>
      intro t_high_17 t_isBroth_17 t_low_17 t_storeHigh_17 t_storeIsBroth_17 t_storeLow_17 t_stores_17 t_spoons_17 x3_17 H locs ls h hP hD hS hl
      rw [g_X9_passes_b17] at h
      refine lv_iload_n hx hb dX9_passes_17 rfl (lv_at hl 3 rfl) ?_
      refine lv_aload_n hx hb dX9_passes_18 rfl (lv_at hl 1 rfl) ?_
      refine va_get (D := (dC, dI)) (ci := 11) (v := .int p1_tokens) (C := RX8) (T := TX8) (N := 9) hx hb hta inX8w hown hK (rk hR0 hNA hS) 0 rfl rfl 1 (by decide) (hta _ lk_X9_41) (fun _ h9 => h9) rfl dX9_passes_19 ?_
      refine lv_icmp_ge (tgt := 58) hx hb dX9_passes_22 (by decide) (fun c0 => ?_) (fun c0 => ?_)
      · have h := (if_pos c0).symm.trans h
        refine lv_iconst (v := 1) hx hb dX9_passes_58 (by decide) ?_
        have ho := Option.some.inj h
        rw [hQ]
        exact W.zret (ty := .boolean) (v := 1) hx hb hr rfl (fun t ht hW => ⟨⟨1, (), rfl, by rw [← ho], by show va_P (dC, dI) vwCl _ t.heap; rw [ht, ← ho]; exact hP⟩, hS.F ht⟩) hS.2.2 dX9_passes_59
      · have h := (if_neg c0).symm.trans h
        refine lv_aload_n hx hb dX9_passes_25 rfl (lv_at hl 0 rfl) ?_
        refine lv_aload_n hx hb dX9_passes_26 rfl (lv_at hl 1 rfl) ?_
        refine va_get (D := (dC, dI)) (ci := 11) (v := .ref a_p1_kinds) (C := RX8) (T := TX8) (N := 9) hx hb hta inX8w hown hK (rk hR0 hNA hS) 0 rfl rfl 5 (by decide) (hta _ lk_X9_46) (fun _ h9 => h9) rfl dX9_passes_27 ?_
        refine lv_iload_n hx hb dX9_passes_30 rfl (lv_at hl 3 rfl) ?_
        obtain ⟨hc, h⟩ := gc_some h
        refine va_iald hx hb hK (rk hR0 hNA hS) 2 0 rfl rfl (inb_in hc) dX9_passes_31 ?_
        refine lv_aload_n hx hb dX9_passes_32 rfl (lv_at hl 1 rfl) ?_
        refine va_get (D := (dC, dI)) (ci := 11) (v := .ref a_p1_values) (C := RX8) (T := TX8) (N := 9) hx hb hta inX8w hown hK (rk hR0 hNA hS) 0 rfl rfl 6 (by decide) (hta _ lk_X9_50) (fun _ h9 => h9) rfl dX9_passes_33 ?_
        refine lv_iload_n hx hb dX9_passes_36 rfl (lv_at hl 3 rfl) ?_
        obtain ⟨hc, h⟩ := gc_some h
        refine va_iald hx hb hK (rk hR0 hNA hS) 3 0 rfl rfl (inb_in hc) dX9_passes_37 ?_
        refine lv_aload_n hx hb dX9_passes_38 rfl (lv_at hl 2 rfl) ?_
        obtain ⟨r1, hq, h⟩ := gb_some h
        refine cxI (X2 := [(a_t, .inr (12, [.int (-1), .int r1.2.1, .ref a_t_storeIsBroth, .ref a_t_storeLow, .ref a_t_storeHigh, .ref a_t_isBroth, .ref a_t_low, .ref a_t_high, .int r1.2.2.1])), (a_t_isBroth, .inl (cT 1, 5, .inl r1.2.2.2.1)), (a_t_low, .inl (cT 3, 5, .inr (.inl r1.2.2.2.2.1))), (a_t_high, .inl (cT 3, 5, .inr (.inl r1.2.2.2.2.2.1))), (a_t_storeIsBroth, .inl (cT 1, 24, .inl r1.2.2.2.2.2.2.1)), (a_t_storeLow, .inl (cT 3, 24, .inr (.inl r1.2.2.2.2.2.2.2.1))), (a_t_storeHigh, .inl (cT 3, 24, .inr (.inl r1.2.2.2.2.2.2.2.2)))]) (va_runV (As := [.int (p1_kinds x3_17.toNatClampNeg), .int (p1_values x3_17.toNatClampNeg), .ref a_p2]) (rest := []) ⟨hx, hb, hml, hown, hta⟩ (c_X9_passesToken l dC dI cT hq (hP.sub (ws' := [(a_t, .inr (12, [.int (-1), .int t_stores_17, .ref a_t_storeIsBroth, .ref a_t_storeLow, .ref a_t_storeHigh, .ref a_t_isBroth, .ref a_t_low, .ref a_t_high, .int t_spoons_17])), (a_t_isBroth, .inl (cT 1, 5, .inl t_isBroth_17)), (a_t_low, .inl (cT 3, 5, .inr (.inl t_low_17))), (a_t_high, .inl (cT 3, 5, .inr (.inl t_high_17))), (a_t_storeIsBroth, .inl (cT 1, 24, .inl t_storeIsBroth_17)), (a_t_storeLow, .inl (cT 3, 24, .inr (.inl t_storeLow_17))), (a_t_storeHigh, .inl (cT 3, 24, .inr (.inl t_storeHigh_17)))]) [0, 1, 2, 3, 4, 5, 6] rfl) ((va_P.app hP (rk hR0 hNA hS)).sub (ws' := [(a_p2, .inr (4, [.int p2_cauldrons, .ref a_p2_isBroth, .ref a_p2_low, .ref a_p2_high, .ref a_p2_contents, .ref a_p2_storesIn, .int p2_spells, .ref a_p2_texts, .ref a_p2_cooked, .int p2_cookedSoFar, .int p2_storesSoFar])), (a_p2_isBroth, .inl (cT 1, 6, .inl p2_isBroth)), (a_p2_low, .inl (cT 0, 6, .inl p2_low)), (a_p2_high, .inl (cT 0, 6, .inl p2_high))]) [8, 11, 12, 13] rfl) (ds hD [0, 1, 2, 3, 4, 5, 6] (by decide) rfl) (nac hP hD [0, 1, 2, 3, 4, 5, 6] rfl (va_free hD hS hA [0, 1, 2, 3, 4, 5, 6] rfl) hNA [.inl 1, .inl 4, .inl 5, .inl 6] rfl rfl)) (cV hta lm_X9_53 md_X9_passesToken ⟨(Nat.le_of_ble_eq_true rfl), (Nat.le_of_ble_eq_true rfl)⟩) ⟨fbK, va_recv hK hP (ci := 12) (q0 := 0) rfl rfl, fun U hU hW => ⟨rfl, hU, va_K.moved hW.alike hK⟩⟩ rfl rfl hl.1 rfl (lv_room (Nat.le_of_ble_eq_true rfl)) dX9_passes_39 ⟨(Nat.le_of_ble_eq_true rfl), (Nat.le_of_ble_eq_true rfl)⟩) hS hA hP hD [0, 1, 2, 3, 4, 5, 6] rfl [.inl 0, .inl 1, .inl 2, .inl 3, .inl 4, .inl 5, .inl 6] rfl rfl rfl (fun H locs hP hD hS => ?_)
        refine lv_if_ne (tgt := 52) hx hb dX9_passes_42 (by decide) (fun c0 => ?_) (fun c0 => ?_)
        · have h := (if_neg c0).symm.trans h
          obtain ⟨v2, e_v2⟩ : ∃ y : Int32, y = x3_17 + 1 := ⟨_, rfl⟩
          have h := gl_use e_v2 h
          refine lv_iinc (v := v2) (lv' := [(3, .int v2), (0, .ref a_t), (1, .ref a_p1), (2, .ref a_p2)]) hx hb dX9_passes_52 hl (k := 3) rfl (by rw [e_v2]; rfl) (by decide) rfl (fun ls hl => ?_)
          refine lv_goto (tgt := 17) hx hb dX9_passes_55 (by decide) ?_
          exact ih_17 r1.2.2.2.2.2.1 r1.2.2.2.1 r1.2.2.2.2.1 r1.2.2.2.2.2.2.2.2 r1.2.2.2.2.2.2.1 r1.2.2.2.2.2.2.2.1 r1.2.1 r1.2.2.1 v2 _ _ _ h hP hD hS (lv_sub hl [1, 2, 3, 0] rfl)
        · have h := (if_pos c0).symm.trans h
          refine lv_aload_n hx hb dX9_passes_45 rfl (lv_at hl 0 rfl) ?_
          refine lv_iload_n hx hb dX9_passes_46 rfl (lv_at hl 3 rfl) ?_
          refine va_put (D := (dC, dI)) (ci := 12) (v := .int x3_17) (ty := .int) (C := RX9) (T := TX9) (N := 9) hx hb hta inX9w tyX9 tyX9_ok nmX9 hown hK hP hD hS 0 rfl rfl 0 (by decide) (hta _ lk_X9_38) (fun _ h9 => h9) rfl (by decide +kernel) rfl rfl (Nat.le_of_ble_eq_true rfl) dX9_passes_47 (fun H locs hP hD hS => ?_)
          have hP : va_P (dC, dI) vwCl [(a_t, .inr (12, [.int x3_17, .int r1.2.1, .ref a_t_storeIsBroth, .ref a_t_storeLow, .ref a_t_storeHigh, .ref a_t_isBroth, .ref a_t_low, .ref a_t_high, .int r1.2.2.1])), (a_t_isBroth, .inl (cT 1, 5, .inl r1.2.2.2.1)), (a_t_low, .inl (cT 3, 5, .inr (.inl r1.2.2.2.2.1))), (a_t_high, .inl (cT 3, 5, .inr (.inl r1.2.2.2.2.2.1))), (a_t_storeIsBroth, .inl (cT 1, 24, .inl r1.2.2.2.2.2.2.1)), (a_t_storeLow, .inl (cT 3, 24, .inr (.inl r1.2.2.2.2.2.2.2.1))), (a_t_storeHigh, .inl (cT 3, 24, .inr (.inl r1.2.2.2.2.2.2.2.2)))] H := hP
          have hD : va_D A [(a_t, .inr (12, [.int x3_17, .int r1.2.1, .ref a_t_storeIsBroth, .ref a_t_storeLow, .ref a_t_storeHigh, .ref a_t_isBroth, .ref a_t_low, .ref a_t_high, .int r1.2.2.1])), (a_t_isBroth, .inl (cT 1, 5, .inl r1.2.2.2.1)), (a_t_low, .inl (cT 3, 5, .inr (.inl r1.2.2.2.2.1))), (a_t_high, .inl (cT 3, 5, .inr (.inl r1.2.2.2.2.2.1))), (a_t_storeIsBroth, .inl (cT 1, 24, .inl r1.2.2.2.2.2.2.1)), (a_t_storeLow, .inl (cT 3, 24, .inr (.inl r1.2.2.2.2.2.2.2.1))), (a_t_storeHigh, .inl (cT 3, 24, .inr (.inl r1.2.2.2.2.2.2.2.2)))] := hD
          refine lv_iconst (v := 0) hx hb dX9_passes_50 (by decide) ?_
          have ho := Option.some.inj h
          rw [hQ]
          exact W.zret (ty := .boolean) (v := 0) hx hb hr rfl (fun t ht hW => ⟨⟨0, (), rfl, by rw [← ho], by show va_P (dC, dI) vwCl _ t.heap; rw [ht, ← ho]; exact hP⟩, hS.F ht⟩) hS.2.2 dX9_passes_51
  unfold g_X9_passes at h
  refine lv_aload_n hx hb dX9_passes_0 rfl (lv_at hl 0 rfl) ?_
  refine lv_iconst (v := 0) hx hb dX9_passes_1 (by decide) ?_
  refine va_put (D := (dC, dI)) (ci := 12) (v := .int 0) (ty := .int) (C := RX9) (T := TX9) (N := 9) hx hb hta inX9w tyX9 tyX9_ok nmX9 hown hK hP hD hS 0 rfl rfl 8 (by decide) (hta _ lk_X9_31) (fun _ h9 => h9) rfl (by decide +kernel) rfl rfl (Nat.le_of_ble_eq_true rfl) dX9_passes_2 (fun H locs hP hD hS => ?_)
  have hP : va_P (dC, dI) vwCl [(a_t, .inr (12, [.int t_faultAt, .int t_stores, .ref a_t_storeIsBroth, .ref a_t_storeLow, .ref a_t_storeHigh, .ref a_t_isBroth, .ref a_t_low, .ref a_t_high, .int 0])), (a_t_isBroth, .inl (cT 1, 5, .inl t_isBroth)), (a_t_low, .inl (cT 3, 5, .inr (.inl t_low))), (a_t_high, .inl (cT 3, 5, .inr (.inl t_high))), (a_t_storeIsBroth, .inl (cT 1, 24, .inl t_storeIsBroth)), (a_t_storeLow, .inl (cT 3, 24, .inr (.inl t_storeLow))), (a_t_storeHigh, .inl (cT 3, 24, .inr (.inl t_storeHigh)))] H := hP
  have hD : va_D A [(a_t, .inr (12, [.int t_faultAt, .int t_stores, .ref a_t_storeIsBroth, .ref a_t_storeLow, .ref a_t_storeHigh, .ref a_t_isBroth, .ref a_t_low, .ref a_t_high, .int 0])), (a_t_isBroth, .inl (cT 1, 5, .inl t_isBroth)), (a_t_low, .inl (cT 3, 5, .inr (.inl t_low))), (a_t_high, .inl (cT 3, 5, .inr (.inl t_high))), (a_t_storeIsBroth, .inl (cT 1, 24, .inl t_storeIsBroth)), (a_t_storeLow, .inl (cT 3, 24, .inr (.inl t_storeLow))), (a_t_storeHigh, .inl (cT 3, 24, .inr (.inl t_storeHigh)))] := hD
  refine lv_aload_n hx hb dX9_passes_5 rfl (lv_at hl 0 rfl) ?_
  refine lv_iconst (v := 0) hx hb dX9_passes_6 (by decide) ?_
  refine va_put (D := (dC, dI)) (ci := 12) (v := .int 0) (ty := .int) (C := RX9) (T := TX9) (N := 9) hx hb hta inX9w tyX9 tyX9_ok nmX9 hown hK hP hD hS 0 rfl rfl 1 (by decide) (hta _ lk_X9_35) (fun _ h9 => h9) rfl (by decide +kernel) rfl rfl (Nat.le_of_ble_eq_true rfl) dX9_passes_7 (fun H locs hP hD hS => ?_)
  have hP : va_P (dC, dI) vwCl [(a_t, .inr (12, [.int t_faultAt, .int 0, .ref a_t_storeIsBroth, .ref a_t_storeLow, .ref a_t_storeHigh, .ref a_t_isBroth, .ref a_t_low, .ref a_t_high, .int 0])), (a_t_isBroth, .inl (cT 1, 5, .inl t_isBroth)), (a_t_low, .inl (cT 3, 5, .inr (.inl t_low))), (a_t_high, .inl (cT 3, 5, .inr (.inl t_high))), (a_t_storeIsBroth, .inl (cT 1, 24, .inl t_storeIsBroth)), (a_t_storeLow, .inl (cT 3, 24, .inr (.inl t_storeLow))), (a_t_storeHigh, .inl (cT 3, 24, .inr (.inl t_storeHigh)))] H := hP
  have hD : va_D A [(a_t, .inr (12, [.int t_faultAt, .int 0, .ref a_t_storeIsBroth, .ref a_t_storeLow, .ref a_t_storeHigh, .ref a_t_isBroth, .ref a_t_low, .ref a_t_high, .int 0])), (a_t_isBroth, .inl (cT 1, 5, .inl t_isBroth)), (a_t_low, .inl (cT 3, 5, .inr (.inl t_low))), (a_t_high, .inl (cT 3, 5, .inr (.inl t_high))), (a_t_storeIsBroth, .inl (cT 1, 24, .inl t_storeIsBroth)), (a_t_storeLow, .inl (cT 3, 24, .inr (.inl t_storeLow))), (a_t_storeHigh, .inl (cT 3, 24, .inr (.inl t_storeHigh)))] := hD
  refine lv_aload_n hx hb dX9_passes_10 rfl (lv_at hl 0 rfl) ?_
  refine lv_iconst (v := -1) hx hb dX9_passes_11 (by decide) ?_
  refine va_put (D := (dC, dI)) (ci := 12) (v := .int (-1)) (ty := .int) (C := RX9) (T := TX9) (N := 9) hx hb hta inX9w tyX9 tyX9_ok nmX9 hown hK hP hD hS 0 rfl rfl 0 (by decide) (hta _ lk_X9_38) (fun _ h9 => h9) rfl (by decide +kernel) rfl rfl (Nat.le_of_ble_eq_true rfl) dX9_passes_12 (fun H locs hP hD hS => ?_)
  have hP : va_P (dC, dI) vwCl [(a_t, .inr (12, [.int (-1), .int 0, .ref a_t_storeIsBroth, .ref a_t_storeLow, .ref a_t_storeHigh, .ref a_t_isBroth, .ref a_t_low, .ref a_t_high, .int 0])), (a_t_isBroth, .inl (cT 1, 5, .inl t_isBroth)), (a_t_low, .inl (cT 3, 5, .inr (.inl t_low))), (a_t_high, .inl (cT 3, 5, .inr (.inl t_high))), (a_t_storeIsBroth, .inl (cT 1, 24, .inl t_storeIsBroth)), (a_t_storeLow, .inl (cT 3, 24, .inr (.inl t_storeLow))), (a_t_storeHigh, .inl (cT 3, 24, .inr (.inl t_storeHigh)))] H := hP
  have hD : va_D A [(a_t, .inr (12, [.int (-1), .int 0, .ref a_t_storeIsBroth, .ref a_t_storeLow, .ref a_t_storeHigh, .ref a_t_isBroth, .ref a_t_low, .ref a_t_high, .int 0])), (a_t_isBroth, .inl (cT 1, 5, .inl t_isBroth)), (a_t_low, .inl (cT 3, 5, .inr (.inl t_low))), (a_t_high, .inl (cT 3, 5, .inr (.inl t_high))), (a_t_storeIsBroth, .inl (cT 1, 24, .inl t_storeIsBroth)), (a_t_storeLow, .inl (cT 3, 24, .inr (.inl t_storeLow))), (a_t_storeHigh, .inl (cT 3, 24, .inr (.inl t_storeHigh)))] := hD
  refine lv_iconst (v := 0) hx hb dX9_passes_15 (by decide) ?_
  refine lv_istore_n (lv' := [(3, .int 0), (0, .ref a_t), (1, .ref a_p1), (2, .ref a_p2)]) hx hb dX9_passes_16 rfl hl (by decide) rfl (fun ls hl => ?_)
  exact wB_17 100 t_high t_isBroth t_low t_storeHigh t_storeIsBroth t_storeLow 0 0 0 _ _ _ h hP hD hS (lv_sub hl [1, 2, 3, 0] rfl)
