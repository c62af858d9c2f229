set_option maxHeartbeats 4000000 in
set_option maxRecDepth 100000 in
theorem c_X11_bits (l : Launch) (hl9 : l.stackTraces = false) (dC : Nat → ClassId) (dI : Nat → Nat → Nat) (cT : Nat → ClassId) {Hh : Heap} {a_t : Nat} {a_t_book : Nat} {a_t_book_isBroth : Nat} {a_t_book_contents : Nat} {a_t_book_contents_many : Nat} {a_t_book_contents_much : Nat} {a_t_saved : Nat} {a_t_history : Nat} {a_t_refusal : Nat} {a_t_reader : Nat} {a_t_typing : Nat} {a_t_typingByStores : Nat} {a_t_cooking : Nat} {a_t_cookingByStores : Nat} {a_t_input : Nat} {a_t_line : Nat} {a_t_book_low : Nat} {a_t_book_high : Nat} {a_t_book_storesIn : Nat} {a_t_book_texts : Nat} {a_t_book_cooked : Nat} {t_book_cauldrons : Int32} {t_book_isBroth : Nat → Int32} {t_book_contents_many : Nat → Int32} {t_book_contents_much : Nat → UInt32} {p1 : Int32} {t_isSaved : Int32} {t_inputLength : Int32} {t_keptError : Int32} {t_boiledOver : Int32} {t_book_spells : Int32} {t_book_cookedSoFar : Int32} {t_book_storesSoFar : Int32} {o : Int32 × Int32} (h : g_X11_bits t_book_cauldrons t_book_isBroth t_book_contents_many t_book_contents_much p1 = some o) (hP0 : va_P (dC, dI) vwCl [] Hh) (hR0 : va_P (dC, dI) vwCl [(a_t, .inr (14, [.ref a_t_book, .ref a_t_saved, .int t_isSaved, .ref a_t_history, .ref a_t_refusal, .ref a_t_reader, .ref a_t_typing, .ref a_t_typingByStores, .ref a_t_cooking, .ref a_t_cookingByStores, .ref a_t_input, .int t_inputLength, .int t_keptError, .ref a_t_line, .int t_boiledOver])), (a_t_book, .inr (4, [.int t_book_cauldrons, .ref a_t_book_isBroth, .ref a_t_book_low, .ref a_t_book_high, .ref a_t_book_contents, .ref a_t_book_storesIn, .int t_book_spells, .ref a_t_book_texts, .ref a_t_book_cooked, .int t_book_cookedSoFar, .int t_book_storesSoFar])), (a_t_book_isBroth, .inl (cT 1, 6, .inl t_book_isBroth)), (a_t_book_contents, .inr (5, [.ref a_t_book_contents_many, .ref a_t_book_contents_much])), (a_t_book_contents_many, .inl (cT 0, 6, .inl t_book_contents_many)), (a_t_book_contents_much, .inl (cT 4, 6, .inr (.inr (.inl t_book_contents_much))))] Hh) (hD0 : va_D (fun _ => True) []) (hN0 : ∀ (k : Nat) (q : Nat × va_E), ([(a_t, .inr (14, [.ref a_t_book, .ref a_t_saved, .int t_isSaved, .ref a_t_history, .ref a_t_refusal, .ref a_t_reader, .ref a_t_typing, .ref a_t_typingByStores, .ref a_t_cooking, .ref a_t_cookingByStores, .ref a_t_input, .int t_inputLength, .int t_keptError, .ref a_t_line, .int t_boiledOver])), (a_t_book, .inr (4, [.int t_book_cauldrons, .ref a_t_book_isBroth, .ref a_t_book_low, .ref a_t_book_high, .ref a_t_book_contents, .ref a_t_book_storesIn, .int t_book_spells, .ref a_t_book_texts, .ref a_t_book_cooked, .int t_book_cookedSoFar, .int t_book_storesSoFar])), (a_t_book_isBroth, .inl (cT 1, 6, .inl t_book_isBroth)), (a_t_book_contents, .inr (5, [.ref a_t_book_contents_many, .ref a_t_book_contents_much])), (a_t_book_contents_many, .inl (cT 0, 6, .inl t_book_contents_many)), (a_t_book_contents_much, .inl (cT 4, 6, .inr (.inr (.inl t_book_contents_much))))] : va_W)[k]? = some q → ¬ va_A [] Hh.size q.1) : vx_Met l yX11_bits (wA yX11_bits cX11_bits 2 (some .int)) ({ frames := 7, cells := 1, slots := 6, locals := 111 } : Room) (PX dC dI cT [.ref a_t, .int p1] Hh (va_A [] Hh.size)) (QXI dC dI o.1 o.2 [] (va_A [] Hh.size)) (XX dC dI o.1 [] (va_A [] Hh.size)) 1 6 (va_A [] Hh.size) := by
  refine vx_ofW (cc := cX11_bits) (maxL := 2) (ret := (some .int)) (by decide) rfl ?_
  intro p e s m args below meth c s₁ B hml htab hv
  obtain ⟨rfl, hH, hK, hX⟩ := hv
  subst hH
  have hx := B.exec
  have hb := B.bytes
  have hr := B.returns
  have hta : ∀ w ∈ ALLW, w.before [.ref a_t, .int p1].toArray s = true := fun w hw => atoms_spec (ws := wA yX11_bits cX11_bits 2 (some .int)) B.pre w (List.mem_cons_of_mem _ hw)
  have hown : s.vm.findClass RX11 = some m.cls := findClass_of_methodNamed B.named
  have hlocks := B.notSynchronized
  have hD := hD0.self (sz := s.heap.size)
  have hNA := hN0
  generalize hAe : va_A [] s.heap.size = A at hD hNA hX ⊢
  have hP := hP0
  have hA : ∀ q : Nat, s.heap.size ≤ q → A q := fun q h => by rw [← hAe]; exact Or.inr h
  have hS : va_S A s.heap s.heap [] := va_S.rf
  have hl := lv_entry [.ref a_t, .int p1] (n := 2) (Nat.le_of_ble_eq_true rfl)
  rw [lg_entry_eq]
  generalize (lg_sl [.ref a_t, .int p1] ++ List.replicate (2 - (lg_sl [.ref a_t, .int p1]).length) Slot.unset).toArray = ls at hl ⊢
  have hl : lv_has ls 2 [(0, .ref a_t), (1, .int p1)] := hl
  unfold g_X11_bits at h
  refine lv_aload_n hx hb dX11_bits_0 rfl (lv_at hl 0 rfl) ?_
  refine lv_iload_n hx hb dX11_bits_1 rfl (lv_at hl 1 rfl) ?_
  obtain ⟨r1, hq, h⟩ := gb_some h
  refine cyV (X2 := []) (vx_runV (As := [.int p1]) (rest := []) ⟨hx, hb, hml, hown, hta⟩ (c_X11_needCauldron l hl9 dC dI cT hq (hP.sub (ws' := []) [] rfl) ((rk hR0 hNA hS).sub (ws' := [(a_t, .inr (14, [.ref a_t_book, .ref a_t_saved, .int t_isSaved, .ref a_t_history, .ref a_t_refusal, .ref a_t_reader, .ref a_t_typing, .ref a_t_typingByStores, .ref a_t_cooking, .ref a_t_cookingByStores, .ref a_t_input, .int t_inputLength, .int t_keptError, .ref a_t_line, .int t_boiledOver])), (a_t_book, .inr (4, [.int t_book_cauldrons, .ref a_t_book_isBroth, .ref a_t_book_low, .ref a_t_book_high, .ref a_t_book_contents, .ref a_t_book_storesIn, .int t_book_spells, .ref a_t_book_texts, .ref a_t_book_cooked, .int t_book_cookedSoFar, .int t_book_storesSoFar]))]) [0, 1] rfl) (ds hD [] (by decide) rfl) (nac hP hD [] rfl (va_free hD hS hA [] rfl) hNA [.inl 0, .inl 1] rfl rfl)) (cV hta lm_X11_108 md_X11_needCauldron ⟨(Nat.le_of_ble_eq_true rfl), (Nat.le_of_ble_eq_true rfl)⟩) ⟨fbX, va_recv hK (rk hR0 hNA hS) (ci := 14) (q0 := 0) rfl rfl, fun U hU hW => ⟨rfl, hU, va_K.moved hW.alike hK, XS.call hX hS hU hW (va_free hD hS hA [] rfl)⟩⟩ rfl rfl hl.1 rfl (lv_room (Nat.le_of_ble_eq_true rfl)) dX11_bits_2 ⟨(Nat.le_of_ble_eq_true rfl), (Nat.le_of_ble_eq_true rfl)⟩) hS hA hP hD [] rfl [] rfl rfl rfl (fun E ce q9 H locs hne hE hP hD hS hce hcv hcl => ?_) (fun H locs hz hP hD hS => ?_)
  · have h := (if_neg hne).symm.trans h
    have ho := Option.some.inj h
    subst ho
    exact xout htab hlocks hce hcv hcl hS hP hne hE (Nat.le_of_ble_eq_true rfl) (Nat.le_of_ble_eq_true rfl)
  · have h := (if_pos hz).symm.trans h
    refine lv_aload_n hx hb dX11_bits_5 rfl (lv_at hl 0 rfl) ?_
    refine va_get (D := (dC, dI)) (ci := 14) (v := .ref a_t_book) (C := RX11) (T := TX11) (N := 15) hx hb hta inX11w hown hK (rk hR0 hNA hS) 0 rfl rfl 0 (by decide) (hta _ lk_X11_10) (fun _ h9 => h9) rfl dX11_bits_6 ?_
    refine va_get (D := (dC, dI)) (ci := 4) (v := .ref a_t_book_isBroth) (C := RX0) (T := TX0) (N := 11) hx hb hta inX0w hown hK (rk hR0 hNA hS) 1 rfl rfl 1 (by decide) (hta _ lk_X11_144) (fun _ h9 => h9) rfl dX11_bits_9 ?_
    refine lv_iload_n hx hb dX11_bits_12 rfl (lv_at hl 1 rfl) ?_
    obtain ⟨hc, h⟩ := gc_some h
    refine va_zald hx hb hK (rk hR0 hNA hS) 2 1 rfl rfl (inb_in hc) dX11_bits_13 ?_
    refine lv_if_eq (tgt := 33) hx hb dX11_bits_14 (by decide) (fun c0 => ?_) (fun c0 => ?_)
    · have h := (if_pos c0).symm.trans h
      refine lv_aload_n hx hb dX11_bits_33 rfl (lv_at hl 0 rfl) ?_
      refine va_get (D := (dC, dI)) (ci := 14) (v := .ref a_t_book) (C := RX11) (T := TX11) (N := 15) hx hb hta inX11w hown hK (rk hR0 hNA hS) 0 rfl rfl 0 (by decide) (hta _ lk_X11_10) (fun _ h9 => h9) rfl dX11_bits_34 ?_
      refine va_get (D := (dC, dI)) (ci := 4) (v := .ref a_t_book_contents) (C := RX0) (T := TX0) (N := 11) hx hb hta inX0w hown hK (rk hR0 hNA hS) 1 rfl rfl 4 (by decide) (hta _ lk_X11_129) (fun _ h9 => h9) rfl dX11_bits_37 ?_
      refine va_get (D := (dC, dI)) (ci := 5) (v := .ref a_t_book_contents_many) (C := RX1) (T := TX1) (N := 2) hx hb hta inX1w hown hK (rk hR0 hNA hS) 3 rfl rfl 0 (by decide) (hta _ lk_X11_133) (fun _ h9 => h9) rfl dX11_bits_40 ?_
      refine lv_iload_n hx hb dX11_bits_43 rfl (lv_at hl 1 rfl) ?_
      obtain ⟨hc, h⟩ := gc_some h
      refine va_iald hx hb hK (rk hR0 hNA hS) 4 0 rfl rfl (inb_in hc) dX11_bits_44 ?_
      refine lv_i2f hx hb dX11_bits_45 ?_
      obtain ⟨r2, hq, h⟩ := gb_some h
      refine crI (va_runS (As := [.float (FP.i2f (t_book_contents_many p1.toNatClampNeg))]) (rest := []) ⟨hx, hb, hml, hown, hta⟩ (c_X5_bitsOf l dC dI cT hq) (cS hta lm_X11_154 md_X5_bitsOf ⟨(Nat.le_of_ble_eq_true rfl), (Nat.le_of_ble_eq_true rfl)⟩) ⟨fbK, fun U hU hW => ⟨rfl, hU, va_K.moved hW.alike hK⟩⟩ rfl rfl hl.1 rfl (lv_room (Nat.le_of_ble_eq_true rfl)) dX11_bits_46 ⟨(Nat.le_of_ble_eq_true rfl), (Nat.le_of_ble_eq_true rfl)⟩) hS hA (fun locs hS => ?_)
      have ho := Option.some.inj h
      subst ho
      refine vx_ret ?_
      exact W.iret (v := r2) hx hb hr (fun t ht hW => ⟨⟨_, (), rfl, ⟨rfl, rfl⟩, by show va_P (dC, dI) vwCl _ t.heap; rw [ht]; exact hP⟩, hS.F ht⟩) hS.2.2 dX11_bits_49
    · have h := (if_neg c0).symm.trans h
      refine lv_aload_n hx hb dX11_bits_17 rfl (lv_at hl 0 rfl) ?_
      refine va_get (D := (dC, dI)) (ci := 14) (v := .ref a_t_book) (C := RX11) (T := TX11) (N := 15) hx hb hta inX11w hown hK (rk hR0 hNA hS) 0 rfl rfl 0 (by decide) (hta _ lk_X11_10) (fun _ h9 => h9) rfl dX11_bits_18 ?_
      refine va_get (D := (dC, dI)) (ci := 4) (v := .ref a_t_book_contents) (C := RX0) (T := TX0) (N := 11) hx hb hta inX0w hown hK (rk hR0 hNA hS) 1 rfl rfl 4 (by decide) (hta _ lk_X11_129) (fun _ h9 => h9) rfl dX11_bits_21 ?_
      refine va_get (D := (dC, dI)) (ci := 5) (v := .ref a_t_book_contents_much) (C := RX1) (T := TX1) (N := 2) hx hb hta inX1w hown hK (rk hR0 hNA hS) 3 rfl rfl 1 (by decide) (hta _ lk_X11_150) (fun _ h9 => h9) rfl dX11_bits_24 ?_
      refine lv_iload_n hx hb dX11_bits_27 rfl (lv_at hl 1 rfl) ?_
      obtain ⟨hc, h⟩ := gc_some h
      refine va_fald hx hb hK (rk hR0 hNA hS) 5 4 rfl rfl (inb_in hc) dX11_bits_28 ?_
      obtain ⟨r3, hq, h⟩ := gb_some h
      refine crI (va_runS (As := [.float (t_book_contents_much p1.toNatClampNeg)]) (rest := []) ⟨hx, hb, hml, hown, hta⟩ (c_X5_bitsOf l dC dI cT hq) (cS hta lm_X11_154 md_X5_bitsOf ⟨(Nat.le_of_ble_eq_true rfl), (Nat.le_of_ble_eq_true rfl)⟩) ⟨fbK, fun U hU hW => ⟨rfl, hU, va_K.moved hW.alike hK⟩⟩ rfl rfl hl.1 rfl (lv_room (Nat.le_of_ble_eq_true rfl)) dX11_bits_29 ⟨(Nat.le_of_ble_eq_true rfl), (Nat.le_of_ble_eq_true rfl)⟩) hS hA (fun locs hS => ?_)
      have ho := Option.some.inj h
      subst ho
      refine vx_ret ?_
      exact W.iret (v := r3) hx hb hr (fun t ht hW => ⟨⟨_, (), rfl, ⟨rfl, rfl⟩, by show va_P (dC, dI) vwCl _ t.heap; rw [ht]; exact hP⟩, hS.F ht⟩) hS.2.2 dX11_bits_32
set_option maxHeartbeats 4000000 in
set_option maxRecDepth 100000 in
theorem c_X11_spellOf (l : Launch) (hl9 : l.stackTraces = false) (dC : Nat → ClassId) (dI : Nat → Nat → Nat) (cT : Nat → ClassId) {Hh : Heap} {sq : Nat → Nat → Nat} {a_t : Nat} {a_t_book : Nat} {a_t_book_texts : Nat} {a_t_typing : Nat} {a_t_book_isBroth : Nat} {a_t_book_low : Nat} {a_t_book_high : Nat} {a_t_typing_isBroth : Nat} {a_t_typing_low : Nat} {a_t_typing_high : Nat} {a_t_typing_storeIsBroth : Nat} {a_t_typing_storeLow : Nat} {a_t_typing_storeHigh : Nat} {a_t_book_cooked : Nat} {a_t_saved : Nat} {a_t_history : Nat} {a_t_refusal : Nat} {a_t_reader : Nat} {a_t_typingByStores : Nat} {a_t_cooking : Nat} {a_t_cookingByStores : Nat} {a_t_input : Nat} {a_t_line : Nat} {a_t_book_contents : Nat} {a_t_book_storesIn : Nat} {LS : List Nat} {SE : Nat → SV} {t_book_spells : Int32} {t_book_texts : Nat → Option Nat} {t_typing_faultAt : Int32} {t_typing_stores : Int32} {t_typing_spoons : Int32} {t_book_isBroth : Nat → Int32} {t_book_low : Nat → Int32} {t_book_high : Nat → Int32} {t_typing_isBroth : Nat → Int32} {t_typing_low : Nat → Int64} {t_typing_high : Nat → Int64} {t_typing_storeIsBroth : Nat → Int32} {t_typing_storeLow : Nat → Int64} {t_typing_storeHigh : Nat → Int64} {t_book_cooked : Nat → Int32} {p1 : Int32} {p2 : Int32} {t_isSaved : Int32} {t_inputLength : Int32} {t_keptError : Int32} {t_boiledOver : Int32} {t_book_cauldrons : Int32} {t_book_cookedSoFar : Int32} {t_book_storesSoFar : Int32} {XW : va_W} (eX : XW = [(a_t_typing, .inr (12, [.int t_typing_faultAt, .int t_typing_stores, .ref a_t_typing_storeIsBroth, .ref a_t_typing_storeLow, .ref a_t_typing_storeHigh, .ref a_t_typing_isBroth, .ref a_t_typing_low, .ref a_t_typing_high, .int t_typing_spoons])), (a_t_typing_isBroth, .inl (cT 1, 5, .inl t_typing_isBroth)), (a_t_typing_low, .inl (cT 3, 5, .inr (.inl t_typing_low))), (a_t_typing_high, .inl (cT 3, 5, .inr (.inl t_typing_high))), (a_t_typing_storeIsBroth, .inl (cT 1, 24, .inl t_typing_storeIsBroth)), (a_t_typing_storeLow, .inl (cT 3, 24, .inr (.inl t_typing_storeLow))), (a_t_typing_storeHigh, .inl (cT 3, 24, .inr (.inl t_typing_storeHigh)))]) {o : Int32 × Int32 × Int32 × Int32 × Int32 × (Nat → Int32) × (Nat → Int64) × (Nat → Int64) × (Nat → Int32) × (Nat → Int64) × (Nat → Int64)} (h : g_X11_spellOf LS SE t_book_spells t_book_texts t_typing_faultAt t_typing_stores t_typing_spoons t_book_isBroth t_book_low t_book_high t_typing_isBroth t_typing_low t_typing_high t_typing_storeIsBroth t_typing_storeLow t_typing_storeHigh t_book_cooked p1 p2 = some o) (hP0 : va_P (dC, dI) vwCl XW Hh) (hR0 : va_P (dC, dI) vwCl [(a_t, .inr (14, [.ref a_t_book, .ref a_t_saved, .int t_isSaved, .ref a_t_history, .ref a_t_refusal, .ref a_t_reader, .ref a_t_typing, .ref a_t_typingByStores, .ref a_t_cooking, .ref a_t_cookingByStores, .ref a_t_input, .int t_inputLength, .int t_keptError, .ref a_t_line, .int t_boiledOver])), (a_t_book, .inr (4, [.int t_book_cauldrons, .ref a_t_book_isBroth, .ref a_t_book_low, .ref a_t_book_high, .ref a_t_book_contents, .ref a_t_book_storesIn, .int t_book_spells, .ref a_t_book_texts, .ref a_t_book_cooked, .int t_book_cookedSoFar, .int t_book_storesSoFar])), (a_t_book_texts, .inl (cT 7, 4, .inr (.inr (.inr (.inr t_book_texts))))), (a_t_book_isBroth, .inl (cT 1, 6, .inl t_book_isBroth)), (a_t_book_low, .inl (cT 0, 6, .inl t_book_low)), (a_t_book_high, .inl (cT 0, 6, .inl t_book_high)), (a_t_book_cooked, .inl (cT 0, 4, .inl t_book_cooked))] Hh) (hD0 : va_D (fun _ => True) XW) (hN0 : ∀ (k : Nat) (q : Nat × va_E), ([(a_t, .inr (14, [.ref a_t_book, .ref a_t_saved, .int t_isSaved, .ref a_t_history, .ref a_t_refusal, .ref a_t_reader, .ref a_t_typing, .ref a_t_typingByStores, .ref a_t_cooking, .ref a_t_cookingByStores, .ref a_t_input, .int t_inputLength, .int t_keptError, .ref a_t_line, .int t_boiledOver])), (a_t_book, .inr (4, [.int t_book_cauldrons, .ref a_t_book_isBroth, .ref a_t_book_low, .ref a_t_book_high, .ref a_t_book_contents, .ref a_t_book_storesIn, .int t_book_spells, .ref a_t_book_texts, .ref a_t_book_cooked, .int t_book_cookedSoFar, .int t_book_storesSoFar])), (a_t_book_texts, .inl (cT 7, 4, .inr (.inr (.inr (.inr t_book_texts))))), (a_t_book_isBroth, .inl (cT 1, 6, .inl t_book_isBroth)), (a_t_book_low, .inl (cT 0, 6, .inl t_book_low)), (a_t_book_high, .inl (cT 0, 6, .inl t_book_high)), (a_t_book_cooked, .inl (cT 0, 4, .inl t_book_cooked))] : va_W)[k]? = some q → ¬ va_A XW Hh.size q.1) (hSP : ∀ a ∈ LS, va_P (dC, dI) vwCl (spc cT sq SE a) Hh) (hSN : ∀ a ∈ LS, ∀ (k : Nat) (q : Nat × va_E), (spc cT sq SE a)[k]? = some q → ¬ va_A XW Hh.size q.1) : vx_Met l yX11_spellOf (wA yX11_spellOf cX11_spellOf 4 (some .int)) ({ frames := 7, cells := 2, slots := 12, locals := 122 } : Room) (PX dC dI cT [.ref a_t, .int p1, .int p2] Hh (va_A XW Hh.size)) (QXI dC dI o.1 o.2.1 [(a_t_typing, .inr (12, [.int o.2.2.1, .int o.2.2.2.1, .ref a_t_typing_storeIsBroth, .ref a_t_typing_storeLow, .ref a_t_typing_storeHigh, .ref a_t_typing_isBroth, .ref a_t_typing_low, .ref a_t_typing_high, .int o.2.2.2.2.1])), (a_t_typing_isBroth, .inl (cT 1, 5, .inl o.2.2.2.2.2.1)), (a_t_typing_low, .inl (cT 3, 5, .inr (.inl o.2.2.2.2.2.2.1))), (a_t_typing_high, .inl (cT 3, 5, .inr (.inl o.2.2.2.2.2.2.2.1))), (a_t_typing_storeIsBroth, .inl (cT 1, 24, .inl o.2.2.2.2.2.2.2.2.1)), (a_t_typing_storeLow, .inl (cT 3, 24, .inr (.inl o.2.2.2.2.2.2.2.2.2.1))), (a_t_typing_storeHigh, .inl (cT 3, 24, .inr (.inl o.2.2.2.2.2.2.2.2.2.2)))] (va_A XW Hh.size)) (XX dC dI o.1 [(a_t_typing, .inr (12, [.int o.2.2.1, .int o.2.2.2.1, .ref a_t_typing_storeIsBroth, .ref a_t_typing_storeLow, .ref a_t_typing_storeHigh, .ref a_t_typing_isBroth, .ref a_t_typing_low, .ref a_t_typing_high, .int o.2.2.2.2.1])), (a_t_typing_isBroth, .inl (cT 1, 5, .inl o.2.2.2.2.2.1)), (a_t_typing_low, .inl (cT 3, 5, .inr (.inl o.2.2.2.2.2.2.1))), (a_t_typing_high, .inl (cT 3, 5, .inr (.inl o.2.2.2.2.2.2.2.1))), (a_t_typing_storeIsBroth, .inl (cT 1, 24, .inl o.2.2.2.2.2.2.2.2.1)), (a_t_typing_storeLow, .inl (cT 3, 24, .inr (.inl o.2.2.2.2.2.2.2.2.2.1))), (a_t_typing_storeHigh, .inl (cT 3, 24, .inr (.inl o.2.2.2.2.2.2.2.2.2.2)))] (va_A XW Hh.size)) 2 12 (va_A XW Hh.size) := by
  subst eX
  refine vx_ofW (cc := cX11_spellOf) (maxL := 4) (ret := (some .int)) (by decide) rfl ?_
  intro p e s m args below meth c s₁ B hml htab hv
  obtain ⟨rfl, hH, hK, hX⟩ := hv
  subst hH
  have hx := B.exec
  have hb := B.bytes
  have hr := B.returns
  have hta : ∀ w ∈ ALLW, w.before [.ref a_t, .int p1, .int p2].toArray s = true := fun w hw => atoms_spec (ws := wA yX11_spellOf cX11_spellOf 4 (some .int)) B.pre w (List.mem_cons_of_mem _ hw)
  have hown : s.vm.findClass RX11 = some m.cls := findClass_of_methodNamed B.named
  have hlocks := B.notSynchronized
  have hD := hD0.self (sz := s.heap.size)
  have hNA := hN0
  generalize hAe : va_A [(a_t_typing, .inr (12, [.int t_typing_faultAt, .int t_typing_stores, .ref a_t_typing_storeIsBroth, .ref a_t_typing_storeLow, .ref a_t_typing_storeHigh, .ref a_t_typing_isBroth, .ref a_t_typing_low, .ref a_t_typing_high, .int t_typing_spoons])), (a_t_typing_isBroth, .inl (cT 1, 5, .inl t_typing_isBroth)), (a_t_typing_low, .inl (cT 3, 5, .inr (.inl t_typing_low))), (a_t_typing_high, .inl (cT 3, 5, .inr (.inl t_typing_high))), (a_t_typing_storeIsBroth, .inl (cT 1, 24, .inl t_typing_storeIsBroth)), (a_t_typing_storeLow, .inl (cT 3, 24, .inr (.inl t_typing_storeLow))), (a_t_typing_storeHigh, .inl (cT 3, 24, .inr (.inl t_typing_storeHigh)))] s.heap.size = A at hD hNA hSN hX ⊢
  have hP := hP0
  have hA : ∀ q : Nat, s.heap.size ≤ q → A q := fun q h => by rw [← hAe]; exact Or.inr h
  have hS : va_S A s.heap s.heap [] := va_S.rf
  have hl := lv_entry [.ref a_t, .int p1, .int p2] (n := 4) (Nat.le_of_ble_eq_true rfl)
  rw [lg_entry_eq]
  generalize (lg_sl [.ref a_t, .int p1, .int p2] ++ List.replicate (4 - (lg_sl [.ref a_t, .int p1, .int p2]).length) Slot.unset).toArray = ls at hl ⊢
  have hl : lv_has ls 4 [(0, .ref a_t), (1, .int p1), (2, .int p2)] := hl
  unfold g_X11_spellOf at h
  refine lv_aload_n hx hb dX11_spellOf_0 rfl (lv_at hl 0 rfl) ?_
  refine lv_iload_n hx hb dX11_spellOf_1 rfl (lv_at hl 1 rfl) ?_
  obtain ⟨r1, hq, h⟩ := gb_some h
  refine cyO (X2 := [(a_t_typing, .inr (12, [.int t_typing_faultAt, .int t_typing_stores, .ref a_t_typing_storeIsBroth, .ref a_t_typing_storeLow, .ref a_t_typing_storeHigh, .ref a_t_typing_isBroth, .ref a_t_typing_low, .ref a_t_typing_high, .int t_typing_spoons])), (a_t_typing_isBroth, .inl (cT 1, 5, .inl t_typing_isBroth)), (a_t_typing_low, .inl (cT 3, 5, .inr (.inl t_typing_low))), (a_t_typing_high, .inl (cT 3, 5, .inr (.inl t_typing_high))), (a_t_typing_storeIsBroth, .inl (cT 1, 24, .inl t_typing_storeIsBroth)), (a_t_typing_storeLow, .inl (cT 3, 24, .inr (.inl t_typing_storeLow))), (a_t_typing_storeHigh, .inl (cT 3, 24, .inr (.inl t_typing_storeHigh)))]) (vx_runV (As := [.int p1]) (rest := []) ⟨hx, hb, hml, hown, hta⟩ (c_X11_needSpell l hl9 dC dI cT hq (hP.sub (ws' := []) [] rfl) ((rk hR0 hNA hS).sub (ws' := [(a_t, .inr (14, [.ref a_t_book, .ref a_t_saved, .int t_isSaved, .ref a_t_history, .ref a_t_refusal, .ref a_t_reader, .ref a_t_typing, .ref a_t_typingByStores, .ref a_t_cooking, .ref a_t_cookingByStores, .ref a_t_input, .int t_inputLength, .int t_keptError, .ref a_t_line, .int t_boiledOver])), (a_t_book, .inr (4, [.int t_book_cauldrons, .ref a_t_book_isBroth, .ref a_t_book_low, .ref a_t_book_high, .ref a_t_book_contents, .ref a_t_book_storesIn, .int t_book_spells, .ref a_t_book_texts, .ref a_t_book_cooked, .int t_book_cookedSoFar, .int t_book_storesSoFar])), (a_t_book_texts, .inl (cT 7, 4, .inr (.inr (.inr (.inr t_book_texts)))))]) [0, 1, 2] rfl) (ds hD [] (by decide) rfl) (nac hP hD [] rfl (va_free hD hS hA [] rfl) hNA [.inl 0, .inl 1, .inl 2] rfl rfl) (sq := sq) (hSP := (fun a9 ha9 => rk (hSP a9 ha9) (hSN a9 ha9) hS)) (hSN := fun a9 ha9 k9 q9 hk9 hq9 => hSN a9 ha9 k9 q9 hk9 (va_free hD hS hA [] rfl q9.1 hq9))) (cV hta lm_X11_202 md_X11_needSpell ⟨(Nat.le_of_ble_eq_true rfl), (Nat.le_of_ble_eq_true rfl)⟩) ⟨fbX, va_recv hK (rk hR0 hNA hS) (ci := 14) (q0 := 0) rfl rfl, fun U hU hW => ⟨rfl, hU, va_K.moved hW.alike hK, XS.call hX hS hU hW (va_free hD hS hA [] rfl)⟩⟩ rfl rfl hl.1 rfl (lv_room (Nat.le_of_ble_eq_true rfl)) dX11_spellOf_2 ⟨(Nat.le_of_ble_eq_true rfl), (Nat.le_of_ble_eq_true rfl)⟩) hS hA hP hD [] rfl [.inr 0, .inr 1, .inr 2, .inr 3, .inr 4, .inr 5, .inr 6] rfl rfl rfl (fun E ce q9 H locs hne hE hP hD hS hce hcv hcl => ?_) (fun H locs hz hP hD hS => ?_)
  · have h := (if_neg hne).symm.trans h
    have ho := Option.some.inj h
    subst ho
    exact xout htab hlocks hce hcv hcl hS hP hne hE (Nat.le_of_ble_eq_true rfl) (Nat.le_of_ble_eq_true rfl)
  · have h := (if_pos hz).symm.trans h
    refine lv_splitO (fun e0 => ?_) (fun a_y2 e0 => ?_)
    · have h := go_none e0 h
      cases h
    · have h := go_some e0 h
      obtain ⟨hm, h⟩ := gc_some h
      have hs_a_y2 := inl9_in hm
      refine lv_astore_n (lv' := [(3, .ref a_y2), (0, .ref a_t), (1, .int p1), (2, .int p2)]) hx hb dX11_spellOf_5 rfl hl (by decide) rfl (fun ls hl => ?_)
      refine lv_iload_n hx hb dX11_spellOf_6 rfl (lv_at hl 3 rfl) ?_
      by_cases cs5 : p2 = 0
      · have h := (if_pos cs5).symm.trans h
        refine lv_tableIn (tgt := 40) (off := 33) hx hb dX11_spellOf_7 (by rw [cs5]; decide) (by rw [cs5]; decide) (by rw [cs5]; rfl) (by decide) ?_
        refine lv_aload_n hx hb dX11_spellOf_40 rfl (lv_at hl 0 rfl) ?_
        refine va_get (D := (dC, dI)) (ci := 11) (v := .int ((SE a_y2).2.2.1)) (C := RX8) (T := TX8) (N := 9) hx hb hta inX8w hown hK (rk (hSP a_y2 hs_a_y2) (hSN a_y2 hs_a_y2) hS) 0 rfl rfl 1 (by decide) (hta _ lk_X11_261) (fun _ h9 => h9) rfl dX11_spellOf_41 ?_
        refine lv_topi (fun v2 e_v2 => ?_)
        have h := gl_use e_v2 h
        have ho := Option.some.inj h
        subst ho
        refine W.widen (k := 2) (n := 12) (by omega) (by omega) ?_
        refine vx_ret ?_
        exact W.iret (v := v2) hx hb hr (fun t ht hW => ⟨⟨_, (), rfl, ⟨rfl, rfl⟩, by show va_P (dC, dI) vwCl _ t.heap; rw [ht]; exact hP⟩, hS.F ht⟩) hS.2.2 dX11_spellOf_44
      · have h := (if_neg cs5).symm.trans h
        by_cases cs4 : p2 = 1
        · have h := (if_pos cs4).symm.trans h
          refine lv_tableIn (tgt := 45) (off := 38) hx hb dX11_spellOf_7 (by rw [cs4]; decide) (by rw [cs4]; decide) (by rw [cs4]; rfl) (by decide) ?_
          refine lv_aload_n hx hb dX11_spellOf_45 rfl (lv_at hl 0 rfl) ?_
          refine va_get (D := (dC, dI)) (ci := 11) (v := .int ((SE a_y2).2.2.2.1)) (C := RX8) (T := TX8) (N := 9) hx hb hta inX8w hown hK (rk (hSP a_y2 hs_a_y2) (hSN a_y2 hs_a_y2) hS) 0 rfl rfl 2 (by decide) (hta _ lk_X11_264) (fun _ h9 => h9) rfl dX11_spellOf_46 ?_
          refine lv_topi (fun v3 e_v3 => ?_)
          have h := gl_use e_v3 h
          have ho := Option.some.inj h
          subst ho
          refine W.widen (k := 2) (n := 12) (by omega) (by omega) ?_
          refine vx_ret ?_
          exact W.iret (v := v3) hx hb hr (fun t ht hW => ⟨⟨_, (), rfl, ⟨rfl, rfl⟩, by show va_P (dC, dI) vwCl _ t.heap; rw [ht]; exact hP⟩, hS.F ht⟩) hS.2.2 dX11_spellOf_49
        · have h := (if_neg cs4).symm.trans h
          by_cases cs3 : p2 = 2
          · have h := (if_pos cs3).symm.trans h
            refine lv_tableIn (tgt := 50) (off := 43) hx hb dX11_spellOf_7 (by rw [cs3]; decide) (by rw [cs3]; decide) (by rw [cs3]; rfl) (by decide) ?_
            refine lv_aload_n hx hb dX11_spellOf_50 rfl (lv_at hl 0 rfl) ?_
            refine va_get (D := (dC, dI)) (ci := 11) (v := .int ((SE a_y2).2.2.2.2.1)) (C := RX8) (T := TX8) (N := 9) hx hb hta inX8w hown hK (rk (hSP a_y2 hs_a_y2) (hSN a_y2 hs_a_y2) hS) 0 rfl rfl 3 (by decide) (hta _ lk_X11_267) (fun _ h9 => h9) rfl dX11_spellOf_51 ?_
            refine lv_topi (fun v4 e_v4 => ?_)
            have h := gl_use e_v4 h
            have ho := Option.some.inj h
            subst ho
            refine W.widen (k := 2) (n := 12) (by omega) (by omega) ?_
            refine vx_ret ?_
            exact W.iret (v := v4) hx hb hr (fun t ht hW => ⟨⟨_, (), rfl, ⟨rfl, rfl⟩, by show va_P (dC, dI) vwCl _ t.heap; rw [ht]; exact hP⟩, hS.F ht⟩) hS.2.2 dX11_spellOf_54
          · have h := (if_neg cs3).symm.trans h
            by_cases cs2 : p2 = 3
            · have h := (if_pos cs2).symm.trans h
              refine lv_tableIn (tgt := 55) (off := 48) hx hb dX11_spellOf_7 (by rw [cs2]; decide) (by rw [cs2]; decide) (by rw [cs2]; rfl) (by decide) ?_
              refine lv_aload_n hx hb dX11_spellOf_55 rfl (lv_at hl 1 rfl) ?_
              refine va_get (D := (dC, dI)) (ci := 14) (v := .ref a_t_typing) (C := RX11) (T := TX11) (N := 15) hx hb hta inX11w hown hK (rk hR0 hNA hS) 0 rfl rfl 6 (by decide) (hta _ lk_X11_47) (fun _ h9 => h9) rfl dX11_spellOf_56 ?_
              refine lv_aload_n hx hb dX11_spellOf_59 rfl (lv_at hl 0 rfl) ?_
              refine lv_aload_n hx hb dX11_spellOf_60 rfl (lv_at hl 1 rfl) ?_
              refine va_get (D := (dC, dI)) (ci := 14) (v := .ref a_t_book) (C := RX11) (T := TX11) (N := 15) hx hb hta inX11w hown hK (rk hR0 hNA hS) 0 rfl rfl 0 (by decide) (hta _ lk_X11_10) (fun _ h9 => h9) rfl dX11_spellOf_61 ?_
              obtain ⟨r5, hq, h⟩ := gb_some h
              refine cxI (X2 := [(a_t_typing, .inr (12, [.int r5.2.1, .int r5.2.2.1, .ref a_t_typing_storeIsBroth, .ref a_t_typing_storeLow, .ref a_t_typing_storeHigh, .ref a_t_typing_isBroth, .ref a_t_typing_low, .ref a_t_typing_high, .int r5.2.2.2.1])), (a_t_typing_isBroth, .inl (cT 1, 5, .inl r5.2.2.2.2.1)), (a_t_typing_low, .inl (cT 3, 5, .inr (.inl r5.2.2.2.2.2.1))), (a_t_typing_high, .inl (cT 3, 5, .inr (.inl r5.2.2.2.2.2.2.1))), (a_t_typing_storeIsBroth, .inl (cT 1, 24, .inl r5.2.2.2.2.2.2.2.1)), (a_t_typing_storeLow, .inl (cT 3, 24, .inr (.inl r5.2.2.2.2.2.2.2.2.1))), (a_t_typing_storeHigh, .inl (cT 3, 24, .inr (.inl r5.2.2.2.2.2.2.2.2.2)))]) (va_runV (As := [.ref a_y2, .ref a_t_book]) (rest := []) ⟨hx, hb, hml, hown, hta⟩ (c_X9_passes l dC dI cT hq (hP.sub (ws' := [(a_t_typing, .inr (12, [.int t_typing_faultAt, .int t_typing_stores, .ref a_t_typing_storeIsBroth, .ref a_t_typing_storeLow, .ref a_t_typing_storeHigh, .ref a_t_typing_isBroth, .ref a_t_typing_low, .ref a_t_typing_high, .int t_typing_spoons])), (a_t_typing_isBroth, .inl (cT 1, 5, .inl t_typing_isBroth)), (a_t_typing_low, .inl (cT 3, 5, .inr (.inl t_typing_low))), (a_t_typing_high, .inl (cT 3, 5, .inr (.inl t_typing_high))), (a_t_typing_storeIsBroth, .inl (cT 1, 24, .inl t_typing_storeIsBroth)), (a_t_typing_storeLow, .inl (cT 3, 24, .inr (.inl t_typing_storeLow))), (a_t_typing_storeHigh, .inl (cT 3, 24, .inr (.inl t_typing_storeHigh)))]) [0, 1, 2, 3, 4, 5, 6] rfl) ((va_P.app (va_P.app hP (rk hR0 hNA hS)) (rk (hSP a_y2 hs_a_y2) (hSN a_y2 hs_a_y2) hS)).sub (ws' := [(a_y2, .inr (11, [.ref (sq a_y2 0), .int (SE a_y2).2.2.1, .int (SE a_y2).2.2.2.1, .int (SE a_y2).2.2.2.2.1, .ref (sq a_y2 1), .ref (sq a_y2 2), .ref (sq a_y2 3), .ref (sq a_y2 4), .ref (sq a_y2 5)])), (a_t_book, .inr (4, [.int t_book_cauldrons, .ref a_t_book_isBroth, .ref a_t_book_low, .ref a_t_book_high, .ref a_t_book_contents, .ref a_t_book_storesIn, .int t_book_spells, .ref a_t_book_texts, .ref a_t_book_cooked, .int t_book_cookedSoFar, .int t_book_storesSoFar])), ((sq a_y2 2), .inl (cT 0, 24, .inl (SE a_y2).2.2.2.2.2.2.1)), ((sq a_y2 3), .inl (cT 0, 24, .inl (SE a_y2).2.2.2.2.2.2.2.1)), (a_t_book_isBroth, .inl (cT 1, 6, .inl t_book_isBroth)), (a_t_book_low, .inl (cT 0, 6, .inl t_book_low)), (a_t_book_high, .inl (cT 0, 6, .inl t_book_high))]) [14, 8, 17, 18, 10, 11, 12] rfl) (ds hD [0, 1, 2, 3, 4, 5, 6] (by decide) rfl) (nac hP hD [0, 1, 2, 3, 4, 5, 6] rfl (va_free hD hS hA [0, 1, 2, 3, 4, 5, 6] rfl) (na_app hNA (hSN a_y2 hs_a_y2)) [.inl 7, .inl 1, .inl 10, .inl 11, .inl 3, .inl 4, .inl 5] rfl rfl)) (cV hta lm_X11_243 md_X9_passes ⟨(Nat.le_of_ble_eq_true rfl), (Nat.le_of_ble_eq_true rfl)⟩) ⟨fbK, va_recv hK hP (ci := 12) (q0 := 0) rfl rfl, fun U hU hW => ⟨rfl, hU, va_K.moved hW.alike hK⟩⟩ rfl rfl hl.1 rfl (lv_room (Nat.le_of_ble_eq_true rfl)) dX11_spellOf_64 ⟨(Nat.le_of_ble_eq_true rfl), (Nat.le_of_ble_eq_true rfl)⟩) hS hA hP hD [0, 1, 2, 3, 4, 5, 6] rfl [.inl 0, .inl 1, .inl 2, .inl 3, .inl 4, .inl 5, .inl 6] rfl rfl rfl (fun H locs hP hD hS => ?_)
              refine lv_if_eq (tgt := 74) hx hb dX11_spellOf_67 (by decide) (fun c0 => ?_) (fun c0 => ?_)
              · have h := (if_pos c0).symm.trans h
                refine lv_iconst (v := 0) hx hb dX11_spellOf_74 (by decide) ?_
                have ho := Option.some.inj h
                subst ho
                refine W.widen (k := 2) (n := 12) (by omega) (by omega) ?_
                refine vx_ret ?_
                exact W.iret (v := 0) hx hb hr (fun t ht hW => ⟨⟨_, (), rfl, ⟨rfl, rfl⟩, by show va_P (dC, dI) vwCl _ t.heap; rw [ht]; exact hP⟩, hS.F ht⟩) hS.2.2 dX11_spellOf_75
              · have h := (if_neg c0).symm.trans h
                refine lv_iconst (v := 1) hx hb dX11_spellOf_70 (by decide) ?_
                refine lv_goto (tgt := 75) hx hb dX11_spellOf_71 (by decide) ?_
                have ho := Option.some.inj h
                subst ho
                refine W.widen (k := 2) (n := 12) (by omega) (by omega) ?_
                refine vx_ret ?_
                exact W.iret (v := 1) hx hb hr (fun t ht hW => ⟨⟨_, (), rfl, ⟨rfl, rfl⟩, by show va_P (dC, dI) vwCl _ t.heap; rw [ht]; exact hP⟩, hS.F ht⟩) hS.2.2 dX11_spellOf_75
            · have h := (if_neg cs2).symm.trans h
              by_cases cs1 : p2 = 4
              · have h := (if_pos cs1).symm.trans h
                refine lv_tableIn (tgt := 76) (off := 69) hx hb dX11_spellOf_7 (by rw [cs1]; decide) (by rw [cs1]; decide) (by rw [cs1]; rfl) (by decide) ?_
                refine lv_aload_n hx hb dX11_spellOf_76 rfl (lv_at hl 1 rfl) ?_
                refine va_get (D := (dC, dI)) (ci := 14) (v := .ref a_t_book) (C := RX11) (T := TX11) (N := 15) hx hb hta inX11w hown hK (rk hR0 hNA hS) 0 rfl rfl 0 (by decide) (hta _ lk_X11_10) (fun _ h9 => h9) rfl dX11_spellOf_77 ?_
                refine va_get (D := (dC, dI)) (ci := 4) (v := .ref a_t_book_cooked) (C := RX0) (T := TX0) (N := 11) hx hb hta inX0w hown hK (rk hR0 hNA hS) 1 rfl rfl 8 (by decide) (hta _ lk_X11_270) (fun _ h9 => h9) rfl dX11_spellOf_80 ?_
                refine lv_iload_n hx hb dX11_spellOf_83 rfl (lv_at hl 2 rfl) ?_
                obtain ⟨hc, h⟩ := gc_some h
                refine va_iald hx hb hK (rk hR0 hNA hS) 6 0 rfl rfl (inb_in hc) dX11_spellOf_84 ?_
                refine lv_topi (fun v6 e_v6 => ?_)
                have h := gl_use e_v6 h
                have ho := Option.some.inj h
                subst ho
                refine W.widen (k := 2) (n := 12) (by omega) (by omega) ?_
                refine vx_ret ?_
                exact W.iret (v := v6) hx hb hr (fun t ht hW => ⟨⟨_, (), rfl, ⟨rfl, rfl⟩, by show va_P (dC, dI) vwCl _ t.heap; rw [ht]; exact hP⟩, hS.F ht⟩) hS.2.2 dX11_spellOf_85
              · have h := (if_neg cs1).symm.trans h
                refine lv_tableOut (tgt := 86) hx hb dX11_spellOf_7 (by have q0 := lv_neT cs5 (a := 0) (by decide); have q1 := lv_neT cs4 (a := 1) (by decide); have q2 := lv_neT cs3 (a := 2) (by decide); have q3 := lv_neT cs2 (a := 3) (by decide); have q4 := lv_neT cs1 (a := 4) (by decide); omega) (by decide) ?_
                have ho := Option.some.inj h
                subst ho
                exact xthrowW hx hb hl9 hown hta hX xf_1 (List.mem_of_getElem? (i := 17) rfl) hS (hl.1.trans hml.symm) dX11_spellOf_86 dX11_spellOf_89 dX11_spellOf_90 dX11_spellOf_93 dX11_spellOf_96 htab (Nat.le_of_ble_eq_true rfl) (Nat.le_of_ble_eq_true rfl) (Nat.le_of_ble_eq_true rfl) (Nat.le_of_ble_eq_true rfl) hlocks hP (show (1 : Int32) ≠ 0 by decide) exn_1.symm (Nat.le_of_ble_eq_true rfl) (Nat.le_of_ble_eq_true rfl)
set_option maxHeartbeats 4000000 in
set_option maxRecDepth 100000 in
theorem c_X11_token (l : Launch) (hl9 : l.stackTraces = false) (dC : Nat → ClassId) (dI : Nat → Nat → Nat) (cT : Nat → ClassId) {Hh : Heap} {sq : Nat → Nat → Nat} {a_t : Nat} {a_t_book : Nat} {a_t_book_texts : Nat} {a_t_saved : Nat} {a_t_history : Nat} {a_t_refusal : Nat} {a_t_reader : Nat} {a_t_typing : Nat} {a_t_typingByStores : Nat} {a_t_cooking : Nat} {a_t_cookingByStores : Nat} {a_t_input : Nat} {a_t_line : Nat} {a_t_book_isBroth : Nat} {a_t_book_low : Nat} {a_t_book_high : Nat} {a_t_book_contents : Nat} {a_t_book_storesIn : Nat} {a_t_book_cooked : Nat} {LS : List Nat} {SE : Nat → SV} {t_book_spells : Int32} {t_book_texts : Nat → Option Nat} {p1 : Int32} {p2 : Int32} {t_isSaved : Int32} {t_inputLength : Int32} {t_keptError : Int32} {t_boiledOver : Int32} {t_book_cauldrons : Int32} {t_book_cookedSoFar : Int32} {t_book_storesSoFar : Int32} {o : Int32 × Int32} (h : g_X11_token LS SE t_book_spells t_book_texts p1 p2 = some o) (hP0 : va_P (dC, dI) vwCl [] Hh) (hR0 : va_P (dC, dI) vwCl [(a_t, .inr (14, [.ref a_t_book, .ref a_t_saved, .int t_isSaved, .ref a_t_history, .ref a_t_refusal, .ref a_t_reader, .ref a_t_typing, .ref a_t_typingByStores, .ref a_t_cooking, .ref a_t_cookingByStores, .ref a_t_input, .int t_inputLength, .int t_keptError, .ref a_t_line, .int t_boiledOver])), (a_t_book, .inr (4, [.int t_book_cauldrons, .ref a_t_book_isBroth, .ref a_t_book_low, .ref a_t_book_high, .ref a_t_book_contents, .ref a_t_book_storesIn, .int t_book_spells, .ref a_t_book_texts, .ref a_t_book_cooked, .int t_book_cookedSoFar, .int t_book_storesSoFar])), (a_t_book_texts, .inl (cT 7, 4, .inr (.inr (.inr (.inr t_book_texts)))))] Hh) (hD0 : va_D (fun _ => True) []) (hN0 : ∀ (k : Nat) (q : Nat × va_E), ([(a_t, .inr (14, [.ref a_t_book, .ref a_t_saved, .int t_isSaved, .ref a_t_history, .ref a_t_refusal, .ref a_t_reader, .ref a_t_typing, .ref a_t_typingByStores, .ref a_t_cooking, .ref a_t_cookingByStores, .ref a_t_input, .int t_inputLength, .int t_keptError, .ref a_t_line, .int t_boiledOver])), (a_t_book, .inr (4, [.int t_book_cauldrons, .ref a_t_book_isBroth, .ref a_t_book_low, .ref a_t_book_high, .ref a_t_book_contents, .ref a_t_book_storesIn, .int t_book_spells, .ref a_t_book_texts, .ref a_t_book_cooked, .int t_book_cookedSoFar, .int t_book_storesSoFar])), (a_t_book_texts, .inl (cT 7, 4, .inr (.inr (.inr (.inr t_book_texts)))))] : va_W)[k]? = some q → ¬ va_A [] Hh.size q.1) (hSP : ∀ a ∈ LS, va_P (dC, dI) vwCl (spc cT sq SE a) Hh) (hSN : ∀ a ∈ LS, ∀ (k : Nat) (q : Nat × va_E), (spc cT sq SE a)[k]? = some q → ¬ va_A [] Hh.size q.1) : vx_Met l yX11_token (wA yX11_token cX11_token 4 (some .char)) ({ frames := 7, cells := 2, slots := 12, locals := 112 } : Room) (PX dC dI cT [.ref a_t, .int p1, .int p2] Hh (va_A [] Hh.size)) (QXI dC dI o.1 o.2 [] (va_A [] Hh.size)) (XX dC dI o.1 [] (va_A [] Hh.size)) 2 12 (va_A [] Hh.size) := by
  refine vx_ofW (cc := cX11_token) (maxL := 4) (ret := (some .char)) (by decide) rfl ?_
  intro p e s m args below meth c s₁ B hml htab hv
  obtain ⟨rfl, hH, hK, hX⟩ := hv
  subst hH
  have hx := B.exec
  have hb := B.bytes
  have hr := B.returns
  have hta : ∀ w ∈ ALLW, w.before [.ref a_t, .int p1, .int p2].toArray s = true := fun w hw => atoms_spec (ws := wA yX11_token cX11_token 4 (some .char)) B.pre w (List.mem_cons_of_mem _ hw)
  have hown : s.vm.findClass RX11 = some m.cls := findClass_of_methodNamed B.named
  have hlocks := B.notSynchronized
  have hD := hD0.self (sz := s.heap.size)
  have hNA := hN0
  generalize hAe : va_A [] s.heap.size = A at hD hNA hSN hX ⊢
  have hP := hP0
  have hA : ∀ q : Nat, s.heap.size ≤ q → A q := fun q h => by rw [← hAe]; exact Or.inr h
  have hS : va_S A s.heap s.heap [] := va_S.rf
  have hl := lv_entry [.ref a_t, .int p1, .int p2] (n := 4) (Nat.le_of_ble_eq_true rfl)
  rw [lg_entry_eq]
  generalize (lg_sl [.ref a_t, .int p1, .int p2] ++ List.replicate (4 - (lg_sl [.ref a_t, .int p1, .int p2]).length) Slot.unset).toArray = ls at hl ⊢
  have hl : lv_has ls 4 [(0, .ref a_t), (1, .int p1), (2, .int p2)] := hl
  obtain ⟨Q, hQ⟩ : ∃ Q, Q = vx_MQ below (QXI dC dI o.1 o.2 [] A) (XX dC dI o.1 [] A) [.ref a_t, .int p1, .int p2].toArray s 2 12 A := ⟨_, rfl⟩
  rw [← hQ]
  have wB_18 : ∀ (H : Heap) (locs : List Loc) (ls : Array Slot), g_X11_token_b18 = some o → va_P (dC, dI) vwCl [] H → va_D A [] → va_S A s.heap H locs → lv_has ls 4 [] → W p l e ({ frames := 7, cells := 2, slots := 12, locals := 112 } : Room) s m [.ref a_t, .int p1, .int p2].toArray below meth c H locs 1 6 Q (F0 m 18 ls []) := by
    intro H locs ls h hP hD hS hl
    unfold g_X11_token_b18 at h
    have ho := Option.some.inj h
    subst ho
    rw [hQ]
    exact xthrowNW hx hb hl9 hown hta hX xf_3 (List.mem_of_getElem? (i := 16) rfl) hS (hl.1.trans hml.symm) dX11_token_18 dX11_token_21 dX11_token_22 dX11_token_25 dX11_token_28 htab (Nat.le_of_ble_eq_true rfl) (Nat.le_of_ble_eq_true rfl) (Nat.le_of_ble_eq_true rfl) (Nat.le_of_ble_eq_true rfl) hlocks hP (show (3 : Int32) ≠ 0 by decide) exn_3.symm (Nat.le_of_ble_eq_true rfl) (Nat.le_of_ble_eq_true rfl)
  unfold g_X11_token at h
  refine lv_aload_n hx hb dX11_token_0 rfl (lv_at hl 0 rfl) ?_
  refine lv_iload_n hx hb dX11_token_1 rfl (lv_at hl 1 rfl) ?_
  obtain ⟨r1, hq, h⟩ := gb_some h
  refine cyO (X2 := []) (vx_runV (As := [.int p1]) (rest := []) ⟨hx, hb, hml, hown, hta⟩ (c_X11_needSpell l hl9 dC dI cT hq (hP.sub (ws' := []) [] rfl) ((rk hR0 hNA hS).sub (ws' := [(a_t, .inr (14, [.ref a_t_book, .ref a_t_saved, .int t_isSaved, .ref a_t_history, .ref a_t_refusal, .ref a_t_reader, .ref a_t_typing, .ref a_t_typingByStores, .ref a_t_cooking, .ref a_t_cookingByStores, .ref a_t_input, .int t_inputLength, .int t_keptError, .ref a_t_line, .int t_boiledOver])), (a_t_book, .inr (4, [.int t_book_cauldrons, .ref a_t_book_isBroth, .ref a_t_book_low, .ref a_t_book_high, .ref a_t_book_contents, .ref a_t_book_storesIn, .int t_book_spells, .ref a_t_book_texts, .ref a_t_book_cooked, .int t_book_cookedSoFar, .int t_book_storesSoFar])), (a_t_book_texts, .inl (cT 7, 4, .inr (.inr (.inr (.inr t_book_texts)))))]) [0, 1, 2] rfl) (ds hD [] (by decide) rfl) (nac hP hD [] rfl (va_free hD hS hA [] rfl) hNA [.inl 0, .inl 1, .inl 2] rfl rfl) (sq := sq) (hSP := (fun a9 ha9 => rk (hSP a9 ha9) (hSN a9 ha9) hS)) (hSN := fun a9 ha9 k9 q9 hk9 hq9 => hSN a9 ha9 k9 q9 hk9 (va_free hD hS hA [] rfl q9.1 hq9))) (cV hta lm_X11_202 md_X11_needSpell ⟨(Nat.le_of_ble_eq_true rfl), (Nat.le_of_ble_eq_true rfl)⟩) ⟨fbX, va_recv hK (rk hR0 hNA hS) (ci := 14) (q0 := 0) rfl rfl, fun U hU hW => ⟨rfl, hU, va_K.moved hW.alike hK, XS.call hX hS hU hW (va_free hD hS hA [] rfl)⟩⟩ rfl rfl hl.1 rfl (lv_room (Nat.le_of_ble_eq_true rfl)) dX11_token_2 ⟨(Nat.le_of_ble_eq_true rfl), (Nat.le_of_ble_eq_true rfl)⟩) hS hA hP hD [] rfl [] rfl rfl rfl (fun E ce q9 H locs hne hE hP hD hS hce hcv hcl => ?_) (fun H locs hz hP hD hS => ?_)
  · have h := (if_neg hne).symm.trans h
    have ho := Option.some.inj h
    subst ho
    rw [hQ]
    exact xout htab hlocks hce hcv hcl hS hP hne hE (Nat.le_of_ble_eq_true rfl) (Nat.le_of_ble_eq_true rfl)
  · have h := (if_pos hz).symm.trans h
    refine lv_splitO (fun e0 => ?_) (fun a_y2 e0 => ?_)
    · have h := go_none e0 h
      cases h
    · have h := go_some e0 h
      obtain ⟨hm, h⟩ := gc_some h
      have hs_a_y2 := inl9_in hm
      refine lv_astore_n (lv' := [(3, .ref a_y2), (0, .ref a_t), (1, .int p1), (2, .int p2)]) hx hb dX11_token_5 rfl hl (by decide) rfl (fun ls hl => ?_)
      refine lv_iload_n hx hb dX11_token_6 rfl (lv_at hl 3 rfl) ?_
      refine lv_if_lt (tgt := 18) hx hb dX11_token_7 (by decide) (fun c0 => ?_) (fun c0 => ?_)
      · have h := (if_pos c0).symm.trans h
        exact wB_18 _ _ _ h hP hD hS (lv_sub hl [] rfl)
      · have h := (if_neg c0).symm.trans h
        refine lv_iload_n hx hb dX11_token_10 rfl (lv_at hl 3 rfl) ?_
        refine lv_aload_n hx hb dX11_token_11 rfl (lv_at hl 0 rfl) ?_
        refine va_get (D := (dC, dI)) (ci := 11) (v := .int ((SE a_y2).2.2.1)) (C := RX8) (T := TX8) (N := 9) hx hb hta inX8w hown hK (rk (hSP a_y2 hs_a_y2) (hSN a_y2 hs_a_y2) hS) 0 rfl rfl 1 (by decide) (hta _ lk_X11_261) (fun _ h9 => h9) rfl dX11_token_12 ?_
        refine lv_icmp_lt (tgt := 29) hx hb dX11_token_15 (by decide) (fun c0 => ?_) (fun c0 => ?_)
        · have h := (if_pos c0).symm.trans h
          refine lv_aload_n hx hb dX11_token_29 rfl (lv_at hl 0 rfl) ?_
          refine va_get (D := (dC, dI)) (ci := 11) (v := .ref (sq a_y2 1)) (C := RX8) (T := TX8) (N := 9) hx hb hta inX8w hown hK (rk (hSP a_y2 hs_a_y2) (hSN a_y2 hs_a_y2) hS) 0 rfl rfl 4 (by decide) (hta _ lk_X11_277) (fun _ h9 => h9) rfl dX11_token_30 ?_
          refine lv_iload_n hx hb dX11_token_33 rfl (lv_at hl 3 rfl) ?_
          obtain ⟨hc, h⟩ := gc_some h
          refine va_cald hx hb hK (rk (hSP a_y2 hs_a_y2) (hSN a_y2 hs_a_y2) hS) 2 2 rfl rfl (inb_in hc) dX11_token_34 ?_
          refine lv_topi (fun v2 e_v2 => ?_)
          have h := gl_use e_v2 h
          obtain ⟨hc, h⟩ := gc_some h
          have ho := Option.some.inj h
          subst ho
          rw [hQ]
          refine W.widen (k := 2) (n := 12) (by omega) (by omega) ?_
          refine vx_ret ?_
          exact W.zret (ty := .char) (v := v2) hx hb hr (cho_nf hc).1 (fun t ht hW => ⟨⟨_, (), rfl, ⟨rfl, rfl⟩, by show va_P (dC, dI) vwCl _ t.heap; rw [ht]; exact hP⟩, hS.F ht⟩) hS.2.2 dX11_token_35
        · have h := (if_neg c0).symm.trans h
          exact wB_18 _ _ _ h hP hD hS (lv_sub hl [] rfl)
set_option maxHeartbeats 4000000 in
set_option maxRecDepth 100000 in
theorem c_X11_types (l : Launch) (hl9 : l.stackTraces = false) (dC : Nat → ClassId) (dI : Nat → Nat → Nat) (cT : Nat → ClassId) {Hh : Heap} {sq : Nat → Nat → Nat} {a_t : Nat} {a_t_book : Nat} {a_t_book_texts : Nat} {a_t_typing : Nat} {a_t_book_isBroth : Nat} {a_t_book_low : Nat} {a_t_book_high : Nat} {a_t_typing_isBroth : Nat} {a_t_typing_low : Nat} {a_t_typing_high : Nat} {a_t_typing_storeIsBroth : Nat} {a_t_typing_storeLow : Nat} {a_t_typing_storeHigh : Nat} {a_t_saved : Nat} {a_t_history : Nat} {a_t_refusal : Nat} {a_t_reader : Nat} {a_t_typingByStores : Nat} {a_t_cooking : Nat} {a_t_cookingByStores : Nat} {a_t_input : Nat} {a_t_line : Nat} {a_t_book_contents : Nat} {a_t_book_storesIn : Nat} {a_t_book_cooked : Nat} {LS : List Nat} {SE : Nat → SV} {t_book_spells : Int32} {t_book_texts : Nat → Option Nat} {t_typing_faultAt : Int32} {t_typing_stores : Int32} {t_typing_spoons : Int32} {t_book_isBroth : Nat → Int32} {t_book_low : Nat → Int32} {t_book_high : Nat → Int32} {t_typing_isBroth : Nat → Int32} {t_typing_low : Nat → Int64} {t_typing_high : Nat → Int64} {t_typing_storeIsBroth : Nat → Int32} {t_typing_storeLow : Nat → Int64} {t_typing_storeHigh : Nat → Int64} {p1 : Int32} {t_isSaved : Int32} {t_inputLength : Int32} {t_keptError : Int32} {t_boiledOver : Int32} {t_book_cauldrons : Int32} {t_book_cookedSoFar : Int32} {t_book_storesSoFar : Int32} {XW : va_W} (eX : XW = [(a_t_typing, .inr (12, [.int t_typing_faultAt, .int t_typing_stores, .ref a_t_typing_storeIsBroth, .ref a_t_typing_storeLow, .ref a_t_typing_storeHigh, .ref a_t_typing_isBroth, .ref a_t_typing_low, .ref a_t_typing_high, .int t_typing_spoons])), (a_t_typing_isBroth, .inl (cT 1, 5, .inl t_typing_isBroth)), (a_t_typing_low, .inl (cT 3, 5, .inr (.inl t_typing_low))), (a_t_typing_high, .inl (cT 3, 5, .inr (.inl t_typing_high))), (a_t_typing_storeIsBroth, .inl (cT 1, 24, .inl t_typing_storeIsBroth)), (a_t_typing_storeLow, .inl (cT 3, 24, .inr (.inl t_typing_storeLow))), (a_t_typing_storeHigh, .inl (cT 3, 24, .inr (.inl t_typing_storeHigh)))]) {o : Int32 × Int32 × Int32 × Int32 × Int32 × (Nat → Int32) × (Nat → Int64) × (Nat → Int64) × (Nat → Int32) × (Nat → Int64) × (Nat → Int64)} (h : g_X11_types LS SE t_book_spells t_book_texts t_typing_faultAt t_typing_stores t_typing_spoons t_book_isBroth t_book_low t_book_high t_typing_isBroth t_typing_low t_typing_high t_typing_storeIsBroth t_typing_storeLow t_typing_storeHigh p1 = some o) (hP0 : va_P (dC, dI) vwCl XW Hh) (hR0 : va_P (dC, dI) vwCl [(a_t, .inr (14, [.ref a_t_book, .ref a_t_saved, .int t_isSaved, .ref a_t_history, .ref a_t_refusal, .ref a_t_reader, .ref a_t_typing, .ref a_t_typingByStores, .ref a_t_cooking, .ref a_t_cookingByStores, .ref a_t_input, .int t_inputLength, .int t_keptError, .ref a_t_line, .int t_boiledOver])), (a_t_book, .inr (4, [.int t_book_cauldrons, .ref a_t_book_isBroth, .ref a_t_book_low, .ref a_t_book_high, .ref a_t_book_contents, .ref a_t_book_storesIn, .int t_book_spells, .ref a_t_book_texts, .ref a_t_book_cooked, .int t_book_cookedSoFar, .int t_book_storesSoFar])), (a_t_book_texts, .inl (cT 7, 4, .inr (.inr (.inr (.inr t_book_texts))))), (a_t_book_isBroth, .inl (cT 1, 6, .inl t_book_isBroth)), (a_t_book_low, .inl (cT 0, 6, .inl t_book_low)), (a_t_book_high, .inl (cT 0, 6, .inl t_book_high))] Hh) (hD0 : va_D (fun _ => True) XW) (hN0 : ∀ (k : Nat) (q : Nat × va_E), ([(a_t, .inr (14, [.ref a_t_book, .ref a_t_saved, .int t_isSaved, .ref a_t_history, .ref a_t_refusal, .ref a_t_reader, .ref a_t_typing, .ref a_t_typingByStores, .ref a_t_cooking, .ref a_t_cookingByStores, .ref a_t_input, .int t_inputLength, .int t_keptError, .ref a_t_line, .int t_boiledOver])), (a_t_book, .inr (4, [.int t_book_cauldrons, .ref a_t_book_isBroth, .ref a_t_book_low, .ref a_t_book_high, .ref a_t_book_contents, .ref a_t_book_storesIn, .int t_book_spells, .ref a_t_book_texts, .ref a_t_book_cooked, .int t_book_cookedSoFar, .int t_book_storesSoFar])), (a_t_book_texts, .inl (cT 7, 4, .inr (.inr (.inr (.inr t_book_texts))))), (a_t_book_isBroth, .inl (cT 1, 6, .inl t_book_isBroth)), (a_t_book_low, .inl (cT 0, 6, .inl t_book_low)), (a_t_book_high, .inl (cT 0, 6, .inl t_book_high))] : va_W)[k]? = some q → ¬ va_A XW Hh.size q.1) (hSP : ∀ a ∈ LS, va_P (dC, dI) vwCl (spc cT sq SE a) Hh) (hSN : ∀ a ∈ LS, ∀ (k : Nat) (q : Nat × va_E), (spc cT sq SE a)[k]? = some q → ¬ va_A XW Hh.size q.1) : vx_Met l yX11_types (wA yX11_types cX11_types 3 (some .boolean)) ({ frames := 7, cells := 1, slots := 6, locals := 122 } : Room) (PX dC dI cT [.ref a_t, .int p1] Hh (va_A XW Hh.size)) (QXI dC dI o.1 o.2.1 [(a_t_typing, .inr (12, [.int o.2.2.1, .int o.2.2.2.1, .ref a_t_typing_storeIsBroth, .ref a_t_typing_storeLow, .ref a_t_typing_storeHigh, .ref a_t_typing_isBroth, .ref a_t_typing_low, .ref a_t_typing_high, .int o.2.2.2.2.1])), (a_t_typing_isBroth, .inl (cT 1, 5, .inl o.2.2.2.2.2.1)), (a_t_typing_low, .inl (cT 3, 5, .inr (.inl o.2.2.2.2.2.2.1))), (a_t_typing_high, .inl (cT 3, 5, .inr (.inl o.2.2.2.2.2.2.2.1))), (a_t_typing_storeIsBroth, .inl (cT 1, 24, .inl o.2.2.2.2.2.2.2.2.1)), (a_t_typing_storeLow, .inl (cT 3, 24, .inr (.inl o.2.2.2.2.2.2.2.2.2.1))), (a_t_typing_storeHigh, .inl (cT 3, 24, .inr (.inl o.2.2.2.2.2.2.2.2.2.2)))] (va_A XW Hh.size)) (XX dC dI o.1 [(a_t_typing, .inr (12, [.int o.2.2.1, .int o.2.2.2.1, .ref a_t_typing_storeIsBroth, .ref a_t_typing_storeLow, .ref a_t_typing_storeHigh, .ref a_t_typing_isBroth, .ref a_t_typing_low, .ref a_t_typing_high, .int o.2.2.2.2.1])), (a_t_typing_isBroth, .inl (cT 1, 5, .inl o.2.2.2.2.2.1)), (a_t_typing_low, .inl (cT 3, 5, .inr (.inl o.2.2.2.2.2.2.1))), (a_t_typing_high, .inl (cT 3, 5, .inr (.inl o.2.2.2.2.2.2.2.1))), (a_t_typing_storeIsBroth, .inl (cT 1, 24, .inl o.2.2.2.2.2.2.2.2.1)), (a_t_typing_storeLow, .inl (cT 3, 24, .inr (.inl o.2.2.2.2.2.2.2.2.2.1))), (a_t_typing_storeHigh, .inl (cT 3, 24, .inr (.inl o.2.2.2.2.2.2.2.2.2.2)))] (va_A XW Hh.size)) 1 6 (va_A XW Hh.size) := by
  subst eX
  refine vx_ofW (cc := cX11_types) (maxL := 3) (ret := (some .boolean)) (by decide) rfl ?_
  intro p e s m args below meth c s₁ B hml htab hv
  obtain ⟨rfl, hH, hK, hX⟩ := hv
  subst hH
  have hx := B.exec
  have hb := B.bytes
  have hr := B.returns
  have hta : ∀ w ∈ ALLW, w.before [.ref a_t, .int p1].toArray s = true := fun w hw => atoms_spec (ws := wA yX11_types cX11_types 3 (some .boolean)) B.pre w (List.mem_cons_of_mem _ hw)
  have hown : s.vm.findClass RX11 = some m.cls := findClass_of_methodNamed B.named
  have hlocks := B.notSynchronized
  have hD := hD0.self (sz := s.heap.size)
  have hNA := hN0
  generalize hAe : va_A [(a_t_typing, .inr (12, [.int t_typing_faultAt, .int t_typing_stores, .ref a_t_typing_storeIsBroth, .ref a_t_typing_storeLow, .ref a_t_typing_storeHigh, .ref a_t_typing_isBroth, .ref a_t_typing_low, .ref a_t_typing_high, .int t_typing_spoons])), (a_t_typing_isBroth, .inl (cT 1, 5, .inl t_typing_isBroth)), (a_t_typing_low, .inl (cT 3, 5, .inr (.inl t_typing_low))), (a_t_typing_high, .inl (cT 3, 5, .inr (.inl t_typing_high))), (a_t_typing_storeIsBroth, .inl (cT 1, 24, .inl t_typing_storeIsBroth)), (a_t_typing_storeLow, .inl (cT 3, 24, .inr (.inl t_typing_storeLow))), (a_t_typing_storeHigh, .inl (cT 3, 24, .inr (.inl t_typing_storeHigh)))] s.heap.size = A at hD hNA hSN hX ⊢
  have hP := hP0
  have hA : ∀ q : Nat, s.heap.size ≤ q → A q := fun q h => by rw [← hAe]; exact Or.inr h
  have hS : va_S A s.heap s.heap [] := va_S.rf
  have hl := lv_entry [.ref a_t, .int p1] (n := 3) (Nat.le_of_ble_eq_true rfl)
  rw [lg_entry_eq]
  generalize (lg_sl [.ref a_t, .int p1] ++ List.replicate (3 - (lg_sl [.ref a_t, .int p1]).length) Slot.unset).toArray = ls at hl ⊢
  have hl : lv_has ls 3 [(0, .ref a_t), (1, .int p1)] := hl
  unfold g_X11_types at h
  refine lv_aload_n hx hb dX11_types_0 rfl (lv_at hl 0 rfl) ?_
  refine lv_iload_n hx hb dX11_types_1 rfl (lv_at hl 1 rfl) ?_
  obtain ⟨r1, hq, h⟩ := gb_some h
  refine cyO (X2 := [(a_t_typing, .inr (12, [.int t_typing_faultAt, .int t_typing_stores, .ref a_t_typing_storeIsBroth, .ref a_t_typing_storeLow, .ref a_t_typing_storeHigh, .ref a_t_typing_isBroth, .ref a_t_typing_low, .ref a_t_typing_high, .int t_typing_spoons])), (a_t_typing_isBroth, .inl (cT 1, 5, .inl t_typing_isBroth)), (a_t_typing_low, .inl (cT 3, 5, .inr (.inl t_typing_low))), (a_t_typing_high, .inl (cT 3, 5, .inr (.inl t_typing_high))), (a_t_typing_storeIsBroth, .inl (cT 1, 24, .inl t_typing_storeIsBroth)), (a_t_typing_storeLow, .inl (cT 3, 24, .inr (.inl t_typing_storeLow))), (a_t_typing_storeHigh, .inl (cT 3, 24, .inr (.inl t_typing_storeHigh)))]) (vx_runV (As := [.int p1]) (rest := []) ⟨hx, hb, hml, hown, hta⟩ (c_X11_needSpell l hl9 dC dI cT hq (hP.sub (ws' := []) [] rfl) ((rk hR0 hNA hS).sub (ws' := [(a_t, .inr (14, [.ref a_t_book, .ref a_t_saved, .int t_isSaved, .ref a_t_history, .ref a_t_refusal, .ref a_t_reader, .ref a_t_typing, .ref a_t_typingByStores, .ref a_t_cooking, .ref a_t_cookingByStores, .ref a_t_input, .int t_inputLength, .int t_keptError, .ref a_t_line, .int t_boiledOver])), (a_t_book, .inr (4, [.int t_book_cauldrons, .ref a_t_book_isBroth, .ref a_t_book_low, .ref a_t_book_high, .ref a_t_book_contents, .ref a_t_book_storesIn, .int t_book_spells, .ref a_t_book_texts, .ref a_t_book_cooked, .int t_book_cookedSoFar, .int t_book_storesSoFar])), (a_t_book_texts, .inl (cT 7, 4, .inr (.inr (.inr (.inr t_book_texts)))))]) [0, 1, 2] rfl) (ds hD [] (by decide) rfl) (nac hP hD [] rfl (va_free hD hS hA [] rfl) hNA [.inl 0, .inl 1, .inl 2] rfl rfl) (sq := sq) (hSP := (fun a9 ha9 => rk (hSP a9 ha9) (hSN a9 ha9) hS)) (hSN := fun a9 ha9 k9 q9 hk9 hq9 => hSN a9 ha9 k9 q9 hk9 (va_free hD hS hA [] rfl q9.1 hq9))) (cV hta lm_X11_202 md_X11_needSpell ⟨(Nat.le_of_ble_eq_true rfl), (Nat.le_of_ble_eq_true rfl)⟩) ⟨fbX, va_recv hK (rk hR0 hNA hS) (ci := 14) (q0 := 0) rfl rfl, fun U hU hW => ⟨rfl, hU, va_K.moved hW.alike hK, XS.call hX hS hU hW (va_free hD hS hA [] rfl)⟩⟩ rfl rfl hl.1 rfl (lv_room (Nat.le_of_ble_eq_true rfl)) dX11_types_2 ⟨(Nat.le_of_ble_eq_true rfl), (Nat.le_of_ble_eq_true rfl)⟩) hS hA hP hD [] rfl [.inr 0, .inr 1, .inr 2, .inr 3, .inr 4, .inr 5, .inr 6] rfl rfl rfl (fun E ce q9 H locs hne hE hP hD hS hce hcv hcl => ?_) (fun H locs hz hP hD hS => ?_)
  · have h := (if_neg hne).symm.trans h
    have ho := Option.some.inj h
    subst ho
    exact xout htab hlocks hce hcv hcl hS hP hne hE (Nat.le_of_ble_eq_true rfl) (Nat.le_of_ble_eq_true rfl)
  · have h := (if_pos hz).symm.trans h
    refine lv_splitO (fun e0 => ?_) (fun a_y2 e0 => ?_)
    · have h := go_none e0 h
      cases h
    · have h := go_some e0 h
      obtain ⟨hm, h⟩ := gc_some h
      have hs_a_y2 := inl9_in hm
      refine lv_astore_n (lv' := [(2, .ref a_y2), (0, .ref a_t), (1, .int p1)]) hx hb dX11_types_5 rfl hl (by decide) rfl (fun ls hl => ?_)
      refine lv_aload_n hx hb dX11_types_6 rfl (lv_at hl 1 rfl) ?_
      refine va_get (D := (dC, dI)) (ci := 14) (v := .ref a_t_typing) (C := RX11) (T := TX11) (N := 15) hx hb hta inX11w hown hK (rk hR0 hNA hS) 0 rfl rfl 6 (by decide) (hta _ lk_X11_47) (fun _ h9 => h9) rfl dX11_types_7 ?_
      refine lv_aload_n hx hb dX11_types_10 rfl (lv_at hl 0 rfl) ?_
      refine lv_aload_n hx hb dX11_types_11 rfl (lv_at hl 1 rfl) ?_
      refine va_get (D := (dC, dI)) (ci := 14) (v := .ref a_t_book) (C := RX11) (T := TX11) (N := 15) hx hb hta inX11w hown hK (rk hR0 hNA hS) 0 rfl rfl 0 (by decide) (hta _ lk_X11_10) (fun _ h9 => h9) rfl dX11_types_12 ?_
      obtain ⟨r2, hq, h⟩ := gb_some h
      refine cxI (X2 := [(a_t_typing, .inr (12, [.int r2.2.1, .int r2.2.2.1, .ref a_t_typing_storeIsBroth, .ref a_t_typing_storeLow, .ref a_t_typing_storeHigh, .ref a_t_typing_isBroth, .ref a_t_typing_low, .ref a_t_typing_high, .int r2.2.2.2.1])), (a_t_typing_isBroth, .inl (cT 1, 5, .inl r2.2.2.2.2.1)), (a_t_typing_low, .inl (cT 3, 5, .inr (.inl r2.2.2.2.2.2.1))), (a_t_typing_high, .inl (cT 3, 5, .inr (.inl r2.2.2.2.2.2.2.1))), (a_t_typing_storeIsBroth, .inl (cT 1, 24, .inl r2.2.2.2.2.2.2.2.1)), (a_t_typing_storeLow, .inl (cT 3, 24, .inr (.inl r2.2.2.2.2.2.2.2.2.1))), (a_t_typing_storeHigh, .inl (cT 3, 24, .inr (.inl r2.2.2.2.2.2.2.2.2.2)))]) (va_runV (As := [.ref a_y2, .ref a_t_book]) (rest := []) ⟨hx, hb, hml, hown, hta⟩ (c_X9_passes l dC dI cT hq (hP.sub (ws' := [(a_t_typing, .inr (12, [.int t_typing_faultAt, .int t_typing_stores, .ref a_t_typing_storeIsBroth, .ref a_t_typing_storeLow, .ref a_t_typing_storeHigh, .ref a_t_typing_isBroth, .ref a_t_typing_low, .ref a_t_typing_high, .int t_typing_spoons])), (a_t_typing_isBroth, .inl (cT 1, 5, .inl t_typing_isBroth)), (a_t_typing_low, .inl (cT 3, 5, .inr (.inl t_typing_low))), (a_t_typing_high, .inl (cT 3, 5, .inr (.inl t_typing_high))), (a_t_typing_storeIsBroth, .inl (cT 1, 24, .inl t_typing_storeIsBroth)), (a_t_typing_storeLow, .inl (cT 3, 24, .inr (.inl t_typing_storeLow))), (a_t_typing_storeHigh, .inl (cT 3, 24, .inr (.inl t_typing_storeHigh)))]) [0, 1, 2, 3, 4, 5, 6] rfl) ((va_P.app (va_P.app hP (rk hR0 hNA hS)) (rk (hSP a_y2 hs_a_y2) (hSN a_y2 hs_a_y2) hS)).sub (ws' := [(a_y2, .inr (11, [.ref (sq a_y2 0), .int (SE a_y2).2.2.1, .int (SE a_y2).2.2.2.1, .int (SE a_y2).2.2.2.2.1, .ref (sq a_y2 1), .ref (sq a_y2 2), .ref (sq a_y2 3), .ref (sq a_y2 4), .ref (sq a_y2 5)])), (a_t_book, .inr (4, [.int t_book_cauldrons, .ref a_t_book_isBroth, .ref a_t_book_low, .ref a_t_book_high, .ref a_t_book_contents, .ref a_t_book_storesIn, .int t_book_spells, .ref a_t_book_texts, .ref a_t_book_cooked, .int t_book_cookedSoFar, .int t_book_storesSoFar])), ((sq a_y2 2), .inl (cT 0, 24, .inl (SE a_y2).2.2.2.2.2.2.1)), ((sq a_y2 3), .inl (cT 0, 24, .inl (SE a_y2).2.2.2.2.2.2.2.1)), (a_t_book_isBroth, .inl (cT 1, 6, .inl t_book_isBroth)), (a_t_book_low, .inl (cT 0, 6, .inl t_book_low)), (a_t_book_high, .inl (cT 0, 6, .inl t_book_high))]) [13, 8, 16, 17, 10, 11, 12] rfl) (ds hD [0, 1, 2, 3, 4, 5, 6] (by decide) rfl) (nac hP hD [0, 1, 2, 3, 4, 5, 6] rfl (va_free hD hS hA [0, 1, 2, 3, 4, 5, 6] rfl) (na_app hNA (hSN a_y2 hs_a_y2)) [.inl 6, .inl 1, .inl 9, .inl 10, .inl 3, .inl 4, .inl 5] rfl rfl)) (cV hta lm_X11_243 md_X9_passes ⟨(Nat.le_of_ble_eq_true rfl), (Nat.le_of_ble_eq_true rfl)⟩) ⟨fbK, va_recv hK hP (ci := 12) (q0 := 0) rfl rfl, fun U hU hW => ⟨rfl, hU, va_K.moved hW.alike hK⟩⟩ rfl rfl hl.1 rfl (lv_room (Nat.le_of_ble_eq_true rfl)) dX11_types_15 ⟨(Nat.le_of_ble_eq_true rfl), (Nat.le_of_ble_eq_true rfl)⟩) hS hA hP hD [0, 1, 2, 3, 4, 5, 6] rfl [.inl 0, .inl 1, .inl 2, .inl 3, .inl 4, .inl 5, .inl 6] rfl rfl rfl (fun H locs hP hD hS => ?_)
      obtain ⟨hc, h⟩ := gc_some h
      have ho := Option.some.inj h
      subst ho
      refine vx_ret ?_
      exact W.zret (ty := .boolean) (v := r2.1) hx hb hr (bo_n hc) (fun t ht hW => ⟨⟨_, (), rfl, ⟨rfl, rfl⟩, by show va_P (dC, dI) vwCl _ t.heap; rw [ht]; exact hP⟩, hS.F ht⟩) hS.2.2 dX11_types_18
