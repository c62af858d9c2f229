set_option maxHeartbeats 4000000 in
set_option maxRecDepth 100000 in
theorem c_X11_account (l : Launch) (hl9 : l.stackTraces = false) (dC : Nat → ClassId) (dI : Nat → Nat → Nat) (cT : Nat → ClassId) {Hh : Heap} {sq : Nat → Nat → Nat} {a_t : Nat} {a_t_book : Nat} {a_t_book_texts : Nat} {a_t_typing : Nat} {a_t_book_isBroth : Nat} {a_t_book_low : Nat} {a_t_book_high : Nat} {a_t_typing_isBroth : Nat} {a_t_typing_low : Nat} {a_t_typing_high : Nat} {a_t_typing_storeIsBroth : Nat} {a_t_typing_storeLow : Nat} {a_t_typing_storeHigh : Nat} {a_t_book_contents : Nat} {a_t_book_contents_many : Nat} {a_t_history : Nat} {a_t_saved : Nat} {a_t_refusal : Nat} {a_t_reader : Nat} {a_t_typingByStores : Nat} {a_t_cooking : Nat} {a_t_cookingByStores : Nat} {a_t_input : Nat} {a_t_line : Nat} {a_t_book_storesIn : Nat} {a_t_book_cooked : Nat} {a_t_book_contents_much : Nat} {a_t_history_books : Nat} {LS : List Nat} {SE : Nat → SV} {t_inputLength : Int32} {t_boiledOver : Int32} {t_book_cauldrons : Int32} {t_book_spells : Int32} {t_book_cookedSoFar : Int32} {t_book_storesSoFar : Int32} {t_book_texts : Nat → Option Nat} {t_typing_faultAt : Int32} {t_typing_stores : Int32} {t_typing_spoons : Int32} {t_book_isBroth : Nat → Int32} {t_book_low : Nat → Int32} {t_book_high : Nat → Int32} {t_typing_isBroth : Nat → Int32} {t_typing_low : Nat → Int64} {t_typing_high : Nat → Int64} {t_typing_storeIsBroth : Nat → Int32} {t_typing_storeLow : Nat → Int64} {t_typing_storeHigh : Nat → Int64} {t_book_contents_many : Nat → Int32} {t_history_changes : Int32} {p1 : Int32} {t_isSaved : Int32} {t_keptError : Int32} {t_history_next : Int32} {XW : va_W} (eX : XW = [(a_t_typing, .inr (12, [.int t_typing_faultAt, .int t_typing_stores, .ref a_t_typing_storeIsBroth, .ref a_t_typing_storeLow, .ref a_t_typing_storeHigh, .ref a_t_typing_isBroth, .ref a_t_typing_low, .ref a_t_typing_high, .int t_typing_spoons])), (a_t_typing_isBroth, .inl (cT 1, 5, .inl t_typing_isBroth)), (a_t_typing_low, .inl (cT 3, 5, .inr (.inl t_typing_low))), (a_t_typing_high, .inl (cT 3, 5, .inr (.inl t_typing_high))), (a_t_typing_storeIsBroth, .inl (cT 1, 24, .inl t_typing_storeIsBroth)), (a_t_typing_storeLow, .inl (cT 3, 24, .inr (.inl t_typing_storeLow))), (a_t_typing_storeHigh, .inl (cT 3, 24, .inr (.inl t_typing_storeHigh)))]) {o : Int32 × Int32 × Int32 × Int32 × Int32 × (Nat → Int32) × (Nat → Int64) × (Nat → Int64) × (Nat → Int32) × (Nat → Int64) × (Nat → Int64)} (h : g_X11_account LS SE t_inputLength t_boiledOver t_book_cauldrons t_book_spells t_book_cookedSoFar t_book_storesSoFar t_book_texts t_typing_faultAt t_typing_stores t_typing_spoons t_book_isBroth t_book_low t_book_high t_typing_isBroth t_typing_low t_typing_high t_typing_storeIsBroth t_typing_storeLow t_typing_storeHigh t_book_contents_many t_history_changes p1 = some o) (hP0 : va_P (dC, dI) vwCl XW Hh) (hR0 : va_P (dC, dI) vwCl [(a_t, .inr (14, [.ref a_t_book, .ref a_t_saved, .int t_isSaved, .ref a_t_history, .ref a_t_refusal, .ref a_t_reader, .ref a_t_typing, .ref a_t_typingByStores, .ref a_t_cooking, .ref a_t_cookingByStores, .ref a_t_input, .int t_inputLength, .int t_keptError, .ref a_t_line, .int t_boiledOver])), (a_t_book, .inr (4, [.int t_book_cauldrons, .ref a_t_book_isBroth, .ref a_t_book_low, .ref a_t_book_high, .ref a_t_book_contents, .ref a_t_book_storesIn, .int t_book_spells, .ref a_t_book_texts, .ref a_t_book_cooked, .int t_book_cookedSoFar, .int t_book_storesSoFar])), (a_t_book_texts, .inl (cT 7, 4, .inr (.inr (.inr (.inr t_book_texts))))), (a_t_book_isBroth, .inl (cT 1, 6, .inl t_book_isBroth)), (a_t_book_low, .inl (cT 0, 6, .inl t_book_low)), (a_t_book_high, .inl (cT 0, 6, .inl t_book_high)), (a_t_book_contents, .inr (5, [.ref a_t_book_contents_many, .ref a_t_book_contents_much])), (a_t_book_contents_many, .inl (cT 0, 6, .inl t_book_contents_many)), (a_t_history, .inr (8, [.ref a_t_history_books, .int t_history_next, .int t_history_changes]))] Hh) (hD0 : va_D (fun _ => True) XW) (hN0 : ∀ (k : Nat) (q : Nat × va_E), ([(a_t, .inr (14, [.ref a_t_book, .ref a_t_saved, .int t_isSaved, .ref a_t_history, .ref a_t_refusal, .ref a_t_reader, .ref a_t_typing, .ref a_t_typingByStores, .ref a_t_cooking, .ref a_t_cookingByStores, .ref a_t_input, .int t_inputLength, .int t_keptError, .ref a_t_line, .int t_boiledOver])), (a_t_book, .inr (4, [.int t_book_cauldrons, .ref a_t_book_isBroth, .ref a_t_book_low, .ref a_t_book_high, .ref a_t_book_contents, .ref a_t_book_storesIn, .int t_book_spells, .ref a_t_book_texts, .ref a_t_book_cooked, .int t_book_cookedSoFar, .int t_book_storesSoFar])), (a_t_book_texts, .inl (cT 7, 4, .inr (.inr (.inr (.inr t_book_texts))))), (a_t_book_isBroth, .inl (cT 1, 6, .inl t_book_isBroth)), (a_t_book_low, .inl (cT 0, 6, .inl t_book_low)), (a_t_book_high, .inl (cT 0, 6, .inl t_book_high)), (a_t_book_contents, .inr (5, [.ref a_t_book_contents_many, .ref a_t_book_contents_much])), (a_t_book_contents_many, .inl (cT 0, 6, .inl t_book_contents_many)), (a_t_history, .inr (8, [.ref a_t_history_books, .int t_history_next, .int t_history_changes]))] : va_W)[k]? = some q → ¬ va_A XW Hh.size q.1) (hSP : ∀ a ∈ LS, va_P (dC, dI) vwCl (spc cT sq SE a) Hh) (hSN : ∀ a ∈ LS, ∀ (k : Nat) (q : Nat × va_E), (spc cT sq SE a)[k]? = some q → ¬ va_A XW Hh.size q.1) : vx_Met l yX11_account (wA yX11_account cX11_account 2 (some .int)) ({ frames := 6, cells := 1, slots := 6, locals := 145 } : Room) (PX dC dI cT [.ref a_t, .int p1] Hh (va_A XW Hh.size)) (QXI dC dI o.1 o.2.1 [(a_t_typing, .inr (12, [.int o.2.2.1, .int o.2.2.2.1, .ref a_t_typing_storeIsBroth, .ref a_t_typing_storeLow, .ref a_t_typing_storeHigh, .ref a_t_typing_isBroth, .ref a_t_typing_low, .ref a_t_typing_high, .int o.2.2.2.2.1])), (a_t_typing_isBroth, .inl (cT 1, 5, .inl o.2.2.2.2.2.1)), (a_t_typing_low, .inl (cT 3, 5, .inr (.inl o.2.2.2.2.2.2.1))), (a_t_typing_high, .inl (cT 3, 5, .inr (.inl o.2.2.2.2.2.2.2.1))), (a_t_typing_storeIsBroth, .inl (cT 1, 24, .inl o.2.2.2.2.2.2.2.2.1)), (a_t_typing_storeLow, .inl (cT 3, 24, .inr (.inl o.2.2.2.2.2.2.2.2.2.1))), (a_t_typing_storeHigh, .inl (cT 3, 24, .inr (.inl o.2.2.2.2.2.2.2.2.2.2)))] (va_A XW Hh.size)) (XX dC dI o.1 [(a_t_typing, .inr (12, [.int o.2.2.1, .int o.2.2.2.1, .ref a_t_typing_storeIsBroth, .ref a_t_typing_storeLow, .ref a_t_typing_storeHigh, .ref a_t_typing_isBroth, .ref a_t_typing_low, .ref a_t_typing_high, .int o.2.2.2.2.1])), (a_t_typing_isBroth, .inl (cT 1, 5, .inl o.2.2.2.2.2.1)), (a_t_typing_low, .inl (cT 3, 5, .inr (.inl o.2.2.2.2.2.2.1))), (a_t_typing_high, .inl (cT 3, 5, .inr (.inl o.2.2.2.2.2.2.2.1))), (a_t_typing_storeIsBroth, .inl (cT 1, 24, .inl o.2.2.2.2.2.2.2.2.1)), (a_t_typing_storeLow, .inl (cT 3, 24, .inr (.inl o.2.2.2.2.2.2.2.2.2.1))), (a_t_typing_storeHigh, .inl (cT 3, 24, .inr (.inl o.2.2.2.2.2.2.2.2.2.2)))] (va_A XW Hh.size)) 1 6 (va_A XW Hh.size) := by
  subst eX
  refine vx_ofW (cc := cX11_account) (maxL := 2) (ret := (some .int)) (by decide) rfl ?_
  intro p e s m args below meth c s₁ B hml htab hv
  obtain ⟨rfl, hH, hK, hX⟩ := hv
  subst hH
  have hx := B.exec
  have hb := B.bytes
  have hr := B.returns
  have hta : ∀ w ∈ ALLW, w.before [.ref a_t, .int p1].toArray s = true := fun w hw => atoms_spec (ws := wA yX11_account cX11_account 2 (some .int)) B.pre w (List.mem_cons_of_mem _ hw)
  have hown : s.vm.findClass RX11 = some m.cls := findClass_of_methodNamed B.named
  have hlocks := B.notSynchronized
  have hD := hD0.self (sz := s.heap.size)
  have hNA := hN0
  generalize hAe : va_A [(a_t_typing, .inr (12, [.int t_typing_faultAt, .int t_typing_stores, .ref a_t_typing_storeIsBroth, .ref a_t_typing_storeLow, .ref a_t_typing_storeHigh, .ref a_t_typing_isBroth, .ref a_t_typing_low, .ref a_t_typing_high, .int t_typing_spoons])), (a_t_typing_isBroth, .inl (cT 1, 5, .inl t_typing_isBroth)), (a_t_typing_low, .inl (cT 3, 5, .inr (.inl t_typing_low))), (a_t_typing_high, .inl (cT 3, 5, .inr (.inl t_typing_high))), (a_t_typing_storeIsBroth, .inl (cT 1, 24, .inl t_typing_storeIsBroth)), (a_t_typing_storeLow, .inl (cT 3, 24, .inr (.inl t_typing_storeLow))), (a_t_typing_storeHigh, .inl (cT 3, 24, .inr (.inl t_typing_storeHigh)))] s.heap.size = A at hD hNA hSN hX ⊢
  have hP := hP0
  have hA : ∀ q : Nat, s.heap.size ≤ q → A q := fun q h => by rw [← hAe]; exact Or.inr h
  have hS : va_S A s.heap s.heap [] := va_S.rf
  have hl := lv_entry [.ref a_t, .int p1] (n := 2) (Nat.le_of_ble_eq_true rfl)
  rw [lg_entry_eq]
  generalize (lg_sl [.ref a_t, .int p1] ++ List.replicate (2 - (lg_sl [.ref a_t, .int p1]).length) Slot.unset).toArray = ls at hl ⊢
  have hl : lv_has ls 2 [(0, .ref a_t), (1, .int p1)] := hl
  unfold g_X11_account at h
  refine lv_iload_n hx hb dX11_account_0 rfl (lv_at hl 1 rfl) ?_
  by_cases cs10 : p1 = 0
  · have h := (if_pos cs10).symm.trans h
    refine lv_tableIn (tgt := 56) (off := 55) hx hb dX11_account_1 (by rw [cs10]; decide) (by rw [cs10]; decide) (by rw [cs10]; rfl) (by decide) ?_
    refine lv_aload_n hx hb dX11_account_56 rfl (lv_at hl 0 rfl) ?_
    refine va_get (D := (dC, dI)) (ci := 14) (v := .ref a_t_book) (C := RX11) (T := TX11) (N := 15) hx hb hta inX11w hown hK (rk hR0 hNA hS) 0 rfl rfl 0 (by decide) (hta _ lk_X11_10) (fun _ h9 => h9) rfl dX11_account_57 ?_
    refine va_get (D := (dC, dI)) (ci := 4) (v := .int t_book_cauldrons) (C := RX0) (T := TX0) (N := 11) hx hb hta inX0w hown hK (rk hR0 hNA hS) 1 rfl rfl 0 (by decide) (hta _ lk_X11_184) (fun _ h9 => h9) rfl dX11_account_60 ?_
    have ho := Option.some.inj h
    subst ho
    refine W.widen (k := 1) (n := 6) (by omega) (by omega) ?_
    refine vx_ret ?_
    exact W.iret (v := t_book_cauldrons) hx hb hr (fun t ht hW => ⟨⟨_, (), rfl, ⟨rfl, rfl⟩, by show va_P (dC, dI) vwCl _ t.heap; rw [ht]; exact hP⟩, hS.F ht⟩) hS.2.2 dX11_account_63
  · have h := (if_neg cs10).symm.trans h
    by_cases cs9 : p1 = 1
    · have h := (if_pos cs9).symm.trans h
      refine lv_tableIn (tgt := 64) (off := 63) hx hb dX11_account_1 (by rw [cs9]; decide) (by rw [cs9]; decide) (by rw [cs9]; rfl) (by decide) ?_
      refine lv_aload_n hx hb dX11_account_64 rfl (lv_at hl 0 rfl) ?_
      refine va_get (D := (dC, dI)) (ci := 14) (v := .ref a_t_book) (C := RX11) (T := TX11) (N := 15) hx hb hta inX11w hown hK (rk hR0 hNA hS) 0 rfl rfl 0 (by decide) (hta _ lk_X11_10) (fun _ h9 => h9) rfl dX11_account_65 ?_
      refine va_get (D := (dC, dI)) (ci := 4) (v := .int t_book_spells) (C := RX0) (T := TX0) (N := 11) hx hb hta inX0w hown hK (rk hR0 hNA hS) 1 rfl rfl 6 (by decide) (hta _ lk_X11_179) (fun _ h9 => h9) rfl dX11_account_68 ?_
      have ho := Option.some.inj h
      subst ho
      refine W.widen (k := 1) (n := 6) (by omega) (by omega) ?_
      refine vx_ret ?_
      exact W.iret (v := t_book_spells) hx hb hr (fun t ht hW => ⟨⟨_, (), rfl, ⟨rfl, rfl⟩, by show va_P (dC, dI) vwCl _ t.heap; rw [ht]; exact hP⟩, hS.F ht⟩) hS.2.2 dX11_account_71
    · have h := (if_neg cs9).symm.trans h
      by_cases cs8 : p1 = 2
      · have h := (if_pos cs8).symm.trans h
        refine lv_tableIn (tgt := 72) (off := 71) hx hb dX11_account_1 (by rw [cs8]; decide) (by rw [cs8]; decide) (by rw [cs8]; rfl) (by decide) ?_
        refine lv_aload_n hx hb dX11_account_72 rfl (lv_at hl 0 rfl) ?_
        obtain ⟨r1, hq, h⟩ := gb_some h
        refine cxI (X2 := [(a_t_typing, .inr (12, [.int r1.2.1, .int r1.2.2.1, .ref a_t_typing_storeIsBroth, .ref a_t_typing_storeLow, .ref a_t_typing_storeHigh, .ref a_t_typing_isBroth, .ref a_t_typing_low, .ref a_t_typing_high, .int r1.2.2.2.1])), (a_t_typing_isBroth, .inl (cT 1, 5, .inl r1.2.2.2.2.1)), (a_t_typing_low, .inl (cT 3, 5, .inr (.inl r1.2.2.2.2.2.1))), (a_t_typing_high, .inl (cT 3, 5, .inr (.inl r1.2.2.2.2.2.2.1))), (a_t_typing_storeIsBroth, .inl (cT 1, 24, .inl r1.2.2.2.2.2.2.2.1)), (a_t_typing_storeLow, .inl (cT 3, 24, .inr (.inl r1.2.2.2.2.2.2.2.2.1))), (a_t_typing_storeHigh, .inl (cT 3, 24, .inr (.inl r1.2.2.2.2.2.2.2.2.2)))]) (va_runV (As := []) (rest := []) ⟨hx, hb, hml, hown, hta⟩ (c_X11_countTyped l dC dI cT rfl hq (hP.sub (ws' := [(a_t_typing, .inr (12, [.int t_typing_faultAt, .int t_typing_stores, .ref a_t_typing_storeIsBroth, .ref a_t_typing_storeLow, .ref a_t_typing_storeHigh, .ref a_t_typing_isBroth, .ref a_t_typing_low, .ref a_t_typing_high, .int t_typing_spoons])), (a_t_typing_isBroth, .inl (cT 1, 5, .inl t_typing_isBroth)), (a_t_typing_low, .inl (cT 3, 5, .inr (.inl t_typing_low))), (a_t_typing_high, .inl (cT 3, 5, .inr (.inl t_typing_high))), (a_t_typing_storeIsBroth, .inl (cT 1, 24, .inl t_typing_storeIsBroth)), (a_t_typing_storeLow, .inl (cT 3, 24, .inr (.inl t_typing_storeLow))), (a_t_typing_storeHigh, .inl (cT 3, 24, .inr (.inl t_typing_storeHigh)))]) [0, 1, 2, 3, 4, 5, 6] rfl) ((va_P.app hP (rk hR0 hNA hS)).sub (ws' := [(a_t, .inr (14, [.ref a_t_book, .ref a_t_saved, .int t_isSaved, .ref a_t_history, .ref a_t_refusal, .ref a_t_reader, .ref a_t_typing, .ref a_t_typingByStores, .ref a_t_cooking, .ref a_t_cookingByStores, .ref a_t_input, .int t_inputLength, .int t_keptError, .ref a_t_line, .int t_boiledOver])), (a_t_book, .inr (4, [.int t_book_cauldrons, .ref a_t_book_isBroth, .ref a_t_book_low, .ref a_t_book_high, .ref a_t_book_contents, .ref a_t_book_storesIn, .int t_book_spells, .ref a_t_book_texts, .ref a_t_book_cooked, .int t_book_cookedSoFar, .int t_book_storesSoFar])), (a_t_book_texts, .inl (cT 7, 4, .inr (.inr (.inr (.inr t_book_texts))))), (a_t_book_isBroth, .inl (cT 1, 6, .inl t_book_isBroth)), (a_t_book_low, .inl (cT 0, 6, .inl t_book_low)), (a_t_book_high, .inl (cT 0, 6, .inl t_book_high))]) [7, 8, 9, 10, 11, 12] rfl) (ds hD [0, 1, 2, 3, 4, 5, 6] (by decide) rfl) (nac hP hD [0, 1, 2, 3, 4, 5, 6] rfl (va_free hD hS hA [0, 1, 2, 3, 4, 5, 6] rfl) hNA [.inl 0, .inl 1, .inl 2, .inl 3, .inl 4, .inl 5] rfl rfl) (sq := sq) (hSP := (fun a9 ha9 => rk (hSP a9 ha9) (hSN a9 ha9) hS)) (hSN := fun a9 ha9 k9 q9 hk9 hq9 => hSN a9 ha9 k9 q9 hk9 (va_free hD hS hA [0, 1, 2, 3, 4, 5, 6] rfl q9.1 hq9))) (cV hta lm_X11_163 md_X11_countTyped ⟨(Nat.le_of_ble_eq_true rfl), (Nat.le_of_ble_eq_true rfl)⟩) ⟨fbK, va_recv hK (rk hR0 hNA hS) (ci := 14) (q0 := 0) rfl rfl, fun U hU hW => ⟨rfl, hU, va_K.moved hW.alike hK⟩⟩ rfl rfl hl.1 rfl (lv_room (Nat.le_of_ble_eq_true rfl)) dX11_account_73 ⟨(Nat.le_of_ble_eq_true rfl), (Nat.le_of_ble_eq_true rfl)⟩) hS hA hP hD [0, 1, 2, 3, 4, 5, 6] rfl [.inl 0, .inl 1, .inl 2, .inl 3, .inl 4, .inl 5, .inl 6] rfl rfl rfl (fun H locs hP hD hS => ?_)
        have ho := Option.some.inj h
        subst ho
        refine W.widen (k := 1) (n := 6) (by omega) (by omega) ?_
        refine vx_ret ?_
        exact W.iret (v := r1.1) hx hb hr (fun t ht hW => ⟨⟨_, (), rfl, ⟨rfl, rfl⟩, by show va_P (dC, dI) vwCl _ t.heap; rw [ht]; exact hP⟩, hS.F ht⟩) hS.2.2 dX11_account_76
      · have h := (if_neg cs8).symm.trans h
        by_cases cs7 : p1 = 3
        · have h := (if_pos cs7).symm.trans h
          refine lv_tableIn (tgt := 77) (off := 76) hx hb dX11_account_1 (by rw [cs7]; decide) (by rw [cs7]; decide) (by rw [cs7]; rfl) (by decide) ?_
          refine lv_aload_n hx hb dX11_account_77 rfl (lv_at hl 0 rfl) ?_
          refine va_get (D := (dC, dI)) (ci := 14) (v := .ref a_t_book) (C := RX11) (T := TX11) (N := 15) hx hb hta inX11w hown hK (rk hR0 hNA hS) 0 rfl rfl 0 (by decide) (hta _ lk_X11_10) (fun _ h9 => h9) rfl dX11_account_78 ?_
          obtain ⟨r2, hq, h⟩ := gb_some h
          refine crI (va_runV (As := []) (rest := []) ⟨hx, hb, hml, hown, hta⟩ (c_X0_cauldronsOfBroth l dC dI cT hq ((rk hR0 hNA hS).sub (ws' := [(a_t_book, .inr (4, [.int t_book_cauldrons, .ref a_t_book_isBroth, .ref a_t_book_low, .ref a_t_book_high, .ref a_t_book_contents, .ref a_t_book_storesIn, .int t_book_spells, .ref a_t_book_texts, .ref a_t_book_cooked, .int t_book_cookedSoFar, .int t_book_storesSoFar])), (a_t_book_isBroth, .inl (cT 1, 6, .inl t_book_isBroth))]) [1, 3] rfl)) (cV hta lm_X11_359 md_X0_cauldronsOfBroth ⟨(Nat.le_of_ble_eq_true rfl), (Nat.le_of_ble_eq_true rfl)⟩) ⟨fbK, va_recv hK (rk hR0 hNA hS) (ci := 4) (q0 := 1) rfl rfl, fun U hU hW => ⟨rfl, hU, va_K.moved hW.alike hK⟩⟩ rfl rfl hl.1 rfl (lv_room (Nat.le_of_ble_eq_true rfl)) dX11_account_81 ⟨(Nat.le_of_ble_eq_true rfl), (Nat.le_of_ble_eq_true rfl)⟩) hS hA (fun locs hS => ?_)
          have ho := Option.some.inj h
          subst ho
          refine W.widen (k := 1) (n := 6) (by omega) (by omega) ?_
          refine vx_ret ?_
          exact W.iret (v := r2) hx hb hr (fun t ht hW => ⟨⟨_, (), rfl, ⟨rfl, rfl⟩, by show va_P (dC, dI) vwCl _ t.heap; rw [ht]; exact hP⟩, hS.F ht⟩) hS.2.2 dX11_account_84
        · have h := (if_neg cs7).symm.trans h
          by_cases cs6 : p1 = 4
          · have h := (if_pos cs6).symm.trans h
            refine lv_tableIn (tgt := 85) (off := 84) hx hb dX11_account_1 (by rw [cs6]; decide) (by rw [cs6]; decide) (by rw [cs6]; rfl) (by decide) ?_
            refine lv_aload_n hx hb dX11_account_85 rfl (lv_at hl 0 rfl) ?_
            refine va_get (D := (dC, dI)) (ci := 14) (v := .ref a_t_book) (C := RX11) (T := TX11) (N := 15) hx hb hta inX11w hown hK (rk hR0 hNA hS) 0 rfl rfl 0 (by decide) (hta _ lk_X11_10) (fun _ h9 => h9) rfl dX11_account_86 ?_
            refine va_get (D := (dC, dI)) (ci := 4) (v := .int t_book_cookedSoFar) (C := RX0) (T := TX0) (N := 11) hx hb hta inX0w hown hK (rk hR0 hNA hS) 1 rfl rfl 9 (by decide) (hta _ lk_X11_362) (fun _ h9 => h9) rfl dX11_account_89 ?_
            have ho := Option.some.inj h
            subst ho
            refine W.widen (k := 1) (n := 6) (by omega) (by omega) ?_
            refine vx_ret ?_
            exact W.iret (v := t_book_cookedSoFar) hx hb hr (fun t ht hW => ⟨⟨_, (), rfl, ⟨rfl, rfl⟩, by show va_P (dC, dI) vwCl _ t.heap; rw [ht]; exact hP⟩, hS.F ht⟩) hS.2.2 dX11_account_92
          · have h := (if_neg cs6).symm.trans h
            by_cases cs5 : p1 = 5
            · have h := (if_pos cs5).symm.trans h
              refine lv_tableIn (tgt := 93) (off := 92) hx hb dX11_account_1 (by rw [cs5]; decide) (by rw [cs5]; decide) (by rw [cs5]; rfl) (by decide) ?_
              refine lv_aload_n hx hb dX11_account_93 rfl (lv_at hl 0 rfl) ?_
              refine va_get (D := (dC, dI)) (ci := 14) (v := .ref a_t_book) (C := RX11) (T := TX11) (N := 15) hx hb hta inX11w hown hK (rk hR0 hNA hS) 0 rfl rfl 0 (by decide) (hta _ lk_X11_10) (fun _ h9 => h9) rfl dX11_account_94 ?_
              refine va_get (D := (dC, dI)) (ci := 4) (v := .int t_book_storesSoFar) (C := RX0) (T := TX0) (N := 11) hx hb hta inX0w hown hK (rk hR0 hNA hS) 1 rfl rfl 10 (by decide) (hta _ lk_X11_365) (fun _ h9 => h9) rfl dX11_account_97 ?_
              have ho := Option.some.inj h
              subst ho
              refine W.widen (k := 1) (n := 6) (by omega) (by omega) ?_
              refine vx_ret ?_
              exact W.iret (v := t_book_storesSoFar) hx hb hr (fun t ht hW => ⟨⟨_, (), rfl, ⟨rfl, rfl⟩, by show va_P (dC, dI) vwCl _ t.heap; rw [ht]; exact hP⟩, hS.F ht⟩) hS.2.2 dX11_account_100
            · have h := (if_neg cs5).symm.trans h
              by_cases cs4 : p1 = 6
              · have h := (if_pos cs4).symm.trans h
                refine lv_tableIn (tgt := 101) (off := 100) hx hb dX11_account_1 (by rw [cs4]; decide) (by rw [cs4]; decide) (by rw [cs4]; rfl) (by decide) ?_
                refine lv_aload_n hx hb dX11_account_101 rfl (lv_at hl 0 rfl) ?_
                refine va_get (D := (dC, dI)) (ci := 14) (v := .int t_boiledOver) (C := RX11) (T := TX11) (N := 15) hx hb hta inX11w hown hK (rk hR0 hNA hS) 0 rfl rfl 14 (by decide) (hta _ lk_X11_90) (fun _ h9 => h9) rfl dX11_account_102 ?_
                have ho := Option.some.inj h
                subst ho
                refine W.widen (k := 1) (n := 6) (by omega) (by omega) ?_
                refine vx_ret ?_
                exact W.iret (v := t_boiledOver) hx hb hr (fun t ht hW => ⟨⟨_, (), rfl, ⟨rfl, rfl⟩, by show va_P (dC, dI) vwCl _ t.heap; rw [ht]; exact hP⟩, hS.F ht⟩) hS.2.2 dX11_account_105
              · have h := (if_neg cs4).symm.trans h
                by_cases cs3 : p1 = 7
                · have h := (if_pos cs3).symm.trans h
                  refine lv_tableIn (tgt := 106) (off := 105) hx hb dX11_account_1 (by rw [cs3]; decide) (by rw [cs3]; decide) (by rw [cs3]; rfl) (by decide) ?_
                  refine lv_aload_n hx hb dX11_account_106 rfl (lv_at hl 0 rfl) ?_
                  refine va_get (D := (dC, dI)) (ci := 14) (v := .ref a_t_book) (C := RX11) (T := TX11) (N := 15) hx hb hta inX11w hown hK (rk hR0 hNA hS) 0 rfl rfl 0 (by decide) (hta _ lk_X11_10) (fun _ h9 => h9) rfl dX11_account_107 ?_
                  obtain ⟨r3, hq, h⟩ := gb_some h
                  refine crI (va_runV (As := []) (rest := []) ⟨hx, hb, hml, hown, hta⟩ (c_X0_allDrams l dC dI cT hq ((rk hR0 hNA hS).sub (ws' := [(a_t_book, .inr (4, [.int t_book_cauldrons, .ref a_t_book_isBroth, .ref a_t_book_low, .ref a_t_book_high, .ref a_t_book_contents, .ref a_t_book_storesIn, .int t_book_spells, .ref a_t_book_texts, .ref a_t_book_cooked, .int t_book_cookedSoFar, .int t_book_storesSoFar])), (a_t_book_isBroth, .inl (cT 1, 6, .inl t_book_isBroth)), (a_t_book_contents, .inr (5, [.ref a_t_book_contents_many, .ref a_t_book_contents_much])), (a_t_book_contents_many, .inl (cT 0, 6, .inl t_book_contents_many))]) [1, 3, 6, 7] rfl)) (cV hta lm_X11_368 md_X0_allDrams ⟨(Nat.le_of_ble_eq_true rfl), (Nat.le_of_ble_eq_true rfl)⟩) ⟨fbK, va_recv hK (rk hR0 hNA hS) (ci := 4) (q0 := 1) rfl rfl, fun U hU hW => ⟨rfl, hU, va_K.moved hW.alike hK⟩⟩ rfl rfl hl.1 rfl (lv_room (Nat.le_of_ble_eq_true rfl)) dX11_account_110 ⟨(Nat.le_of_ble_eq_true rfl), (Nat.le_of_ble_eq_true rfl)⟩) hS hA (fun locs hS => ?_)
                  have ho := Option.some.inj h
                  subst ho
                  refine W.widen (k := 1) (n := 6) (by omega) (by omega) ?_
                  refine vx_ret ?_
                  exact W.iret (v := r3) hx hb hr (fun t ht hW => ⟨⟨_, (), rfl, ⟨rfl, rfl⟩, by show va_P (dC, dI) vwCl _ t.heap; rw [ht]; exact hP⟩, hS.F ht⟩) hS.2.2 dX11_account_113
                · have h := (if_neg cs3).symm.trans h
                  by_cases cs2 : p1 = 8
                  · have h := (if_pos cs2).symm.trans h
                    refine lv_tableIn (tgt := 114) (off := 113) hx hb dX11_account_1 (by rw [cs2]; decide) (by rw [cs2]; decide) (by rw [cs2]; rfl) (by decide) ?_
                    refine lv_aload_n hx hb dX11_account_114 rfl (lv_at hl 0 rfl) ?_
                    refine va_get (D := (dC, dI)) (ci := 14) (v := .int t_inputLength) (C := RX11) (T := TX11) (N := 15) hx hb hta inX11w hown hK (rk hR0 hNA hS) 0 rfl rfl 11 (by decide) (hta _ lk_X11_76) (fun _ h9 => h9) rfl dX11_account_115 ?_
                    have ho := Option.some.inj h
                    subst ho
                    refine W.widen (k := 1) (n := 6) (by omega) (by omega) ?_
                    refine vx_ret ?_
                    exact W.iret (v := t_inputLength) hx hb hr (fun t ht hW => ⟨⟨_, (), rfl, ⟨rfl, rfl⟩, by show va_P (dC, dI) vwCl _ t.heap; rw [ht]; exact hP⟩, hS.F ht⟩) hS.2.2 dX11_account_118
                  · have h := (if_neg cs2).symm.trans h
                    by_cases cs1 : p1 = 9
                    · have h := (if_pos cs1).symm.trans h
                      refine lv_tableIn (tgt := 119) (off := 118) hx hb dX11_account_1 (by rw [cs1]; decide) (by rw [cs1]; decide) (by rw [cs1]; rfl) (by decide) ?_
                      refine lv_aload_n hx hb dX11_account_119 rfl (lv_at hl 0 rfl) ?_
                      refine va_get (D := (dC, dI)) (ci := 14) (v := .ref a_t_history) (C := RX11) (T := TX11) (N := 15) hx hb hta inX11w hown hK (rk hR0 hNA hS) 0 rfl rfl 3 (by decide) (hta _ lk_X11_26) (fun _ h9 => h9) rfl dX11_account_120 ?_
                      refine va_get (D := (dC, dI)) (ci := 8) (v := .int t_history_changes) (C := RX4) (T := TX4) (N := 3) hx hb hta inX4w hown hK (rk hR0 hNA hS) 8 rfl rfl 2 (by decide) (hta _ lk_X11_371) (fun _ h9 => h9) rfl dX11_account_123 ?_
                      have ho := Option.some.inj h
                      subst ho
                      refine W.widen (k := 1) (n := 6) (by omega) (by omega) ?_
                      refine vx_ret ?_
                      exact W.iret (v := t_history_changes) hx hb hr (fun t ht hW => ⟨⟨_, (), rfl, ⟨rfl, rfl⟩, by show va_P (dC, dI) vwCl _ t.heap; rw [ht]; exact hP⟩, hS.F ht⟩) hS.2.2 dX11_account_126
                    · have h := (if_neg cs1).symm.trans h
                      refine lv_tableOut (tgt := 127) hx hb dX11_account_1 (by have q0 := lv_neT cs10 (a := 0) (by decide); have q1 := lv_neT cs9 (a := 1) (by decide); have q2 := lv_neT cs8 (a := 2) (by decide); have q3 := lv_neT cs7 (a := 3) (by decide); have q4 := lv_neT cs6 (a := 4) (by decide); have q5 := lv_neT cs5 (a := 5) (by decide); have q6 := lv_neT cs4 (a := 6) (by decide); have q7 := lv_neT cs3 (a := 7) (by decide); have q8 := lv_neT cs2 (a := 8) (by decide); have q9 := lv_neT cs1 (a := 9) (by decide); omega) (by decide) ?_
                      have ho := Option.some.inj h
                      subst ho
                      exact xthrowW hx hb hl9 hown hta hX xf_1 (List.mem_of_getElem? (i := 13) rfl) hS (hl.1.trans hml.symm) dX11_account_127 dX11_account_130 dX11_account_131 dX11_account_134 dX11_account_137 htab (Nat.le_of_ble_eq_true rfl) (Nat.le_of_ble_eq_true rfl) (Nat.le_of_ble_eq_true rfl) (Nat.le_of_ble_eq_true rfl) hlocks hP (show (1 : Int32) ≠ 0 by decide) exn_1.symm (Nat.le_of_ble_eq_true rfl) (Nat.le_of_ble_eq_true rfl)
set_option maxHeartbeats 4000000 in
set_option maxRecDepth 100000 in
theorem c_X11_append (l : Launch) (hl9 : l.stackTraces = false) (dC : Nat → ClassId) (dI : Nat → Nat → Nat) (cT : Nat → ClassId) {Hh : Heap} {a_t : Nat} {a_t_input : Nat} {a_t_book : Nat} {a_t_saved : Nat} {a_t_history : Nat} {a_t_refusal : Nat} {a_t_reader : Nat} {a_t_typing : Nat} {a_t_typingByStores : Nat} {a_t_cooking : Nat} {a_t_cookingByStores : Nat} {a_t_line : Nat} {t_inputLength : Int32} {t_input : Nat → Int32} {p1 : Int32} {t_isSaved : Int32} {t_keptError : Int32} {t_boiledOver : Int32} {o : Int32 × Int32 × Int32 × (Nat → Int32)} (h : g_X11_append t_inputLength t_input p1 = some o) (hP0 : va_P (dC, dI) vwCl [(a_t, .inr (14, [.ref a_t_book, .ref a_t_saved, .int t_isSaved, .ref a_t_history, .ref a_t_refusal, .ref a_t_reader, .ref a_t_typing, .ref a_t_typingByStores, .ref a_t_cooking, .ref a_t_cookingByStores, .ref a_t_input, .int t_inputLength, .int t_keptError, .ref a_t_line, .int t_boiledOver])), (a_t_input, .inl (cT 2, 60, .inl t_input))] Hh) (hD0 : va_D (fun _ => True) [(a_t, .inr (14, [.ref a_t_book, .ref a_t_saved, .int t_isSaved, .ref a_t_history, .ref a_t_refusal, .ref a_t_reader, .ref a_t_typing, .ref a_t_typingByStores, .ref a_t_cooking, .ref a_t_cookingByStores, .ref a_t_input, .int t_inputLength, .int t_keptError, .ref a_t_line, .int t_boiledOver])), (a_t_input, .inl (cT 2, 60, .inl t_input))]) : vx_Met l yX11_append (wA yX11_append cX11_append 2 (some .int)) ({ frames := 6, cells := 1, slots := 6, locals := 90 } : Room) (PX dC dI cT [.ref a_t, .int p1] Hh (va_A [(a_t, .inr (14, [.ref a_t_book, .ref a_t_saved, .int t_isSaved, .ref a_t_history, .ref a_t_refusal, .ref a_t_reader, .ref a_t_typing, .ref a_t_typingByStores, .ref a_t_cooking, .ref a_t_cookingByStores, .ref a_t_input, .int t_inputLength, .int t_keptError, .ref a_t_line, .int t_boiledOver])), (a_t_input, .inl (cT 2, 60, .inl t_input))] Hh.size)) (QXI dC dI o.1 o.2.1 [(a_t, .inr (14, [.ref a_t_book, .ref a_t_saved, .int t_isSaved, .ref a_t_history, .ref a_t_refusal, .ref a_t_reader, .ref a_t_typing, .ref a_t_typingByStores, .ref a_t_cooking, .ref a_t_cookingByStores, .ref a_t_input, .int o.2.2.1, .int t_keptError, .ref a_t_line, .int t_boiledOver])), (a_t_input, .inl (cT 2, 60, .inl o.2.2.2))] (va_A [(a_t, .inr (14, [.ref a_t_book, .ref a_t_saved, .int t_isSaved, .ref a_t_history, .ref a_t_refusal, .ref a_t_reader, .ref a_t_typing, .ref a_t_typingByStores, .ref a_t_cooking, .ref a_t_cookingByStores, .ref a_t_input, .int t_inputLength, .int t_keptError, .ref a_t_line, .int t_boiledOver])), (a_t_input, .inl (cT 2, 60, .inl t_input))] Hh.size)) (XX dC dI o.1 [(a_t, .inr (14, [.ref a_t_book, .ref a_t_saved, .int t_isSaved, .ref a_t_history, .ref a_t_refusal, .ref a_t_reader, .ref a_t_typing, .ref a_t_typingByStores, .ref a_t_cooking, .ref a_t_cookingByStores, .ref a_t_input, .int o.2.2.1, .int t_keptError, .ref a_t_line, .int t_boiledOver])), (a_t_input, .inl (cT 2, 60, .inl o.2.2.2))] (va_A [(a_t, .inr (14, [.ref a_t_book, .ref a_t_saved, .int t_isSaved, .ref a_t_history, .ref a_t_refusal, .ref a_t_reader, .ref a_t_typing, .ref a_t_typingByStores, .ref a_t_cooking, .ref a_t_cookingByStores, .ref a_t_input, .int t_inputLength, .int t_keptError, .ref a_t_line, .int t_boiledOver])), (a_t_input, .inl (cT 2, 60, .inl t_input))] Hh.size)) 1 6 (va_A [(a_t, .inr (14, [.ref a_t_book, .ref a_t_saved, .int t_isSaved, .ref a_t_history, .ref a_t_refusal, .ref a_t_reader, .ref a_t_typing, .ref a_t_typingByStores, .ref a_t_cooking, .ref a_t_cookingByStores, .ref a_t_input, .int t_inputLength, .int t_keptError, .ref a_t_line, .int t_boiledOver])), (a_t_input, .inl (cT 2, 60, .inl t_input))] Hh.size) := by
  refine vx_ofW (cc := cX11_append) (maxL := 2) (ret := (some .int)) (by decide) rfl ?_
  intro p e s m args below meth c s₁ B hml htab hv
  obtain ⟨rfl, hH, hK, hX⟩ := hv
  subst hH
  have hx := B.exec
  have hb := B.bytes
  have hr := B.returns
  have hta : ∀ w ∈ ALLW, w.before [.ref a_t, .int p1].toArray s = true := fun w hw => atoms_spec (ws := wA yX11_append cX11_append 2 (some .int)) B.pre w (List.mem_cons_of_mem _ hw)
  have hown : s.vm.findClass RX11 = some m.cls := findClass_of_methodNamed B.named
  have hlocks := B.notSynchronized
  have hD := hD0.self (sz := s.heap.size)
  generalize hAe : va_A [(a_t, .inr (14, [.ref a_t_book, .ref a_t_saved, .int t_isSaved, .ref a_t_history, .ref a_t_refusal, .ref a_t_reader, .ref a_t_typing, .ref a_t_typingByStores, .ref a_t_cooking, .ref a_t_cookingByStores, .ref a_t_input, .int t_inputLength, .int t_keptError, .ref a_t_line, .int t_boiledOver])), (a_t_input, .inl (cT 2, 60, .inl t_input))] s.heap.size = A at hD hX ⊢
  have hP := hP0
  have hA : ∀ q : Nat, s.heap.size ≤ q → A q := fun q h => by rw [← hAe]; exact Or.inr h
  have hS : va_S A s.heap s.heap [] := va_S.rf
  have hl := lv_entry [.ref a_t, .int p1] (n := 2) (Nat.le_of_ble_eq_true rfl)
  rw [lg_entry_eq]
  generalize (lg_sl [.ref a_t, .int p1] ++ List.replicate (2 - (lg_sl [.ref a_t, .int p1]).length) Slot.unset).toArray = ls at hl ⊢
  have hl : lv_has ls 2 [(0, .ref a_t), (1, .int p1)] := hl
  obtain ⟨Q, hQ⟩ : ∃ Q, Q = vx_MQ below (QXI dC dI o.1 o.2.1 [(a_t, .inr (14, [.ref a_t_book, .ref a_t_saved, .int t_isSaved, .ref a_t_history, .ref a_t_refusal, .ref a_t_reader, .ref a_t_typing, .ref a_t_typingByStores, .ref a_t_cooking, .ref a_t_cookingByStores, .ref a_t_input, .int o.2.2.1, .int t_keptError, .ref a_t_line, .int t_boiledOver])), (a_t_input, .inl (cT 2, 60, .inl o.2.2.2))] A) (XX dC dI o.1 [(a_t, .inr (14, [.ref a_t_book, .ref a_t_saved, .int t_isSaved, .ref a_t_history, .ref a_t_refusal, .ref a_t_reader, .ref a_t_typing, .ref a_t_typingByStores, .ref a_t_cooking, .ref a_t_cookingByStores, .ref a_t_input, .int o.2.2.1, .int t_keptError, .ref a_t_line, .int t_boiledOver])), (a_t_input, .inl (cT 2, 60, .inl o.2.2.2))] A) [.ref a_t, .int p1].toArray s 1 6 A := ⟨_, rfl⟩
  rw [← hQ]
  have wB_12 : ∀ (H : Heap) (locs : List Loc) (ls : Array Slot), g_X11_append_b12 t_inputLength t_input = some o → va_P (dC, dI) vwCl [(a_t, .inr (14, [.ref a_t_book, .ref a_t_saved, .int t_isSaved, .ref a_t_history, .ref a_t_refusal, .ref a_t_reader, .ref a_t_typing, .ref a_t_typingByStores, .ref a_t_cooking, .ref a_t_cookingByStores, .ref a_t_input, .int t_inputLength, .int t_keptError, .ref a_t_line, .int t_boiledOver])), (a_t_input, .inl (cT 2, 60, .inl t_input))] H → va_D A [(a_t, .inr (14, [.ref a_t_book, .ref a_t_saved, .int t_isSaved, .ref a_t_history, .ref a_t_refusal, .ref a_t_reader, .ref a_t_typing, .ref a_t_typingByStores, .ref a_t_cooking, .ref a_t_cookingByStores, .ref a_t_input, .int t_inputLength, .int t_keptError, .ref a_t_line, .int t_boiledOver])), (a_t_input, .inl (cT 2, 60, .inl t_input))] → va_S A s.heap H locs → lv_has ls 2 [] → W p l e ({ frames := 6, cells := 1, slots := 6, locals := 90 } : Room) s m [.ref a_t, .int p1].toArray below meth c H locs 0 0 Q (F0 m 12 ls []) := by
    intro H locs ls h hP hD hS hl
    unfold g_X11_append_b12 at h
    have ho := Option.some.inj h
    subst ho
    rw [hQ]
    exact xthrowW hx hb hl9 hown hta hX xf_1 (List.mem_of_getElem? (i := 8) rfl) hS (hl.1.trans hml.symm) dX11_append_12 dX11_append_15 dX11_append_16 dX11_append_19 dX11_append_22 htab (Nat.le_of_ble_eq_true rfl) (Nat.le_of_ble_eq_true rfl) (Nat.le_of_ble_eq_true rfl) (Nat.le_of_ble_eq_true rfl) hlocks hP (show (1 : Int32) ≠ 0 by decide) exn_1.symm (Nat.le_of_ble_eq_true rfl) (Nat.le_of_ble_eq_true rfl)
  unfold g_X11_append at h
  refine lv_iload_n hx hb dX11_append_0 rfl (lv_at hl 1 rfl) ?_
  refine lv_bipush (v := 32) hx hb dX11_append_1 (by decide) ?_
  refine lv_icmp_lt (tgt := 12) hx hb dX11_append_3 (by decide) (fun c0 => ?_) (fun c0 => ?_)
  · have h := (if_pos c0).symm.trans h
    exact wB_12 _ _ _ h hP hD hS (lv_sub hl [] rfl)
  · have h := (if_neg c0).symm.trans h
    refine lv_iload_n hx hb dX11_append_6 rfl (lv_at hl 1 rfl) ?_
    refine lv_bipush (v := 126) hx hb dX11_append_7 (by decide) ?_
    refine lv_icmp_le (tgt := 23) hx hb dX11_append_9 (by decide) (fun c0 => ?_) (fun c0 => ?_)
    · have h := (if_pos c0).symm.trans h
      refine lv_aload_n hx hb dX11_append_23 rfl (lv_at hl 0 rfl) ?_
      refine va_get (D := (dC, dI)) (ci := 14) (v := .int t_inputLength) (C := RX11) (T := TX11) (N := 15) hx hb hta inX11w hown hK hP 0 rfl rfl 11 (by decide) (hta _ lk_X11_76) (fun _ h9 => h9) rfl dX11_append_24 ?_
      refine lv_bipush (v := 60) hx hb dX11_append_27 (by decide) ?_
      refine lv_icmp_lt (tgt := 43) hx hb dX11_append_29 (by decide) (fun c0 => ?_) (fun c0 => ?_)
      · have h := (if_pos c0).symm.trans h
        refine lv_aload_n hx hb dX11_append_43 rfl (lv_at hl 0 rfl) ?_
        refine va_get (D := (dC, dI)) (ci := 14) (v := .ref a_t_input) (C := RX11) (T := TX11) (N := 15) hx hb hta inX11w hown hK hP 0 rfl rfl 10 (by decide) (hta _ lk_X11_72) (fun _ h9 => h9) rfl dX11_append_44 ?_
        refine lv_aload_n hx hb dX11_append_47 rfl (lv_at hl 0 rfl) ?_
        refine va_get (D := (dC, dI)) (ci := 14) (v := .int t_inputLength) (C := RX11) (T := TX11) (N := 15) hx hb hta inX11w hown hK hP 0 rfl rfl 11 (by decide) (hta _ lk_X11_76) (fun _ h9 => h9) rfl dX11_append_48 ?_
        refine lv_iload_n hx hb dX11_append_51 rfl (lv_at hl 1 rfl) ?_
        obtain ⟨hc, h⟩ := gc_some h
        refine va_cast hx hb hK hP hD hS 1 2 rfl rfl (inb_in hc) dX11_append_52 (fun H locs hP hD hS => ?_)
        have hP : va_P (dC, dI) vwCl [(a_t, .inr (14, [.ref a_t_book, .ref a_t_saved, .int t_isSaved, .ref a_t_history, .ref a_t_refusal, .ref a_t_reader, .ref a_t_typing, .ref a_t_typingByStores, .ref a_t_cooking, .ref a_t_cookingByStores, .ref a_t_input, .int t_inputLength, .int t_keptError, .ref a_t_line, .int t_boiledOver])), (a_t_input, .inl (cT 2, 60, .inl (upd t_input t_inputLength.toNatClampNeg (vp_nar .char p1))))] H := hP
        have hD : va_D A [(a_t, .inr (14, [.ref a_t_book, .ref a_t_saved, .int t_isSaved, .ref a_t_history, .ref a_t_refusal, .ref a_t_reader, .ref a_t_typing, .ref a_t_typingByStores, .ref a_t_cooking, .ref a_t_cookingByStores, .ref a_t_input, .int t_inputLength, .int t_keptError, .ref a_t_line, .int t_boiledOver])), (a_t_input, .inl (cT 2, 60, .inl (upd t_input t_inputLength.toNatClampNeg (vp_nar .char p1))))] := hD
        refine lv_aload_n hx hb dX11_append_53 rfl (lv_at hl 0 rfl) ?_
        refine lv_dup hx hb dX11_append_54 rfl ?_
        refine va_get (D := (dC, dI)) (ci := 14) (v := .int t_inputLength) (C := RX11) (T := TX11) (N := 15) hx hb hta inX11w hown hK hP 0 rfl rfl 11 (by decide) (hta _ lk_X11_76) (fun _ h9 => h9) rfl dX11_append_55 ?_
        refine lv_iconst (v := 1) hx hb dX11_append_58 (by decide) ?_
        refine lv_iadd hx hb dX11_append_59 ?_
        refine lv_topi (fun v1 e_v1 => ?_)
        have h := gl_use e_v1 h
        refine va_put (D := (dC, dI)) (ci := 14) (v := .int v1) (ty := .int) (C := RX11) (T := TX11) (N := 15) hx hb hta inX11w tyX11 tyX11_ok nmX11 hown hK hP hD hS 0 rfl rfl 11 (by decide) (hta _ lk_X11_76) (fun _ h9 => h9) rfl (by decide +kernel) rfl rfl (Nat.le_of_ble_eq_true rfl) dX11_append_60 (fun H locs hP hD hS => ?_)
        have hP : va_P (dC, dI) vwCl [(a_t, .inr (14, [.ref a_t_book, .ref a_t_saved, .int t_isSaved, .ref a_t_history, .ref a_t_refusal, .ref a_t_reader, .ref a_t_typing, .ref a_t_typingByStores, .ref a_t_cooking, .ref a_t_cookingByStores, .ref a_t_input, .int v1, .int t_keptError, .ref a_t_line, .int t_boiledOver])), (a_t_input, .inl (cT 2, 60, .inl (upd t_input t_inputLength.toNatClampNeg (vp_nar .char p1))))] H := hP
        have hD : va_D A [(a_t, .inr (14, [.ref a_t_book, .ref a_t_saved, .int t_isSaved, .ref a_t_history, .ref a_t_refusal, .ref a_t_reader, .ref a_t_typing, .ref a_t_typingByStores, .ref a_t_cooking, .ref a_t_cookingByStores, .ref a_t_input, .int v1, .int t_keptError, .ref a_t_line, .int t_boiledOver])), (a_t_input, .inl (cT 2, 60, .inl (upd t_input t_inputLength.toNatClampNeg (vp_nar .char p1))))] := hD
        refine lv_aload_n hx hb dX11_append_63 rfl (lv_at hl 0 rfl) ?_
        refine va_get (D := (dC, dI)) (ci := 14) (v := .int v1) (C := RX11) (T := TX11) (N := 15) hx hb hta inX11w hown hK hP 0 rfl rfl 11 (by decide) (hta _ lk_X11_76) (fun _ h9 => h9) rfl dX11_append_64 ?_
        have ho := Option.some.inj h
        subst ho
        rw [hQ]
        refine W.widen (k := 1) (n := 6) (by omega) (by omega) ?_
        refine vx_ret ?_
        exact W.iret (v := v1) hx hb hr (fun t ht hW => ⟨⟨_, (), rfl, ⟨rfl, rfl⟩, by show va_P (dC, dI) vwCl _ t.heap; rw [ht]; exact hP⟩, hS.F ht⟩) hS.2.2 dX11_append_67
      · have h := (if_neg c0).symm.trans h
        have ho := Option.some.inj h
        subst ho
        rw [hQ]
        exact xthrowW hx hb hl9 hown hta hX xf_5 (List.mem_of_getElem? (i := 9) rfl) hS (hl.1.trans hml.symm) dX11_append_32 dX11_append_35 dX11_append_36 dX11_append_39 dX11_append_42 htab (Nat.le_of_ble_eq_true rfl) (Nat.le_of_ble_eq_true rfl) (Nat.le_of_ble_eq_true rfl) (Nat.le_of_ble_eq_true rfl) hlocks hP (show (5 : Int32) ≠ 0 by decide) exn_5.symm (Nat.le_of_ble_eq_true rfl) (Nat.le_of_ble_eq_true rfl)
    · have h := (if_neg c0).symm.trans h
      exact wB_12 _ _ _ h hP hD hS (lv_sub hl [] rfl)
set_option maxHeartbeats 4000000 in
set_option maxRecDepth 100000 in
theorem c_X11_reason (l : Launch) (hl9 : l.stackTraces = false) (dC : Nat → ClassId) (dI : Nat → Nat → Nat) (cT : Nat → ClassId) {Hh : Heap} {a_t : Nat} {a_t_refusal : Nat} {a_t_book : Nat} {a_t_saved : Nat} {a_t_history : Nat} {a_t_reader : Nat} {a_t_typing : Nat} {a_t_typingByStores : Nat} {a_t_cooking : Nat} {a_t_cookingByStores : Nat} {a_t_input : Nat} {a_t_line : Nat} {t_refusal_isKept : Int32} {t_refusal_reason : Int32} {t_refusal_detail : Int32} {t_refusal_hasCause : Int32} {t_refusal_cause : Int32} {t_refusal_causeDetail : Int32} {p1 : Int32} {p2 : Int32} {t_isSaved : Int32} {t_inputLength : Int32} {t_keptError : Int32} {t_boiledOver : Int32} {o : Int32 × Int32} (h : g_X11_reason t_refusal_isKept t_refusal_reason t_refusal_detail t_refusal_hasCause t_refusal_cause t_refusal_causeDetail p1 p2 = some o) (hP0 : va_P (dC, dI) vwCl [] Hh) (hR0 : va_P (dC, dI) vwCl [(a_t, .inr (14, [.ref a_t_book, .ref a_t_saved, .int t_isSaved, .ref a_t_history, .ref a_t_refusal, .ref a_t_reader, .ref a_t_typing, .ref a_t_typingByStores, .ref a_t_cooking, .ref a_t_cookingByStores, .ref a_t_input, .int t_inputLength, .int t_keptError, .ref a_t_line, .int t_boiledOver])), (a_t_refusal, .inr (10, [.int t_refusal_isKept, .int t_refusal_reason, .int t_refusal_detail, .int t_refusal_hasCause, .int t_refusal_cause, .int t_refusal_causeDetail]))] Hh) (hD0 : va_D (fun _ => True) []) (hN0 : ∀ (k : Nat) (q : Nat × va_E), ([(a_t, .inr (14, [.ref a_t_book, .ref a_t_saved, .int t_isSaved, .ref a_t_history, .ref a_t_refusal, .ref a_t_reader, .ref a_t_typing, .ref a_t_typingByStores, .ref a_t_cooking, .ref a_t_cookingByStores, .ref a_t_input, .int t_inputLength, .int t_keptError, .ref a_t_line, .int t_boiledOver])), (a_t_refusal, .inr (10, [.int t_refusal_isKept, .int t_refusal_reason, .int t_refusal_detail, .int t_refusal_hasCause, .int t_refusal_cause, .int t_refusal_causeDetail]))] : va_W)[k]? = some q → ¬ va_A [] Hh.size q.1) : vx_Met l yX11_reason (wA yX11_reason cX11_reason 3 (some .int)) ({ frames := 6, cells := 1, slots := 6, locals := 90 } : Room) (PX dC dI cT [.ref a_t, .int p1, .int p2] Hh (va_A [] Hh.size)) (QXI dC dI o.1 o.2 [] (va_A [] Hh.size)) (XX dC dI o.1 [] (va_A [] Hh.size)) 1 6 (va_A [] Hh.size) := by
  refine vx_ofW (cc := cX11_reason) (maxL := 3) (ret := (some .int)) (by decide) rfl ?_
  intro p e s m args below meth c s₁ B hml htab hv
  obtain ⟨rfl, hH, hK, hX⟩ := hv
  subst hH
  have hx := B.exec
  have hb := B.bytes
  have hr := B.returns
  have hta : ∀ w ∈ ALLW, w.before [.ref a_t, .int p1, .int p2].toArray s = true := fun w hw => atoms_spec (ws := wA yX11_reason cX11_reason 3 (some .int)) B.pre w (List.mem_cons_of_mem _ hw)
  have hown : s.vm.findClass RX11 = some m.cls := findClass_of_methodNamed B.named
  have hlocks := B.notSynchronized
  have hD := hD0.self (sz := s.heap.size)
  have hNA := hN0
  generalize hAe : va_A [] s.heap.size = A at hD hNA hX ⊢
  have hP := hP0
  have hA : ∀ q : Nat, s.heap.size ≤ q → A q := fun q h => by rw [← hAe]; exact Or.inr h
  have hS : va_S A s.heap s.heap [] := va_S.rf
  have hl := lv_entry [.ref a_t, .int p1, .int p2] (n := 3) (Nat.le_of_ble_eq_true rfl)
  rw [lg_entry_eq]
  generalize (lg_sl [.ref a_t, .int p1, .int p2] ++ List.replicate (3 - (lg_sl [.ref a_t, .int p1, .int p2]).length) Slot.unset).toArray = ls at hl ⊢
  have hl : lv_has ls 3 [(0, .ref a_t), (1, .int p1), (2, .int p2)] := hl
  unfold g_X11_reason at h
  refine lv_aload_n hx hb dX11_reason_0 rfl (lv_at hl 0 rfl) ?_
  refine va_get (D := (dC, dI)) (ci := 14) (v := .ref a_t_refusal) (C := RX11) (T := TX11) (N := 15) hx hb hta inX11w hown hK (rk hR0 hNA hS) 0 rfl rfl 4 (by decide) (hta _ lk_X11_33) (fun _ h9 => h9) rfl dX11_reason_1 ?_
  refine va_get (D := (dC, dI)) (ci := 10) (v := .int t_refusal_isKept) (C := RX7) (T := TX7) (N := 6) hx hb hta inX7w hown hK (rk hR0 hNA hS) 1 rfl rfl 0 (by decide) (hta _ lk_X11_384) (fun _ h9 => h9) rfl dX11_reason_4 ?_
  refine lv_if_ne (tgt := 21) hx hb dX11_reason_7 (by decide) (fun c0 => ?_) (fun c0 => ?_)
  · have h := (if_neg c0).symm.trans h
    refine lv_iload_n hx hb dX11_reason_21 rfl (lv_at hl 1 rfl) ?_
    refine lv_if_ne (tgt := 47) hx hb dX11_reason_22 (by decide) (fun c0 => ?_) (fun c0 => ?_)
    · have h := (if_neg c0).symm.trans h
      refine lv_aload_n hx hb dX11_reason_47 rfl (lv_at hl 0 rfl) ?_
      refine va_get (D := (dC, dI)) (ci := 14) (v := .ref a_t_refusal) (C := RX11) (T := TX11) (N := 15) hx hb hta inX11w hown hK (rk hR0 hNA hS) 0 rfl rfl 4 (by decide) (hta _ lk_X11_33) (fun _ h9 => h9) rfl dX11_reason_48 ?_
      refine va_get (D := (dC, dI)) (ci := 10) (v := .int t_refusal_hasCause) (C := RX7) (T := TX7) (N := 6) hx hb hta inX7w hown hK (rk hR0 hNA hS) 1 rfl rfl 3 (by decide) (hta _ lk_X11_395) (fun _ h9 => h9) rfl dX11_reason_51 ?_
      refine lv_if_ne (tgt := 68) hx hb dX11_reason_54 (by decide) (fun c0 => ?_) (fun c0 => ?_)
      · have h := (if_neg c0).symm.trans h
        refine lv_iload_n hx hb dX11_reason_68 rfl (lv_at hl 2 rfl) ?_
        refine lv_if_eq (tgt := 82) hx hb dX11_reason_69 (by decide) (fun c0 => ?_) (fun c0 => ?_)
        · have h := (if_pos c0).symm.trans h
          refine lv_aload_n hx hb dX11_reason_82 rfl (lv_at hl 0 rfl) ?_
          refine va_get (D := (dC, dI)) (ci := 14) (v := .ref a_t_refusal) (C := RX11) (T := TX11) (N := 15) hx hb hta inX11w hown hK (rk hR0 hNA hS) 0 rfl rfl 4 (by decide) (hta _ lk_X11_33) (fun _ h9 => h9) rfl dX11_reason_83 ?_
          refine va_get (D := (dC, dI)) (ci := 10) (v := .int t_refusal_cause) (C := RX7) (T := TX7) (N := 6) hx hb hta inX7w hown hK (rk hR0 hNA hS) 1 rfl rfl 4 (by decide) (hta _ lk_X11_401) (fun _ h9 => h9) rfl dX11_reason_86 ?_
          have ho := Option.some.inj h
          subst ho
          refine W.widen (k := 1) (n := 6) (by omega) (by omega) ?_
          refine vx_ret ?_
          exact W.iret (v := t_refusal_cause) hx hb hr (fun t ht hW => ⟨⟨_, (), rfl, ⟨rfl, rfl⟩, by show va_P (dC, dI) vwCl _ t.heap; rw [ht]; exact hP⟩, hS.F ht⟩) hS.2.2 dX11_reason_89
        · have h := (if_neg c0).symm.trans h
          refine lv_aload_n hx hb dX11_reason_72 rfl (lv_at hl 0 rfl) ?_
          refine va_get (D := (dC, dI)) (ci := 14) (v := .ref a_t_refusal) (C := RX11) (T := TX11) (N := 15) hx hb hta inX11w hown hK (rk hR0 hNA hS) 0 rfl rfl 4 (by decide) (hta _ lk_X11_33) (fun _ h9 => h9) rfl dX11_reason_73 ?_
          refine va_get (D := (dC, dI)) (ci := 10) (v := .int t_refusal_causeDetail) (C := RX7) (T := TX7) (N := 6) hx hb hta inX7w hown hK (rk hR0 hNA hS) 1 rfl rfl 5 (by decide) (hta _ lk_X11_400) (fun _ h9 => h9) rfl dX11_reason_76 ?_
          refine lv_goto (tgt := 89) hx hb dX11_reason_79 (by decide) ?_
          have ho := Option.some.inj h
          subst ho
          refine W.widen (k := 1) (n := 6) (by omega) (by omega) ?_
          refine vx_ret ?_
          exact W.iret (v := t_refusal_causeDetail) hx hb hr (fun t ht hW => ⟨⟨_, (), rfl, ⟨rfl, rfl⟩, by show va_P (dC, dI) vwCl _ t.heap; rw [ht]; exact hP⟩, hS.F ht⟩) hS.2.2 dX11_reason_89
      · have h := (if_pos c0).symm.trans h
        have ho := Option.some.inj h
        subst ho
        exact xthrowNW hx hb hl9 hown hta hX xf_3 (List.mem_of_getElem? (i := 27) rfl) hS (hl.1.trans hml.symm) dX11_reason_57 dX11_reason_60 dX11_reason_61 dX11_reason_64 dX11_reason_67 htab (Nat.le_of_ble_eq_true rfl) (Nat.le_of_ble_eq_true rfl) (Nat.le_of_ble_eq_true rfl) (Nat.le_of_ble_eq_true rfl) hlocks hP (show (3 : Int32) ≠ 0 by decide) exn_3.symm (Nat.le_of_ble_eq_true rfl) (Nat.le_of_ble_eq_true rfl)
    · have h := (if_pos c0).symm.trans h
      refine lv_iload_n hx hb dX11_reason_25 rfl (lv_at hl 2 rfl) ?_
      refine lv_if_eq (tgt := 39) hx hb dX11_reason_26 (by decide) (fun c0 => ?_) (fun c0 => ?_)
      · have h := (if_pos c0).symm.trans h
        refine lv_aload_n hx hb dX11_reason_39 rfl (lv_at hl 0 rfl) ?_
        refine va_get (D := (dC, dI)) (ci := 14) (v := .ref a_t_refusal) (C := RX11) (T := TX11) (N := 15) hx hb hta inX11w hown hK (rk hR0 hNA hS) 0 rfl rfl 4 (by decide) (hta _ lk_X11_33) (fun _ h9 => h9) rfl dX11_reason_40 ?_
        refine va_get (D := (dC, dI)) (ci := 10) (v := .int t_refusal_reason) (C := RX7) (T := TX7) (N := 6) hx hb hta inX7w hown hK (rk hR0 hNA hS) 1 rfl rfl 1 (by decide) (hta _ lk_X11_392) (fun _ h9 => h9) rfl dX11_reason_43 ?_
        have ho := Option.some.inj h
        subst ho
        refine W.widen (k := 1) (n := 6) (by omega) (by omega) ?_
        refine vx_ret ?_
        exact W.iret (v := t_refusal_reason) hx hb hr (fun t ht hW => ⟨⟨_, (), rfl, ⟨rfl, rfl⟩, by show va_P (dC, dI) vwCl _ t.heap; rw [ht]; exact hP⟩, hS.F ht⟩) hS.2.2 dX11_reason_46
      · have h := (if_neg c0).symm.trans h
        refine lv_aload_n hx hb dX11_reason_29 rfl (lv_at hl 0 rfl) ?_
        refine va_get (D := (dC, dI)) (ci := 14) (v := .ref a_t_refusal) (C := RX11) (T := TX11) (N := 15) hx hb hta inX11w hown hK (rk hR0 hNA hS) 0 rfl rfl 4 (by decide) (hta _ lk_X11_33) (fun _ h9 => h9) rfl dX11_reason_30 ?_
        refine va_get (D := (dC, dI)) (ci := 10) (v := .int t_refusal_detail) (C := RX7) (T := TX7) (N := 6) hx hb hta inX7w hown hK (rk hR0 hNA hS) 1 rfl rfl 2 (by decide) (hta _ lk_X11_389) (fun _ h9 => h9) rfl dX11_reason_33 ?_
        refine lv_goto (tgt := 46) hx hb dX11_reason_36 (by decide) ?_
        have ho := Option.some.inj h
        subst ho
        refine W.widen (k := 1) (n := 6) (by omega) (by omega) ?_
        refine vx_ret ?_
        exact W.iret (v := t_refusal_detail) hx hb hr (fun t ht hW => ⟨⟨_, (), rfl, ⟨rfl, rfl⟩, by show va_P (dC, dI) vwCl _ t.heap; rw [ht]; exact hP⟩, hS.F ht⟩) hS.2.2 dX11_reason_46
  · have h := (if_pos c0).symm.trans h
    have ho := Option.some.inj h
    subst ho
    exact xthrowNW hx hb hl9 hown hta hX xf_3 (List.mem_of_getElem? (i := 26) rfl) hS (hl.1.trans hml.symm) dX11_reason_10 dX11_reason_13 dX11_reason_14 dX11_reason_17 dX11_reason_20 htab (Nat.le_of_ble_eq_true rfl) (Nat.le_of_ble_eq_true rfl) (Nat.le_of_ble_eq_true rfl) (Nat.le_of_ble_eq_true rfl) hlocks hP (show (3 : Int32) ≠ 0 by decide) exn_3.symm (Nat.le_of_ble_eq_true rfl) (Nat.le_of_ble_eq_true rfl)
set_option maxHeartbeats 4000000 in
set_option maxRecDepth 100000 in
theorem c_X11_undo (l : Launch) (hl9 : l.stackTraces = false) (dC : Nat → ClassId) (dI : Nat → Nat → Nat) (cT : Nat → ClassId) {Hh : Heap} {sq : Nat → Nat → Nat} {a_t : Nat} {a_t_history : Nat} {a_t_book : Nat} {a_t_history_books : Nat} {a_t_book_contents : Nat} {a_bk_contents : Nat} {a_t_book_contents_many : Nat} {a_bk_contents_many : Nat} {a_t_book_contents_much : Nat} {a_bk_contents_much : Nat} {a_t_book_isBroth : Nat} {a_bk_isBroth : Nat} {a_t_book_low : Nat} {a_bk_low : Nat} {a_t_book_high : Nat} {a_bk_high : Nat} {a_t_book_storesIn : Nat} {a_bk_storesIn : Nat} {a_t_book_texts : Nat} {a_bk_texts : Nat} {a_t_book_cooked : Nat} {a_bk_cooked : Nat} {a_t_saved : Nat} {a_t_refusal : Nat} {a_t_reader : Nat} {a_t_typing : Nat} {a_t_typingByStores : Nat} {a_t_cooking : Nat} {a_t_cookingByStores : Nat} {a_t_input : Nat} {a_t_line : Nat} {LS : List Nat} {SE : Nat → SV} {t_history_next : Int32} {t_history_changes : Int32} {t_book_cauldrons : Int32} {t_book_spells : Int32} {t_book_cookedSoFar : Int32} {t_book_storesSoFar : Int32} {t_history_books : Nat → Option Nat} {bk_cauldrons : Int32} {bk_spells : Int32} {bk_cookedSoFar : Int32} {bk_storesSoFar : Int32} {t_book_contents_many : Nat → Int32} {bk_contents_many : Nat → Int32} {t_book_contents_much : Nat → UInt32} {bk_contents_much : Nat → UInt32} {t_book_isBroth : Nat → Int32} {bk_isBroth : Nat → Int32} {t_book_low : Nat → Int32} {bk_low : Nat → Int32} {t_book_high : Nat → Int32} {bk_high : Nat → Int32} {t_book_storesIn : Nat → Int32} {bk_storesIn : Nat → Int32} {t_book_texts : Nat → Option Nat} {bk_texts : Nat → Option Nat} {t_book_cooked : Nat → Int32} {bk_cooked : Nat → Int32} {a_bk : Nat} {t_isSaved : Int32} {t_inputLength : Int32} {t_keptError : Int32} {t_boiledOver : Int32} {XW : va_W} (eX : XW = [(a_t_history, .inr (8, [.ref a_t_history_books, .int t_history_next, .int t_history_changes])), (a_t_book, .inr (4, [.int t_book_cauldrons, .ref a_t_book_isBroth, .ref a_t_book_low, .ref a_t_book_high, .ref a_t_book_contents, .ref a_t_book_storesIn, .int t_book_spells, .ref a_t_book_texts, .ref a_t_book_cooked, .int t_book_cookedSoFar, .int t_book_storesSoFar])), (a_t_book_contents_many, .inl (cT 0, 6, .inl t_book_contents_many)), (a_t_book_contents_much, .inl (cT 4, 6, .inr (.inr (.inl t_book_contents_much)))), (a_t_book_isBroth, .inl (cT 1, 6, .inl t_book_isBroth)), (a_t_book_low, .inl (cT 0, 6, .inl t_book_low)), (a_t_book_high, .inl (cT 0, 6, .inl t_book_high)), (a_t_book_storesIn, .inl (cT 0, 6, .inl t_book_storesIn)), (a_t_book_texts, .inl (cT 7, 4, .inr (.inr (.inr (.inr t_book_texts))))), (a_t_book_cooked, .inl (cT 0, 4, .inl t_book_cooked))]) {o : Int32 × Int32 × Int32 × Int32 × Int32 × Int32 × Int32 × Int32 × (Nat → Int32) × (Nat → UInt32) × (Nat → Int32) × (Nat → Int32) × (Nat → Int32) × (Nat → Int32) × (Nat → Option Nat) × (Nat → Int32)} (h : g_X11_undo LS SE t_history_next t_history_changes t_book_cauldrons t_book_spells t_book_cookedSoFar t_book_storesSoFar t_history_books bk_cauldrons bk_spells bk_cookedSoFar bk_storesSoFar t_book_contents_many bk_contents_many t_book_contents_much bk_contents_much t_book_isBroth bk_isBroth t_book_low bk_low t_book_high bk_high t_book_storesIn bk_storesIn t_book_texts bk_texts t_book_cooked bk_cooked a_bk = some o) (hP0 : va_P (dC, dI) vwCl XW Hh) (hR0 : va_P (dC, dI) vwCl [(a_t, .inr (14, [.ref a_t_book, .ref a_t_saved, .int t_isSaved, .ref a_t_history, .ref a_t_refusal, .ref a_t_reader, .ref a_t_typing, .ref a_t_typingByStores, .ref a_t_cooking, .ref a_t_cookingByStores, .ref a_t_input, .int t_inputLength, .int t_keptError, .ref a_t_line, .int t_boiledOver])), (a_t_history_books, .inl (cT 8, 6, .inr (.inr (.inr (.inr t_history_books))))), (a_bk, .inr (4, [.int bk_cauldrons, .ref a_bk_isBroth, .ref a_bk_low, .ref a_bk_high, .ref a_bk_contents, .ref a_bk_storesIn, .int bk_spells, .ref a_bk_texts, .ref a_bk_cooked, .int bk_cookedSoFar, .int bk_storesSoFar])), (a_t_book_contents, .inr (5, [.ref a_t_book_contents_many, .ref a_t_book_contents_much])), (a_bk_contents, .inr (5, [.ref a_bk_contents_many, .ref a_bk_contents_much])), (a_bk_contents_many, .inl (cT 0, 6, .inl bk_contents_many)), (a_bk_contents_much, .inl (cT 4, 6, .inr (.inr (.inl bk_contents_much)))), (a_bk_isBroth, .inl (cT 1, 6, .inl bk_isBroth)), (a_bk_low, .inl (cT 0, 6, .inl bk_low)), (a_bk_high, .inl (cT 0, 6, .inl bk_high)), (a_bk_storesIn, .inl (cT 0, 6, .inl bk_storesIn)), (a_bk_texts, .inl (cT 7, 4, .inr (.inr (.inr (.inr bk_texts))))), (a_bk_cooked, .inl (cT 0, 4, .inl bk_cooked))] Hh) (hD0 : va_D (fun _ => True) XW) (hN0 : ∀ (k : Nat) (q : Nat × va_E), ([(a_t, .inr (14, [.ref a_t_book, .ref a_t_saved, .int t_isSaved, .ref a_t_history, .ref a_t_refusal, .ref a_t_reader, .ref a_t_typing, .ref a_t_typingByStores, .ref a_t_cooking, .ref a_t_cookingByStores, .ref a_t_input, .int t_inputLength, .int t_keptError, .ref a_t_line, .int t_boiledOver])), (a_t_history_books, .inl (cT 8, 6, .inr (.inr (.inr (.inr t_history_books))))), (a_bk, .inr (4, [.int bk_cauldrons, .ref a_bk_isBroth, .ref a_bk_low, .ref a_bk_high, .ref a_bk_contents, .ref a_bk_storesIn, .int bk_spells, .ref a_bk_texts, .ref a_bk_cooked, .int bk_cookedSoFar, .int bk_storesSoFar])), (a_t_book_contents, .inr (5, [.ref a_t_book_contents_many, .ref a_t_book_contents_much])), (a_bk_contents, .inr (5, [.ref a_bk_contents_many, .ref a_bk_contents_much])), (a_bk_contents_many, .inl (cT 0, 6, .inl bk_contents_many)), (a_bk_contents_much, .inl (cT 4, 6, .inr (.inr (.inl bk_contents_much)))), (a_bk_isBroth, .inl (cT 1, 6, .inl bk_isBroth)), (a_bk_low, .inl (cT 0, 6, .inl bk_low)), (a_bk_high, .inl (cT 0, 6, .inl bk_high)), (a_bk_storesIn, .inl (cT 0, 6, .inl bk_storesIn)), (a_bk_texts, .inl (cT 7, 4, .inr (.inr (.inr (.inr bk_texts))))), (a_bk_cooked, .inl (cT 0, 4, .inl bk_cooked))] : va_W)[k]? = some q → ¬ va_A XW Hh.size q.1) (hSP : ∀ a ∈ LS, va_P (dC, dI) vwCl (spc cT sq SE a) Hh) (hSN : ∀ a ∈ LS, ∀ (k : Nat) (q : Nat × va_E), (spc cT sq SE a)[k]? = some q → ¬ va_A XW Hh.size q.1) : vx_Met l yX11_undo (wA yX11_undo cX11_undo 1 (some .int)) ({ frames := 6, cells := 1, slots := 6, locals := 90 } : Room) (PX dC dI cT [.ref a_t] Hh (va_A XW Hh.size)) (QXI dC dI o.1 o.2.1 [(a_t_history, .inr (8, [.ref a_t_history_books, .int o.2.2.1, .int o.2.2.2.1])), (a_t_book, .inr (4, [.int o.2.2.2.2.1, .ref a_t_book_isBroth, .ref a_t_book_low, .ref a_t_book_high, .ref a_t_book_contents, .ref a_t_book_storesIn, .int o.2.2.2.2.2.1, .ref a_t_book_texts, .ref a_t_book_cooked, .int o.2.2.2.2.2.2.1, .int o.2.2.2.2.2.2.2.1])), (a_t_book_contents_many, .inl (cT 0, 6, .inl o.2.2.2.2.2.2.2.2.1)), (a_t_book_contents_much, .inl (cT 4, 6, .inr (.inr (.inl o.2.2.2.2.2.2.2.2.2.1)))), (a_t_book_isBroth, .inl (cT 1, 6, .inl o.2.2.2.2.2.2.2.2.2.2.1)), (a_t_book_low, .inl (cT 0, 6, .inl o.2.2.2.2.2.2.2.2.2.2.2.1)), (a_t_book_high, .inl (cT 0, 6, .inl o.2.2.2.2.2.2.2.2.2.2.2.2.1)), (a_t_book_storesIn, .inl (cT 0, 6, .inl o.2.2.2.2.2.2.2.2.2.2.2.2.2.1)), (a_t_book_texts, .inl (cT 7, 4, .inr (.inr (.inr (.inr o.2.2.2.2.2.2.2.2.2.2.2.2.2.2.1))))), (a_t_book_cooked, .inl (cT 0, 4, .inl o.2.2.2.2.2.2.2.2.2.2.2.2.2.2.2))] (va_A XW Hh.size)) (XX dC dI o.1 [(a_t_history, .inr (8, [.ref a_t_history_books, .int o.2.2.1, .int o.2.2.2.1])), (a_t_book, .inr (4, [.int o.2.2.2.2.1, .ref a_t_book_isBroth, .ref a_t_book_low, .ref a_t_book_high, .ref a_t_book_contents, .ref a_t_book_storesIn, .int o.2.2.2.2.2.1, .ref a_t_book_texts, .ref a_t_book_cooked, .int o.2.2.2.2.2.2.1, .int o.2.2.2.2.2.2.2.1])), (a_t_book_contents_many, .inl (cT 0, 6, .inl o.2.2.2.2.2.2.2.2.1)), (a_t_book_contents_much, .inl (cT 4, 6, .inr (.inr (.inl o.2.2.2.2.2.2.2.2.2.1)))), (a_t_book_isBroth, .inl (cT 1, 6, .inl o.2.2.2.2.2.2.2.2.2.2.1)), (a_t_book_low, .inl (cT 0, 6, .inl o.2.2.2.2.2.2.2.2.2.2.2.1)), (a_t_book_high, .inl (cT 0, 6, .inl o.2.2.2.2.2.2.2.2.2.2.2.2.1)), (a_t_book_storesIn, .inl (cT 0, 6, .inl o.2.2.2.2.2.2.2.2.2.2.2.2.2.1)), (a_t_book_texts, .inl (cT 7, 4, .inr (.inr (.inr (.inr o.2.2.2.2.2.2.2.2.2.2.2.2.2.2.1))))), (a_t_book_cooked, .inl (cT 0, 4, .inl o.2.2.2.2.2.2.2.2.2.2.2.2.2.2.2))] (va_A XW Hh.size)) 1 6 (va_A XW Hh.size) := by
  subst eX
  refine vx_ofW (cc := cX11_undo) (maxL := 1) (ret := (some .int)) (by decide) rfl ?_
  intro p e s m args below meth c s₁ B hml htab hv
  obtain ⟨rfl, hH, hK, hX⟩ := hv
  subst hH
  have hx := B.exec
  have hb := B.bytes
  have hr := B.returns
  have hta : ∀ w ∈ ALLW, w.before [.ref a_t].toArray s = true := fun w hw => atoms_spec (ws := wA yX11_undo cX11_undo 1 (some .int)) B.pre w (List.mem_cons_of_mem _ hw)
  have hown : s.vm.findClass RX11 = some m.cls := findClass_of_methodNamed B.named
  have hlocks := B.notSynchronized
  have hD := hD0.self (sz := s.heap.size)
  have hNA := hN0
  generalize hAe : va_A [(a_t_history, .inr (8, [.ref a_t_history_books, .int t_history_next, .int t_history_changes])), (a_t_book, .inr (4, [.int t_book_cauldrons, .ref a_t_book_isBroth, .ref a_t_book_low, .ref a_t_book_high, .ref a_t_book_contents, .ref a_t_book_storesIn, .int t_book_spells, .ref a_t_book_texts, .ref a_t_book_cooked, .int t_book_cookedSoFar, .int t_book_storesSoFar])), (a_t_book_contents_many, .inl (cT 0, 6, .inl t_book_contents_many)), (a_t_book_contents_much, .inl (cT 4, 6, .inr (.inr (.inl t_book_contents_much)))), (a_t_book_isBroth, .inl (cT 1, 6, .inl t_book_isBroth)), (a_t_book_low, .inl (cT 0, 6, .inl t_book_low)), (a_t_book_high, .inl (cT 0, 6, .inl t_book_high)), (a_t_book_storesIn, .inl (cT 0, 6, .inl t_book_storesIn)), (a_t_book_texts, .inl (cT 7, 4, .inr (.inr (.inr (.inr t_book_texts))))), (a_t_book_cooked, .inl (cT 0, 4, .inl t_book_cooked))] s.heap.size = A at hD hNA hSN hX ⊢
  have hP := hP0
  have hA : ∀ q : Nat, s.heap.size ≤ q → A q := fun q h => by rw [← hAe]; exact Or.inr h
  have hS : va_S A s.heap s.heap [] := va_S.rf
  have hl := lv_entry [.ref a_t] (n := 1) (Nat.le_of_ble_eq_true rfl)
  rw [lg_entry_eq]
  generalize (lg_sl [.ref a_t] ++ List.replicate (1 - (lg_sl [.ref a_t]).length) Slot.unset).toArray = ls at hl ⊢
  have hl : lv_has ls 1 [(0, .ref a_t)] := hl
  unfold g_X11_undo at h
  refine lv_aload_n hx hb dX11_undo_0 rfl (lv_at hl 0 rfl) ?_
  refine va_get (D := (dC, dI)) (ci := 14) (v := .ref a_t_history) (C := RX11) (T := TX11) (N := 15) hx hb hta inX11w hown hK (rk hR0 hNA hS) 0 rfl rfl 3 (by decide) (hta _ lk_X11_26) (fun _ h9 => h9) rfl dX11_undo_1 ?_
  refine va_get (D := (dC, dI)) (ci := 8) (v := .int t_history_changes) (C := RX4) (T := TX4) (N := 3) hx hb hta inX4w hown hK hP 0 rfl rfl 2 (by decide) (hta _ lk_X11_371) (fun _ h9 => h9) rfl dX11_undo_4 ?_
  refine lv_if_ne (tgt := 21) hx hb dX11_undo_7 (by decide) (fun c0 => ?_) (fun c0 => ?_)
  · have h := (if_neg c0).symm.trans h
    refine lv_aload_n hx hb dX11_undo_21 rfl (lv_at hl 0 rfl) ?_
    refine va_get (D := (dC, dI)) (ci := 14) (v := .ref a_t_history) (C := RX11) (T := TX11) (N := 15) hx hb hta inX11w hown hK (rk hR0 hNA hS) 0 rfl rfl 3 (by decide) (hta _ lk_X11_26) (fun _ h9 => h9) rfl dX11_undo_22 ?_
    refine lv_aload_n hx hb dX11_undo_25 rfl (lv_at hl 0 rfl) ?_
    refine va_get (D := (dC, dI)) (ci := 14) (v := .ref a_t_book) (C := RX11) (T := TX11) (N := 15) hx hb hta inX11w hown hK (rk hR0 hNA hS) 0 rfl rfl 0 (by decide) (hta _ lk_X11_10) (fun _ h9 => h9) rfl dX11_undo_26 ?_
    obtain ⟨r1, hq, h⟩ := gb_some h
    refine cxV (X2 := [(a_t_history, .inr (8, [.ref a_t_history_books, .int r1.1, .int r1.2.1])), (a_t_book, .inr (4, [.int r1.2.2.1, .ref a_t_book_isBroth, .ref a_t_book_low, .ref a_t_book_high, .ref a_t_book_contents, .ref a_t_book_storesIn, .int r1.2.2.2.1, .ref a_t_book_texts, .ref a_t_book_cooked, .int r1.2.2.2.2.1, .int r1.2.2.2.2.2.1])), (a_t_book_contents_many, .inl (cT 0, 6, .inl r1.2.2.2.2.2.2.1)), (a_t_book_contents_much, .inl (cT 4, 6, .inr (.inr (.inl r1.2.2.2.2.2.2.2.1)))), (a_t_book_isBroth, .inl (cT 1, 6, .inl r1.2.2.2.2.2.2.2.2.1)), (a_t_book_low, .inl (cT 0, 6, .inl r1.2.2.2.2.2.2.2.2.2.1)), (a_t_book_high, .inl (cT 0, 6, .inl r1.2.2.2.2.2.2.2.2.2.2.1)), (a_t_book_storesIn, .inl (cT 0, 6, .inl r1.2.2.2.2.2.2.2.2.2.2.2.1)), (a_t_book_texts, .inl (cT 7, 4, .inr (.inr (.inr (.inr r1.2.2.2.2.2.2.2.2.2.2.2.2.1))))), (a_t_book_cooked, .inl (cT 0, 4, .inl r1.2.2.2.2.2.2.2.2.2.2.2.2.2))]) (va_runV (As := [.ref a_t_book]) (rest := []) ⟨hx, hb, hml, hown, hta⟩ (c_X4_giveBack l dC dI cT hq (hP.sub (ws' := [(a_t_history, .inr (8, [.ref a_t_history_books, .int t_history_next, .int t_history_changes])), (a_t_book, .inr (4, [.int t_book_cauldrons, .ref a_t_book_isBroth, .ref a_t_book_low, .ref a_t_book_high, .ref a_t_book_contents, .ref a_t_book_storesIn, .int t_book_spells, .ref a_t_book_texts, .ref a_t_book_cooked, .int t_book_cookedSoFar, .int t_book_storesSoFar])), (a_t_book_contents_many, .inl (cT 0, 6, .inl t_book_contents_many)), (a_t_book_contents_much, .inl (cT 4, 6, .inr (.inr (.inl t_book_contents_much)))), (a_t_book_isBroth, .inl (cT 1, 6, .inl t_book_isBroth)), (a_t_book_low, .inl (cT 0, 6, .inl t_book_low)), (a_t_book_high, .inl (cT 0, 6, .inl t_book_high)), (a_t_book_storesIn, .inl (cT 0, 6, .inl t_book_storesIn)), (a_t_book_texts, .inl (cT 7, 4, .inr (.inr (.inr (.inr t_book_texts))))), (a_t_book_cooked, .inl (cT 0, 4, .inl t_book_cooked))]) [0, 1, 2, 3, 4, 5, 6, 7, 8, 9] rfl) ((va_P.app hP (rk hR0 hNA hS)).sub (ws' := [(a_t_history_books, .inl (cT 8, 6, .inr (.inr (.inr (.inr t_history_books))))), (a_bk, .inr (4, [.int bk_cauldrons, .ref a_bk_isBroth, .ref a_bk_low, .ref a_bk_high, .ref a_bk_contents, .ref a_bk_storesIn, .int bk_spells, .ref a_bk_texts, .ref a_bk_cooked, .int bk_cookedSoFar, .int bk_storesSoFar])), (a_t_book_contents, .inr (5, [.ref a_t_book_contents_many, .ref a_t_book_contents_much])), (a_bk_contents, .inr (5, [.ref a_bk_contents_many, .ref a_bk_contents_much])), (a_bk_contents_many, .inl (cT 0, 6, .inl bk_contents_many)), (a_bk_contents_much, .inl (cT 4, 6, .inr (.inr (.inl bk_contents_much)))), (a_bk_isBroth, .inl (cT 1, 6, .inl bk_isBroth)), (a_bk_low, .inl (cT 0, 6, .inl bk_low)), (a_bk_high, .inl (cT 0, 6, .inl bk_high)), (a_bk_storesIn, .inl (cT 0, 6, .inl bk_storesIn)), (a_bk_texts, .inl (cT 7, 4, .inr (.inr (.inr (.inr bk_texts))))), (a_bk_cooked, .inl (cT 0, 4, .inl bk_cooked))]) [11, 12, 13, 14, 15, 16, 17, 18, 19, 20, 21, 22] rfl) (ds hD [0, 1, 2, 3, 4, 5, 6, 7, 8, 9] (by decide) rfl) (nac hP hD [0, 1, 2, 3, 4, 5, 6, 7, 8, 9] rfl (va_free hD hS hA [0, 1, 2, 3, 4, 5, 6, 7, 8, 9] rfl) hNA [.inl 1, .inl 2, .inl 3, .inl 4, .inl 5, .inl 6, .inl 7, .inl 8, .inl 9, .inl 10, .inl 11, .inl 12] rfl rfl) (sq := sq) (hSP := (fun a9 ha9 => rk (hSP a9 ha9) (hSN a9 ha9) hS)) (hSN := fun a9 ha9 k9 q9 hk9 hq9 => hSN a9 ha9 k9 q9 hk9 (va_free hD hS hA [0, 1, 2, 3, 4, 5, 6, 7, 8, 9] rfl q9.1 hq9))) (cV hta lm_X11_404 md_X4_giveBack ⟨(Nat.le_of_ble_eq_true rfl), (Nat.le_of_ble_eq_true rfl)⟩) ⟨fbK, va_recv hK hP (ci := 8) (q0 := 0) rfl rfl, fun U hU hW => ⟨rfl, hU, va_K.moved hW.alike hK⟩⟩ rfl rfl hl.1 rfl (lv_room (Nat.le_of_ble_eq_true rfl)) dX11_undo_29 ⟨(Nat.le_of_ble_eq_true rfl), (Nat.le_of_ble_eq_true rfl)⟩) hS hA hP hD [0, 1, 2, 3, 4, 5, 6, 7, 8, 9] rfl [.inl 0, .inl 1, .inl 2, .inl 3, .inl 4, .inl 5, .inl 6, .inl 7, .inl 8, .inl 9] rfl rfl rfl (fun H locs hP hD hS => ?_)
    refine lv_aload_n hx hb dX11_undo_32 rfl (lv_at hl 0 rfl) ?_
    refine va_get (D := (dC, dI)) (ci := 14) (v := .ref a_t_history) (C := RX11) (T := TX11) (N := 15) hx hb hta inX11w hown hK (rk hR0 hNA hS) 0 rfl rfl 3 (by decide) (hta _ lk_X11_26) (fun _ h9 => h9) rfl dX11_undo_33 ?_
    refine va_get (D := (dC, dI)) (ci := 8) (v := .int r1.2.1) (C := RX4) (T := TX4) (N := 3) hx hb hta inX4w hown hK hP 0 rfl rfl 2 (by decide) (hta _ lk_X11_371) (fun _ h9 => h9) rfl dX11_undo_36 ?_
    have ho := Option.some.inj h
    subst ho
    refine W.widen (k := 1) (n := 6) (by omega) (by omega) ?_
    refine vx_ret ?_
    exact W.iret (v := r1.2.1) hx hb hr (fun t ht hW => ⟨⟨_, (), rfl, ⟨rfl, rfl⟩, by show va_P (dC, dI) vwCl _ t.heap; rw [ht]; exact hP⟩, hS.F ht⟩) hS.2.2 dX11_undo_39
  · have h := (if_pos c0).symm.trans h
    have ho := Option.some.inj h
    subst ho
    exact xthrowNW hx hb hl9 hown hta hX xf_3 (List.mem_of_getElem? (i := 28) rfl) hS (hl.1.trans hml.symm) dX11_undo_10 dX11_undo_13 dX11_undo_14 dX11_undo_17 dX11_undo_20 htab (Nat.le_of_ble_eq_true rfl) (Nat.le_of_ble_eq_true rfl) (Nat.le_of_ble_eq_true rfl) (Nat.le_of_ble_eq_true rfl) hlocks hP (show (3 : Int32) ≠ 0 by decide) exn_3.symm (Nat.le_of_ble_eq_true rfl) (Nat.le_of_ble_eq_true rfl)
