/-! THE LOOP, THE START (gen/loops.py) -/
theorem and63 (x : Int32) : ∃ j : Nat, j < 64 ∧ x &&& 63 = nI j := by
  refine ⟨(x &&& 63).toBitVec.toNat, ?_, ?_⟩
  · have e : (x &&& 63).toBitVec = x.toBitVec &&& 63#32 := rfl
    rw [e, BitVec.toNat_and]
    have h := Nat.and_le_right (n := x.toBitVec.toNat) (m := (63#32).toNat)
    have e2 : (63#32).toNat = 63 := rfl
    omega
  · refine Int32.toBitVec_inj.mp (BitVec.eq_of_toNat_eq ?_)
    show (x &&& 63).toBitVec.toNat = (BitVec.ofNat 32 (x &&& 63).toBitVec.toNat).toNat
    rw [BitVec.toNat_ofNat]
    exact (Nat.mod_eq_of_lt (BitVec.isLt _)).symm
theorem ge4 {i L : Nat} (hL : L ≤ 2048) (hi : i ≤ L) (h : ¬ Int32.ofNat L - 4 < nI i) : i + 4 ≤ L := by
  by_cases h4 : 4 ≤ L
  · have e : Int32.ofNat L - 4 = nI (L - 4) := x_sub (a := L) (b := 4) h4
    rw [e, nI_ltI (by omega) (by omega)] at h
    omega
  · refine absurd ?_ h
    rw [Int32.lt_iff_toInt_lt, nI_toInt (by omega)]
    have : L = 0 ∨ L = 1 ∨ L = 2 ∨ L = 3 := by omega
    rcases this with rfl | rfl | rfl | rfl
    · rw [show (Int32.ofNat 0 - 4).toInt = -4 by decide]; omega
    · rw [show (Int32.ofNat 1 - 4).toInt = -3 by decide]; omega
    · rw [show (Int32.ofNat 2 - 4).toInt = -2 by decide]; omega
    · rw [show (Int32.ofNat 3 - 4).toInt = -1 by decide]; omega
set_option maxHeartbeats 16000000 in
set_option maxRecDepth 100000 in
theorem lw_loop {p : Program} {l : Launch} {e : Env} {s : State} {m : MethodId} {below : List Frame} {meth : Method} {c : Code} {dC : Nat → ClassId} {dI : Nat → Nat → Nat} {cT : Nat → ClassId} {A : Nat → Prop} {b9 L : Nat} {xs : Nat → Int32} (hL : LC p l s m c dC dI cT A b9 L xs) (hLL : L ≤ 2048) (hr : meth.sig.returnType = ret) (hlocks : meth.locks = false) (hAq : ∀ q, A q → s.heap.size ≤ q) {ad : Nat → Nat} :
    ∀ (n i cells slots : Nat), i ≤ L → L < i + 4 * n → cells + 200 * n ≤ 603072 → slots + 8000 * n ≤ 7170154 → ∀ {RAd : Nat → Nat → Nat} {LS : List Nat} {SE : Nat → SV} {sq : Nat → Nat → Nat} {bB : BK} {bS : BK} {bR : Nat → BK} {bks : Nat → Option Nat} {uU : BU} {nN : Nat} {dD : List Nat} {x_isSaved : Int32} {x_history_next : Int32} {x_history_changes : Int32} {x_refusal_isKept : Int32} {x_refusal_reason : Int32} {x_refusal_detail : Int32} {x_refusal_hasCause : Int32} {x_refusal_cause : Int32} {x_refusal_causeDetail : Int32} {x_reader_tokens : Int32} {x_reader_stores : Int32} {x_reader_mostSpoons : Int32} {x_reader_firsts : Nat → Int32} {x_reader_kinds : Nat → Int32} {x_reader_values : Nat → Int32} {x_reader_parts : Nat → Int32} {x_reader_lastParts : Nat → Int32} {x_reader_spoonPlaces : Nat → Int32} {x_reader_spoons : Int32} {x_reader_awaitsLetter : Int32} {x_reader_awaitsDigit : Int32} {x_typing_faultAt : Int32} {x_typing_stores : Int32} {x_typing_storeIsBroth : Nat → Int32} {x_typing_storeLow : Nat → Int64} {x_typing_storeHigh : Nat → Int64} {x_typing_isBroth : Nat → Int32} {x_typing_low : Nat → Int64} {x_typing_high : Nat → Int64} {x_typing_spoons : Int32} {x_typingByStores_isBroth : Nat → Int32} {x_typingByStores_low : Nat → Int64} {x_typingByStores_high : Nat → Int64} {x_cooking_now_many : Nat → Int32} {x_cooking_now_much : Nat → UInt32} {x_cooking_storesIn : Nat → Int32} {x_cooking_boilsAt : Int32} {x_cooking_cause : Int32} {x_cooking_causeDetail : Int32} {x_cooking_before_many : Nat → Int32} {x_cooking_before_much : Nat → UInt32} {x_cooking_isBroth : Nat → Int32} {x_cooking_many : Nat → Int32} {x_cooking_much : Nat → UInt32} {x_cooking_spoons : Int32} {x_cookingByStores_isBroth : Nat → Int32} {x_cookingByStores_many : Nat → Int32} {x_cookingByStores_much : Nat → UInt32} {x_input : Nat → Int32} {x_inputLength : Int32} {x_keptError : Int32} {x_boiledOver : Int32} {m_s : Nat → Int32} {m_f : Nat → UInt32} {m_before : Nat → Int32} {m_beforeF : Nat → UInt32} {m_aside : Nat → Int32} {m_asideF : Nat → UInt32} {m_saved : Nat → Int32} {m_savedF : Nat → UInt32} {m_isSaved : Int32} {m_past : Nat → Int32} {m_pastF : Nat → UInt32} {m_pastMany : Int32} {m_boiled : Int32} {m_thrown : Int32} {m_refused : Nat → Int32} {m_text : Nat → Int32} {m_length : Int32} {m_error : Int32} {m_signs : Nat → Int32} {m_numbers : Nat → Int32} {m_tokens : Int32} {m_spoons : Int32} {m_mostSpoons : Int32} {m_row : Nat → Int32} {m_isBrothOn : Nat → Int32} {m_dramsOn : Nat → Int64} {m_brothOn : Nat → UInt32} {m_cause : Int32} {m_causeDetail : Int32} {m_lowOn : Nat → Int64} {m_highOn : Nat → Int64} {m_lowStored : Nat → Int64} {m_highStored : Nat → Int64} {m_isBrothStored : Nat → Int32} {m_storeMany : Int32} {m_step : Nat → Int32} {m_stepF : Nat → UInt32} {m_line : Nat → Int32} {m_lineMany : Int32} {out : Nat → Int64} {outD : Nat → UInt64} {pl : va_W} {H : Heap} {locs : List Loc} {ls : Array Slot}, INV2 ad RAd LS SE sq bB bS bR bks uU nN dD x_isSaved x_history_next x_history_changes x_refusal_isKept x_refusal_reason x_refusal_detail x_refusal_hasCause x_refusal_cause x_refusal_causeDetail x_reader_tokens x_reader_stores x_reader_mostSpoons x_reader_firsts x_reader_kinds x_reader_values x_reader_parts x_reader_lastParts x_reader_spoonPlaces x_reader_spoons x_reader_awaitsLetter x_reader_awaitsDigit x_typing_faultAt x_typing_stores x_typing_storeIsBroth x_typing_storeLow x_typing_storeHigh x_typing_isBroth x_typing_low x_typing_high x_typing_spoons x_typingByStores_isBroth x_typingByStores_low x_typingByStores_high x_cooking_now_many x_cooking_now_much x_cooking_storesIn x_cooking_boilsAt x_cooking_cause x_cooking_causeDetail x_cooking_before_many x_cooking_before_much x_cooking_isBroth x_cooking_many x_cooking_much x_cooking_spoons x_cookingByStores_isBroth x_cookingByStores_many x_cookingByStores_much x_input x_inputLength x_keptError x_boiledOver m_s m_f m_before m_beforeF m_aside m_asideF m_saved m_savedF m_isSaved m_past m_pastF m_pastMany m_boiled m_thrown m_refused m_text m_length m_error m_signs m_numbers m_tokens m_spoons m_mostSpoons m_row m_isBrothOn m_dramsOn m_brothOn m_cause m_causeDetail m_lowOn m_highOn m_lowStored m_highStored m_isBrothStored m_storeMany m_step m_stepF m_line m_lineMany out outD → PLI cT sq SE LS pl → va_P (dC, dI) vwCl (WL cT ad RAd LS SE sq bB bS bR bks uU nN dD x_isSaved x_history_next x_history_changes x_refusal_isKept x_refusal_reason x_refusal_detail x_refusal_hasCause x_refusal_cause x_refusal_causeDetail x_reader_tokens x_reader_stores x_reader_mostSpoons x_reader_firsts x_reader_kinds x_reader_values x_reader_parts x_reader_lastParts x_reader_spoonPlaces x_reader_spoons x_reader_awaitsLetter x_reader_awaitsDigit x_typing_faultAt x_typing_stores x_typing_storeIsBroth x_typing_storeLow x_typing_storeHigh x_typing_isBroth x_typing_low x_typing_high x_typing_spoons x_typingByStores_isBroth x_typingByStores_low x_typingByStores_high x_cooking_now_many x_cooking_now_much x_cooking_storesIn x_cooking_boilsAt x_cooking_cause x_cooking_causeDetail x_cooking_before_many x_cooking_before_much x_cooking_isBroth x_cooking_many x_cooking_much x_cooking_spoons x_cookingByStores_isBroth x_cookingByStores_many x_cookingByStores_much x_input x_inputLength x_keptError x_boiledOver m_s m_f m_before m_beforeF m_aside m_asideF m_saved m_savedF m_isSaved m_past m_pastF m_pastMany m_boiled m_thrown m_refused m_text m_length m_error m_signs m_numbers m_tokens m_spoons m_mostSpoons m_row m_isBrothOn m_dramsOn m_brothOn m_cause m_causeDetail m_lowOn m_highOn m_lowStored m_highStored m_isBrothStored m_storeMany m_step m_stepF m_line m_lineMany out outD ++ pl) H → va_D A (WL cT ad RAd LS SE sq bB bS bR bks uU nN dD x_isSaved x_history_next x_history_changes x_refusal_isKept x_refusal_reason x_refusal_detail x_refusal_hasCause x_refusal_cause x_refusal_causeDetail x_reader_tokens x_reader_stores x_reader_mostSpoons x_reader_firsts x_reader_kinds x_reader_values x_reader_parts x_reader_lastParts x_reader_spoonPlaces x_reader_spoons x_reader_awaitsLetter x_reader_awaitsDigit x_typing_faultAt x_typing_stores x_typing_storeIsBroth x_typing_storeLow x_typing_storeHigh x_typing_isBroth x_typing_low x_typing_high x_typing_spoons x_typingByStores_isBroth x_typingByStores_low x_typingByStores_high x_cooking_now_many x_cooking_now_much x_cooking_storesIn x_cooking_boilsAt x_cooking_cause x_cooking_causeDetail x_cooking_before_many x_cooking_before_much x_cooking_isBroth x_cooking_many x_cooking_much x_cooking_spoons x_cookingByStores_isBroth x_cookingByStores_many x_cookingByStores_much x_input x_inputLength x_keptError x_boiledOver m_s m_f m_before m_beforeF m_aside m_asideF m_saved m_savedF m_isSaved m_past m_pastF m_pastMany m_boiled m_thrown m_refused m_text m_length m_error m_signs m_numbers m_tokens m_spoons m_mostSpoons m_row m_isBrothOn m_dramsOn m_brothOn m_cause m_causeDetail m_lowOn m_highOn m_lowStored m_highStored m_isBrothStored m_storeMany m_step m_stepF m_line m_lineMany out outD ++ pl) → va_S A s.heap H locs → lv_has ls 9 (LV ad b9 i) → W p l e room_1 s m #[Value.ref b9] below meth c H locs cells slots (lw_Z below #[Value.ref b9] s) (F0 m 28 ls []) := by
  intro n
  induction n with
  | zero =>
    intro i cells slots h1 h2
    exact absurd h2 (by omega)
  | succ n ih =>
    intro i cells slots hi hn hc9 hs9
    intros
    rename_i hI hpl hP hD hS hl
    obtain ⟨RAd9, bR9, hI, hP, hD⟩ := rot_all hI hP hD
    obtain ⟨hx, hb, hml, hown, hta, hXs, hbl, hbA, hl9, hK, hX, hN, hZ, hA⟩ := id hL
    refine lv_iload hx hb dL_law_28 (lv_at hl 0 rfl) ?_
    refine lv_aload_n hx hb dL_law_30 rfl (lv_at hl 1 rfl) ?_
    refine va_slen hx hb hXs hbl hbA hS dL_law_31 ?_
    refine lv_iconst (v := 4) hx hb dL_law_32 (by decide) ?_
    refine lv_isub hx hb dL_law_33 ?_
    refine lv_icmp_gt (tgt := 2372) hx hb dL_law_34 (by decide) (fun c0 => ?_) (fun c0 => ?_)
    · refine lv_iconst (v := 1) hx hb dL_law_2372 (by decide) ?_
      refine va_forget (fun q hq => hAq _ (hS.2.2 q hq)) ?_
      refine W.widen (k := 603072) (n := 7170154) (by omega) (by omega) ?_
      refine W.base ?_
      exact lw_ret (Drawn.sameBut.refl s.drawn lw_cs) hx hb hr hlocks dL_law_2373
    have hi4 : i + 4 ≤ L := ge4 hLL hi c0
    have hC : cells + 200 ≤ 603072 := by omega
    have hSl : slots + 8000 ≤ 7170154 := by omega
    have K : KON p l e s m below meth c dC dI cT A b9 (lw_Z below #[Value.ref b9] s) ad i cells slots := by
      unfold KON
      intros
      rename_i hI hpl hP hD hS hl
      refine lv_iinc (v := nI (i + 4)) (lv' := LV ad b9 (i + 4)) hx hb dL_law_2366 hl (k := 0) rfl (nI_add i 4) (by decide) rfl (fun ls hl => ?_)
      refine lv_goto (tgt := 28) hx hb dL_law_2369 (by decide) ?_
      exact ih (i + 4) (cells + 200) (slots + 8000) (by omega) (by omega) (by omega) (by omega) hI hpl hP hD hS hl
    refine lv_aload_n hx hb dL_law_37 rfl (lv_at hl 1 rfl) ?_
    refine lv_iload hx hb dL_law_38 (lv_at hl 0 rfl) ?_
    refine va_sld hx hb hXs hbl hbA hS (vp_in_nI (by omega) (by omega)) dL_law_40 ?_
    refine lv_bipush (v := 63) hx hb dL_law_41 (by decide) ?_
    refine lv_iand hx hb dL_law_43 ?_
    obtain ⟨j, hj, ej⟩ := and63 (xs (nI i).toNatClampNeg)
    rw [ej]
    by_cases h0 : j = 0
    · subst h0
      refine lv_tableIn (tgt := 212) (off := 168) hx hb dL_law_44 (by decide) (by decide) rfl (by decide) ?_
      exact cs_drams hL hi4 hLL hI hpl hC hSl hP hD hS hl K
    by_cases h1 : j = 1
    · subst h1
      refine lv_tableIn (tgt := 280) (off := 236) hx hb dL_law_44 (by decide) (by decide) rfl (by decide) ?_
      exact cs_broth hL hi4 hLL hI hpl hC hSl hP hD hS hl K
    by_cases h2 : j = 2
    · subst h2
      refine lv_tableIn (tgt := 324) (off := 280) hx hb dL_law_44 (by decide) (by decide) rfl (by decide) ?_
      exact cs_pour hL hi4 hLL hI hpl hC hSl hP hD hS hl K
    by_cases h3 : j = 3
    · subst h3
      refine lv_tableIn (tgt := 392) (off := 348) hx hb dL_law_44 (by decide) (by decide) rfl (by decide) ?_
      exact cs_ladle hL hi4 hLL hI hpl hC hSl hP hD hS hl K
    by_cases h4 : j = 4
    · subst h4
      refine lv_tableIn (tgt := 460) (off := 416) hx hb dL_law_44 (by decide) (by decide) rfl (by decide) ?_
      exact cs_bounds hL hi4 hLL hI hpl hC hSl hP hD hS hl K
    by_cases h5 : j = 5
    · subst h5
      refine lv_tableIn (tgt := 540) (off := 496) hx hb dL_law_44 (by decide) (by decide) rfl (by decide) ?_
      exact cs_write hL hi4 hLL hI hpl hC hSl hP hD hS hl K
    by_cases h6 : j = 6
    · subst h6
      refine lv_tableIn (tgt := 584) (off := 540) hx hb dL_law_44 (by decide) (by decide) rfl (by decide) ?_
      exact cs_erase hL hi4 hLL hI hpl hC hSl hP hD hS hl K
    by_cases h7 : j = 7
    · subst h7
      refine lv_tableIn (tgt := 640) (off := 596) hx hb dL_law_44 (by decide) (by decide) rfl (by decide) ?_
      exact cs_cook hL hi4 hLL hI hpl hC hSl hP hD hS hl K
    by_cases h8 : j = 8
    · subst h8
      refine lv_tableIn (tgt := 696) (off := 652) hx hb dL_law_44 (by decide) (by decide) rfl (by decide) ?_
      exact cs_cookAll hL hi4 hLL hI hpl hC hSl hP hD hS hl K
    by_cases h9 : j = 9
    · subst h9
      refine lv_tableIn (tgt := 740) (off := 696) hx hb dL_law_44 (by decide) (by decide) rfl (by decide) ?_
      exact cs_cauldronOf hL hi4 hLL hI hpl hC hSl hP hD hS hl K
    by_cases h10 : j = 10
    · subst h10
      refine lv_tableIn (tgt := 808) (off := 764) hx hb dL_law_44 (by decide) (by decide) rfl (by decide) ?_
      exact cs_cups hL hi4 hLL hI hpl hC hSl hP hD hS hl K
    by_cases h11 : j = 11
    · subst h11
      refine lv_tableIn (tgt := 886) (off := 842) hx hb dL_law_44 (by decide) (by decide) rfl (by decide) ?_
      exact cs_bits hL hi4 hLL hI hpl hC hSl hP hD hS hl K
    by_cases h12 : j = 12
    · subst h12
      refine lv_tableIn (tgt := 942) (off := 898) hx hb dL_law_44 (by decide) (by decide) rfl (by decide) ?_
      exact cs_spellOf hL hi4 hLL hI hpl hC hSl hP hD hS hl K
    by_cases h13 : j = 13
    · subst h13
      refine lv_tableIn (tgt := 1010) (off := 966) hx hb dL_law_44 (by decide) (by decide) rfl (by decide) ?_
      exact cs_token hL hi4 hLL hI hpl hC hSl hP hD hS hl K
    by_cases h14 : j = 14
    · subst h14
      refine lv_tableIn (tgt := 1078) (off := 1034) hx hb dL_law_44 (by decide) (by decide) rfl (by decide) ?_
      exact cs_types hL hi4 hLL hI hpl hC hSl hP hD hS hl K
    by_cases h15 : j = 15
    · subst h15
      refine lv_tableIn (tgt := 1141) (off := 1097) hx hb dL_law_44 (by decide) (by decide) rfl (by decide) ?_
      exact cs_typesAgain hL hi4 hLL hI hpl hC hSl hP hD hS hl K
    by_cases h16 : j = 16
    · subst h16
      refine lv_tableIn (tgt := 1204) (off := 1160) hx hb dL_law_44 (by decide) (by decide) rfl (by decide) ?_
      exact cs_fault hL hi4 hLL hI hpl hC hSl hP hD hS hl K
    by_cases h17 : j = 17
    · subst h17
      refine lv_tableIn (tgt := 1260) (off := 1216) hx hb dL_law_44 (by decide) (by decide) rfl (by decide) ?_
      exact cs_bound hL hi4 hLL hI hpl hC hSl hP hD hS hl K
    by_cases h18 : j = 18
    · subst h18
      refine lv_tableIn (tgt := 1356) (off := 1312) hx hb dL_law_44 (by decide) (by decide) rfl (by decide) ?_
      exact cs_typed hL hi4 hLL hI hpl hC hSl hP hD hS hl K
    by_cases h19 : j = 19
    · subst h19
      refine lv_tableIn (tgt := 1369) (off := 1325) hx hb dL_law_44 (by decide) (by decide) rfl (by decide) ?_
      exact cs_would hL hi4 hLL hI hpl hC hSl hP hD hS hl K
    by_cases h20 : j = 20
    · subst h20
      refine lv_tableIn (tgt := 1437) (off := 1393) hx hb dL_law_44 (by decide) (by decide) rfl (by decide) ?_
      exact cs_wouldAgain hL hi4 hLL hI hpl hC hSl hP hD hS hl K
    by_cases h21 : j = 21
    · subst h21
      refine lv_tableIn (tgt := 1505) (off := 1461) hx hb dL_law_44 (by decide) (by decide) rfl (by decide) ?_
      exact cs_boils hL hi4 hLL hI hpl hC hSl hP hD hS hl K
    by_cases h22 : j = 22
    · subst h22
      refine lv_tableIn (tgt := 1561) (off := 1517) hx hb dL_law_44 (by decide) (by decide) rfl (by decide) ?_
      exact cs_lasts hL hi4 hLL hI hpl hC hSl hP hD hS hl K
    by_cases h23 : j = 23
    · subst h23
      refine lv_tableIn (tgt := 1617) (off := 1573) hx hb dL_law_44 (by decide) (by decide) rfl (by decide) ?_
      exact cs_ranked hL hi4 hLL hI hpl hC hSl hP hD hS hl K
    by_cases h24 : j = 24
    · subst h24
      refine lv_tableIn (tgt := 1673) (off := 1629) hx hb dL_law_44 (by decide) (by decide) rfl (by decide) ?_
      exact cs_widest hL hi4 hLL hI hpl hC hSl hP hD hS hl K
    by_cases h25 : j = 25
    · subst h25
      refine lv_tableIn (tgt := 1717) (off := 1673) hx hb dL_law_44 (by decide) (by decide) rfl (by decide) ?_
      exact cs_isSafe hL hi4 hLL hI hpl hC hSl hP hD hS hl K
    by_cases h26 : j = 26
    · subst h26
      refine lv_tableIn (tgt := 1730) (off := 1686) hx hb dL_law_44 (by decide) (by decide) rfl (by decide) ?_
      exact cs_tell hL hi4 hLL hI hpl hC hSl hP hD hS hl K
    by_cases h27 : j = 27
    · subst h27
      refine lv_tableIn (tgt := 1786) (off := 1742) hx hb dL_law_44 (by decide) (by decide) rfl (by decide) ?_
      exact cs_tellCauldron hL hi4 hLL hI hpl hC hSl hP hD hS hl K
    by_cases h28 : j = 28
    · subst h28
      refine lv_tableIn (tgt := 1842) (off := 1798) hx hb dL_law_44 (by decide) (by decide) rfl (by decide) ?_
      exact cs_character hL hi4 hLL hI hpl hC hSl hP hD hS hl K
    by_cases h29 : j = 29
    · subst h29
      refine lv_tableIn (tgt := 1898) (off := 1854) hx hb dL_law_44 (by decide) (by decide) rfl (by decide) ?_
      exact cs_meanBits hL hi4 hLL hI hpl hC hSl hP hD hS hl K
    by_cases h30 : j = 30
    · subst h30
      refine lv_tableIn (tgt := 1941) (off := 1897) hx hb dL_law_44 (by decide) (by decide) rfl (by decide) ?_
      exact cs_typedShare hL hi4 hLL hI hpl hC hSl hP hD hS hl K
    by_cases h31 : j = 31
    · subst h31
      refine lv_tableIn (tgt := 2007) (off := 1963) hx hb dL_law_44 (by decide) (by decide) rfl (by decide) ?_
      exact cs_account hL hi4 hLL hI hpl hC hSl hP hD hS hl K
    by_cases h32 : j = 32
    · subst h32
      refine lv_tableIn (tgt := 2063) (off := 2019) hx hb dL_law_44 (by decide) (by decide) rfl (by decide) ?_
      exact cs_append hL hi4 hLL hI hpl hC hSl hP hD hS hl K
    by_cases h33 : j = 33
    · subst h33
      refine lv_tableIn (tgt := 2121) (off := 2077) hx hb dL_law_44 (by decide) (by decide) rfl (by decide) ?_
      exact cs_errorPosition hL hi4 hLL hI hpl hC hSl hP hD hS hl K
    by_cases h34 : j = 34
    · subst h34
      refine lv_tableIn (tgt := 2165) (off := 2121) hx hb dL_law_44 (by decide) (by decide) rfl (by decide) ?_
      exact cs_reason hL hi4 hLL hI hpl hC hSl hP hD hS hl K
    by_cases h35 : j = 35
    · subst h35
      refine lv_tableIn (tgt := 2265) (off := 2221) hx hb dL_law_44 (by decide) (by decide) rfl (by decide) ?_
      exact cs_undo hL hi4 hLL hI hpl hC hSl hP hD hS hl K
    by_cases h36 : j = 36
    · subst h36
      refine lv_tableIn (tgt := 2309) (off := 2265) hx hb dL_law_44 (by decide) (by decide) rfl (by decide) ?_
      exact cs_save hL hi4 hLL hI hpl hC hSl hP hD hS hl K
    by_cases h37 : j = 37
    · subst h37
      refine lv_tableIn (tgt := 2322) (off := 2278) hx hb dL_law_44 (by decide) (by decide) rfl (by decide) ?_
      exact cs_restore hL hi4 hLL hI hpl hC hSl hP hD hS hl K
    refine lv_tableOut (tgt := 2366) hx hb dL_law_44 (Or.inr (by rw [nI_toInt (by omega)]; omega)) (by decide) ?_
    refine W.widen (k := cells + 200) (n := slots + 8000) (by omega) (by omega) ?_
    exact K (INV_2 hI) hpl hP hD hS hl
