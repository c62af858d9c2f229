set_option maxHeartbeats 4000000 in
set_option maxRecDepth 100000 in
theorem c_X11_meanBits (l : Launch) (hl9 : l.stackTraces = false) (dC : Nat → ClassId) (dI : Nat → Nat → Nat) (cT : Nat → ClassId) {Hh : Heap} {a_t : Nat} {a_t_book : Nat} {a_t_book_isBroth : Nat} {a_t_book_contents : Nat} {a_t_book_contents_many : Nat} {a_t_book_contents_much : Nat} {a_t_saved : Nat} {a_t_history : Nat} {a_t_refusal : Nat} {a_t_reader : Nat} {a_t_typing : Nat} {a_t_typingByStores : Nat} {a_t_cooking : Nat} {a_t_cookingByStores : Nat} {a_t_input : Nat} {a_t_line : Nat} {a_t_book_low : Nat} {a_t_book_high : Nat} {a_t_book_storesIn : Nat} {a_t_book_texts : Nat} {a_t_book_cooked : Nat} {t_book_cauldrons : Int32} {t_book_isBroth : Nat → Int32} {t_book_contents_many : Nat → Int32} {t_book_contents_much : Nat → UInt32} {t_isSaved : Int32} {t_inputLength : Int32} {t_keptError : Int32} {t_boiledOver : Int32} {t_book_spells : Int32} {t_book_cookedSoFar : Int32} {t_book_storesSoFar : Int32} {o : Int32 × Int64} (h : g_X11_meanBits t_book_cauldrons t_book_isBroth t_book_contents_many t_book_contents_much = some o) (hP0 : va_P (dC, dI) vwCl [] Hh) (hR0 : va_P (dC, dI) vwCl [(a_t, .inr (14, [.ref a_t_book, .ref a_t_saved, .int t_isSaved, .ref a_t_history, .ref a_t_refusal, .ref a_t_reader, .ref a_t_typing, .ref a_t_typingByStores, .ref a_t_cooking, .ref a_t_cookingByStores, .ref a_t_input, .int t_inputLength, .int t_keptError, .ref a_t_line, .int t_boiledOver])), (a_t_book, .inr (4, [.int t_book_cauldrons, .ref a_t_book_isBroth, .ref a_t_book_low, .ref a_t_book_high, .ref a_t_book_contents, .ref a_t_book_storesIn, .int t_book_spells, .ref a_t_book_texts, .ref a_t_book_cooked, .int t_book_cookedSoFar, .int t_book_storesSoFar])), (a_t_book_isBroth, .inl (cT 1, 6, .inl t_book_isBroth)), (a_t_book_contents, .inr (5, [.ref a_t_book_contents_many, .ref a_t_book_contents_much])), (a_t_book_contents_many, .inl (cT 0, 6, .inl t_book_contents_many)), (a_t_book_contents_much, .inl (cT 4, 6, .inr (.inr (.inl t_book_contents_much))))] Hh) (hD0 : va_D (fun _ => True) []) (hN0 : ∀ (k : Nat) (q : Nat × va_E), ([(a_t, .inr (14, [.ref a_t_book, .ref a_t_saved, .int t_isSaved, .ref a_t_history, .ref a_t_refusal, .ref a_t_reader, .ref a_t_typing, .ref a_t_typingByStores, .ref a_t_cooking, .ref a_t_cookingByStores, .ref a_t_input, .int t_inputLength, .int t_keptError, .ref a_t_line, .int t_boiledOver])), (a_t_book, .inr (4, [.int t_book_cauldrons, .ref a_t_book_isBroth, .ref a_t_book_low, .ref a_t_book_high, .ref a_t_book_contents, .ref a_t_book_storesIn, .int t_book_spells, .ref a_t_book_texts, .ref a_t_book_cooked, .int t_book_cookedSoFar, .int t_book_storesSoFar])), (a_t_book_isBroth, .inl (cT 1, 6, .inl t_book_isBroth)), (a_t_book_contents, .inr (5, [.ref a_t_book_contents_many, .ref a_t_book_contents_much])), (a_t_book_contents_many, .inl (cT 0, 6, .inl t_book_contents_many)), (a_t_book_contents_much, .inl (cT 4, 6, .inr (.inr (.inl t_book_contents_much))))] : va_W)[k]? = some q → ¬ va_A [] Hh.size q.1) : vx_Met l yX11_meanBits (wA yX11_meanBits cX11_meanBits 4 (some .long)) ({ frames := 6, cells := 1, slots := 6, locals := 90 } : Room) (PX dC dI cT [.ref a_t] Hh (va_A [] Hh.size)) (QXL dC dI o.1 o.2 [] (va_A [] Hh.size)) (XX dC dI o.1 [] (va_A [] Hh.size)) 1 6 (va_A [] Hh.size) := by
  refine vx_ofW (cc := cX11_meanBits) (maxL := 4) (ret := (some .long)) (by decide) rfl ?_
  intro p e s m args below meth c s₁ B hml htab hv
  obtain ⟨rfl, hH, hK, hX⟩ := hv
  subst hH
  have hx := B.exec
  have hb := B.bytes
  have hr := B.returns
  have hta : ∀ w ∈ ALLW, w.before [.ref a_t].toArray s = true := fun w hw => atoms_spec (ws := wA yX11_meanBits cX11_meanBits 4 (some .long)) B.pre w (List.mem_cons_of_mem _ hw)
  have hown : s.vm.findClass RX11 = some m.cls := findClass_of_methodNamed B.named
  have hlocks := B.notSynchronized
  have hD := hD0.self (sz := s.heap.size)
  have hNA := hN0
  generalize hAe : va_A [] s.heap.size = A at hD hNA hX ⊢
  have hP := hP0
  have hA : ∀ q : Nat, s.heap.size ≤ q → A q := fun q h => by rw [← hAe]; exact Or.inr h
  have hS : va_S A s.heap s.heap [] := va_S.rf
  have hl := lv_entry [.ref a_t] (n := 4) (Nat.le_of_ble_eq_true rfl)
  rw [lg_entry_eq]
  generalize (lg_sl [.ref a_t] ++ List.replicate (4 - (lg_sl [.ref a_t]).length) Slot.unset).toArray = ls at hl ⊢
  have hl : lv_has ls 4 [(0, .ref a_t)] := hl
  obtain ⟨Q, hQ⟩ : ∃ Q, Q = vx_MQ below (QXL dC dI o.1 o.2 [] A) (XX dC dI o.1 [] A) [.ref a_t].toArray s 1 6 A := ⟨_, rfl⟩
  rw [← hQ]
  have wB_25 : ∀ (n_25 : Nat), ∀ (x1_25 : UInt64) (x3_25 : Int32) (H : Heap) (locs : List Loc) (ls : Array Slot), g_X11_meanBits_b25 t_book_cauldrons t_book_isBroth t_book_contents_many t_book_contents_much n_25 x1_25 x3_25 = some o → va_P (dC, dI) vwCl [] H → va_D A [] → va_S A s.heap H locs → lv_has ls 4 [(0, .ref a_t), (1, .double x1_25), (3, .int x3_25)] → W p l e ({ frames := 6, cells := 1, slots := 6, locals := 90 } : Room) s m [.ref a_t].toArray below meth c H locs 0 0 Q (F0 m 25 ls []) := by
    intro n_25
    induction n_25 with
    | zero =>
      intro x1_25 x3_25 H locs ls h hP hD hS hl
      simp [g_X11_meanBits_b25] at h
    | succ n_25 ih_25 =>
      have wB_83 : ∀ (x1_83 : UInt64) (x3_83 : Int32) (H : Heap) (locs : List Loc) (ls : Array Slot), g_X11_meanBits_b83 t_book_cauldrons t_book_isBroth t_book_contents_many t_book_contents_much (g_X11_meanBits_b25 t_book_cauldrons t_book_isBroth t_book_contents_many t_book_contents_much n_25) x1_83 x3_83 = some o → va_P (dC, dI) vwCl [] H → va_D A [] → va_S A s.heap H locs → lv_has ls 4 [(0, .ref a_t), (1, .double x1_83), (3, .int x3_83)] → W p l e ({ frames := 6, cells := 1, slots := 6, locals := 90 } : Room) s m [.ref a_t].toArray below meth c H locs 0 0 Q (F0 m 83 ls []) := by
        intro x1_83 x3_83 H locs ls h hP hD hS hl
        unfold g_X11_meanBits_b83 at h
        obtain ⟨v1, e_v1⟩ : ∃ y : Int32, y = x3_83 + 1 := ⟨_, rfl⟩
        have h := gl_use e_v1 h
        refine lv_iinc (v := v1) (lv' := [(3, .int v1), (0, .ref a_t), (1, .double x1_83)]) hx hb dX11_meanBits_83 hl (k := 2) rfl (by rw [e_v1]; rfl) (by decide) rfl (fun ls hl => ?_)
        refine lv_goto (tgt := 25) hx hb dX11_meanBits_86 (by decide) ?_
        exact ih_25 x1_83 v1 _ _ _ h hP hD hS (lv_sub hl [1, 2, 0] rfl)
      intro x1_25 x3_25 H locs ls h hP hD hS hl
      rw [g_X11_meanBits_b25] at h
      refine lv_iload_n hx hb dX11_meanBits_25 rfl (lv_at hl 2 rfl) ?_
      refine lv_aload_n hx hb dX11_meanBits_26 rfl (lv_at hl 0 rfl) ?_
      refine va_get (D := (dC, dI)) (ci := 14) (v := .ref a_t_book) (C := RX11) (T := TX11) (N := 15) hx hb hta inX11w hown hK (rk hR0 hNA hS) 0 rfl rfl 0 (by decide) (hta _ lk_X11_10) (fun _ h9 => h9) rfl dX11_meanBits_27 ?_
      refine va_get (D := (dC, dI)) (ci := 4) (v := .int t_book_cauldrons) (C := RX0) (T := TX0) (N := 11) hx hb hta inX0w hown hK (rk hR0 hNA hS) 1 rfl rfl 0 (by decide) (hta _ lk_X11_184) (fun _ h9 => h9) rfl dX11_meanBits_30 ?_
      refine lv_icmp_ge (tgt := 89) hx hb dX11_meanBits_33 (by decide) (fun c0 => ?_) (fun c0 => ?_)
      · have h := (if_pos c0).symm.trans h
        refine lv_dload_n hx hb dX11_meanBits_89 rfl (lv_at hl 1 rfl) ?_
        refine lv_aload_n hx hb dX11_meanBits_90 rfl (lv_at hl 0 rfl) ?_
        refine va_get (D := (dC, dI)) (ci := 14) (v := .ref a_t_book) (C := RX11) (T := TX11) (N := 15) hx hb hta inX11w hown hK (rk hR0 hNA hS) 0 rfl rfl 0 (by decide) (hta _ lk_X11_10) (fun _ h9 => h9) rfl dX11_meanBits_91 ?_
        refine va_get (D := (dC, dI)) (ci := 4) (v := .int t_book_cauldrons) (C := RX0) (T := TX0) (N := 11) hx hb hta inX0w hown hK (rk hR0 hNA hS) 1 rfl rfl 0 (by decide) (hta _ lk_X11_184) (fun _ h9 => h9) rfl dX11_meanBits_94 ?_
        refine lv_i2d hx hb dX11_meanBits_97 ?_
        obtain ⟨hc, h⟩ := gc_some h
        refine lv_ddiv hx hb dX11_meanBits_98 (n64_n hc) ?_
        obtain ⟨r2, hq, h⟩ := gb_some h
        refine crL (va_runS (As := [.double (FP.ddiv x1_25 (FP.i2d t_book_cauldrons))]) (rest := []) ⟨hx, hb, hml, hown, hta⟩ (c_X5_longBitsOf l dC dI cT hq) (cS hta lm_X11_353 md_X5_longBitsOf ⟨(Nat.le_of_ble_eq_true rfl), (Nat.le_of_ble_eq_true rfl)⟩) ⟨fbK, fun U hU hW => ⟨rfl, hU, va_K.moved hW.alike hK⟩⟩ rfl rfl hl.1 rfl (lv_room (Nat.le_of_ble_eq_true rfl)) dX11_meanBits_99 ⟨(Nat.le_of_ble_eq_true rfl), (Nat.le_of_ble_eq_true rfl)⟩) hS hA (fun locs hS => ?_)
        have ho := Option.some.inj h
        subst ho
        rw [hQ]
        refine W.widen (k := 1) (n := 6) (by omega) (by omega) ?_
        refine vx_ret ?_
        exact W.lret (v := r2) hx hb hr (fun t ht hW => ⟨⟨_, (), rfl, ⟨rfl, rfl⟩, by show va_P (dC, dI) vwCl _ t.heap; rw [ht]; exact hP⟩, hS.F ht⟩) hS.2.2 dX11_meanBits_102
      · have h := (if_neg c0).symm.trans h
        refine lv_aload_n hx hb dX11_meanBits_36 rfl (lv_at hl 0 rfl) ?_
        refine va_get (D := (dC, dI)) (ci := 14) (v := .ref a_t_book) (C := RX11) (T := TX11) (N := 15) hx hb hta inX11w hown hK (rk hR0 hNA hS) 0 rfl rfl 0 (by decide) (hta _ lk_X11_10) (fun _ h9 => h9) rfl dX11_meanBits_37 ?_
        refine va_get (D := (dC, dI)) (ci := 4) (v := .ref a_t_book_isBroth) (C := RX0) (T := TX0) (N := 11) hx hb hta inX0w hown hK (rk hR0 hNA hS) 1 rfl rfl 1 (by decide) (hta _ lk_X11_144) (fun _ h9 => h9) rfl dX11_meanBits_40 ?_
        refine lv_iload_n hx hb dX11_meanBits_43 rfl (lv_at hl 2 rfl) ?_
        obtain ⟨hc, h⟩ := gc_some h
        refine va_zald hx hb hK (rk hR0 hNA hS) 2 1 rfl rfl (inb_in hc) dX11_meanBits_44 ?_
        refine lv_if_eq (tgt := 67) hx hb dX11_meanBits_45 (by decide) (fun c0 => ?_) (fun c0 => ?_)
        · have h := (if_pos c0).symm.trans h
          refine lv_dload_n hx hb dX11_meanBits_67 rfl (lv_at hl 1 rfl) ?_
          refine lv_aload_n hx hb dX11_meanBits_68 rfl (lv_at hl 0 rfl) ?_
          refine va_get (D := (dC, dI)) (ci := 14) (v := .ref a_t_book) (C := RX11) (T := TX11) (N := 15) hx hb hta inX11w hown hK (rk hR0 hNA hS) 0 rfl rfl 0 (by decide) (hta _ lk_X11_10) (fun _ h9 => h9) rfl dX11_meanBits_69 ?_
          refine va_get (D := (dC, dI)) (ci := 4) (v := .ref a_t_book_contents) (C := RX0) (T := TX0) (N := 11) hx hb hta inX0w hown hK (rk hR0 hNA hS) 1 rfl rfl 4 (by decide) (hta _ lk_X11_129) (fun _ h9 => h9) rfl dX11_meanBits_72 ?_
          refine va_get (D := (dC, dI)) (ci := 5) (v := .ref a_t_book_contents_many) (C := RX1) (T := TX1) (N := 2) hx hb hta inX1w hown hK (rk hR0 hNA hS) 3 rfl rfl 0 (by decide) (hta _ lk_X11_133) (fun _ h9 => h9) rfl dX11_meanBits_75 ?_
          refine lv_iload_n hx hb dX11_meanBits_78 rfl (lv_at hl 2 rfl) ?_
          obtain ⟨hc, h⟩ := gc_some h
          refine va_iald hx hb hK (rk hR0 hNA hS) 4 0 rfl rfl (inb_in hc) dX11_meanBits_79 ?_
          refine lv_i2d hx hb dX11_meanBits_80 ?_
          obtain ⟨hc, h⟩ := gc_some h
          refine lv_dadd hx hb dX11_meanBits_81 (n64_n hc) ?_
          refine lv_topd (fun v3 e_v3 => ?_)
          have h := gl_use e_v3 h
          refine lv_dstore_n (lv' := [(1, .double v3), (0, .ref a_t), (3, .int x3_25)]) hx hb dX11_meanBits_82 rfl hl (by decide) rfl (fun ls hl => ?_)
          exact wB_83 v3 x3_25 _ _ _ h hP hD hS (lv_sub hl [1, 0, 2] rfl)
        · have h := (if_neg c0).symm.trans h
          refine lv_dload_n hx hb dX11_meanBits_48 rfl (lv_at hl 1 rfl) ?_
          refine lv_aload_n hx hb dX11_meanBits_49 rfl (lv_at hl 0 rfl) ?_
          refine va_get (D := (dC, dI)) (ci := 14) (v := .ref a_t_book) (C := RX11) (T := TX11) (N := 15) hx hb hta inX11w hown hK (rk hR0 hNA hS) 0 rfl rfl 0 (by decide) (hta _ lk_X11_10) (fun _ h9 => h9) rfl dX11_meanBits_50 ?_
          refine va_get (D := (dC, dI)) (ci := 4) (v := .ref a_t_book_contents) (C := RX0) (T := TX0) (N := 11) hx hb hta inX0w hown hK (rk hR0 hNA hS) 1 rfl rfl 4 (by decide) (hta _ lk_X11_129) (fun _ h9 => h9) rfl dX11_meanBits_53 ?_
          refine va_get (D := (dC, dI)) (ci := 5) (v := .ref a_t_book_contents_much) (C := RX1) (T := TX1) (N := 2) hx hb hta inX1w hown hK (rk hR0 hNA hS) 3 rfl rfl 1 (by decide) (hta _ lk_X11_150) (fun _ h9 => h9) rfl dX11_meanBits_56 ?_
          refine lv_iload_n hx hb dX11_meanBits_59 rfl (lv_at hl 2 rfl) ?_
          obtain ⟨hc, h⟩ := gc_some h
          refine va_fald hx hb hK (rk hR0 hNA hS) 5 4 rfl rfl (inb_in hc) dX11_meanBits_60 ?_
          obtain ⟨hc, h⟩ := gc_some h
          refine lv_f2d hx hb dX11_meanBits_61 (n64_n hc) ?_
          obtain ⟨hc, h⟩ := gc_some h
          refine lv_dadd hx hb dX11_meanBits_62 (n64_n hc) ?_
          refine lv_topd (fun v4 e_v4 => ?_)
          have h := gl_use e_v4 h
          refine lv_dstore_n (lv' := [(1, .double v4), (0, .ref a_t), (3, .int x3_25)]) hx hb dX11_meanBits_63 rfl hl (by decide) rfl (fun ls hl => ?_)
          refine lv_goto (tgt := 83) hx hb dX11_meanBits_64 (by decide) ?_
          exact wB_83 v4 x3_25 _ _ _ h hP hD hS (lv_sub hl [1, 0, 2] rfl)
  unfold g_X11_meanBits at h
  refine lv_aload_n hx hb dX11_meanBits_0 rfl (lv_at hl 0 rfl) ?_
  refine va_get (D := (dC, dI)) (ci := 14) (v := .ref a_t_book) (C := RX11) (T := TX11) (N := 15) hx hb hta inX11w hown hK (rk hR0 hNA hS) 0 rfl rfl 0 (by decide) (hta _ lk_X11_10) (fun _ h9 => h9) rfl dX11_meanBits_1 ?_
  refine va_get (D := (dC, dI)) (ci := 4) (v := .int t_book_cauldrons) (C := RX0) (T := TX0) (N := 11) hx hb hta inX0w hown hK (rk hR0 hNA hS) 1 rfl rfl 0 (by decide) (hta _ lk_X11_184) (fun _ h9 => h9) rfl dX11_meanBits_4 ?_
  refine lv_if_ne (tgt := 21) hx hb dX11_meanBits_7 (by decide) (fun c0 => ?_) (fun c0 => ?_)
  · have h := (if_neg c0).symm.trans h
    refine lv_dconst0 hx hb dX11_meanBits_21 ?_
    refine lv_dstore_n (lv' := [(1, .double FP.dconst0), (0, .ref a_t)]) hx hb dX11_meanBits_22 rfl hl (by decide) rfl (fun ls hl => ?_)
    refine lv_iconst (v := 0) hx hb dX11_meanBits_23 (by decide) ?_
    refine lv_istore_n (lv' := [(3, .int 0), (1, .double FP.dconst0), (0, .ref a_t)]) hx hb dX11_meanBits_24 rfl hl (by decide) rfl (fun ls hl => ?_)
    exact wB_25 100 FP.dconst0 0 _ _ _ h hP hD hS (lv_sub hl [2, 1, 0] rfl)
  · have h := (if_pos c0).symm.trans h
    have ho := Option.some.inj h
    subst ho
    rw [hQ]
    exact xthrowW hx hb hl9 hown hta hX xf_6 (List.mem_of_getElem? (i := 30) rfl) hS (hl.1.trans hml.symm) dX11_meanBits_10 dX11_meanBits_13 dX11_meanBits_14 dX11_meanBits_17 dX11_meanBits_20 htab (Nat.le_of_ble_eq_true rfl) (Nat.le_of_ble_eq_true rfl) (Nat.le_of_ble_eq_true rfl) (Nat.le_of_ble_eq_true rfl) hlocks hP (show (6 : Int32) ≠ 0 by decide) exn_6.symm (Nat.le_of_ble_eq_true rfl) (Nat.le_of_ble_eq_true rfl)
set_option maxHeartbeats 4000000 in
set_option maxRecDepth 100000 in
theorem c_X11_typedShare (l : Launch) (hl9 : l.stackTraces = false) (dC : Nat → ClassId) (dI : Nat → Nat → Nat) (cT : Nat → ClassId) {Hh : Heap} {sq : Nat → Nat → Nat} {a_t : Nat} {a_t_book : Nat} {a_t_book_texts : Nat} {a_t_typing : Nat} {a_t_book_isBroth : Nat} {a_t_book_low : Nat} {a_t_book_high : Nat} {a_t_typing_isBroth : Nat} {a_t_typing_low : Nat} {a_t_typing_high : Nat} {a_t_typing_storeIsBroth : Nat} {a_t_typing_storeLow : Nat} {a_t_typing_storeHigh : Nat} {a_t_saved : Nat} {a_t_history : Nat} {a_t_refusal : Nat} {a_t_reader : Nat} {a_t_typingByStores : Nat} {a_t_cooking : Nat} {a_t_cookingByStores : Nat} {a_t_input : Nat} {a_t_line : Nat} {a_t_book_contents : Nat} {a_t_book_storesIn : Nat} {a_t_book_cooked : Nat} {LS : List Nat} {SE : Nat → SV} {t_book_spells : Int32} {t_book_texts : Nat → Option Nat} {t_typing_faultAt : Int32} {t_typing_stores : Int32} {t_typing_spoons : Int32} {t_book_isBroth : Nat → Int32} {t_book_low : Nat → Int32} {t_book_high : Nat → Int32} {t_typing_isBroth : Nat → Int32} {t_typing_low : Nat → Int64} {t_typing_high : Nat → Int64} {t_typing_storeIsBroth : Nat → Int32} {t_typing_storeLow : Nat → Int64} {t_typing_storeHigh : Nat → Int64} {t_isSaved : Int32} {t_inputLength : Int32} {t_keptError : Int32} {t_boiledOver : Int32} {t_book_cauldrons : Int32} {t_book_cookedSoFar : Int32} {t_book_storesSoFar : Int32} {XW : va_W} (eX : XW = [(a_t_typing, .inr (12, [.int t_typing_faultAt, .int t_typing_stores, .ref a_t_typing_storeIsBroth, .ref a_t_typing_storeLow, .ref a_t_typing_storeHigh, .ref a_t_typing_isBroth, .ref a_t_typing_low, .ref a_t_typing_high, .int t_typing_spoons])), (a_t_typing_isBroth, .inl (cT 1, 5, .inl t_typing_isBroth)), (a_t_typing_low, .inl (cT 3, 5, .inr (.inl t_typing_low))), (a_t_typing_high, .inl (cT 3, 5, .inr (.inl t_typing_high))), (a_t_typing_storeIsBroth, .inl (cT 1, 24, .inl t_typing_storeIsBroth)), (a_t_typing_storeLow, .inl (cT 3, 24, .inr (.inl t_typing_storeLow))), (a_t_typing_storeHigh, .inl (cT 3, 24, .inr (.inl t_typing_storeHigh)))]) {o : Int32 × UInt32 × Int32 × Int32 × Int32 × (Nat → Int32) × (Nat → Int64) × (Nat → Int64) × (Nat → Int32) × (Nat → Int64) × (Nat → Int64)} (h : g_X11_typedShare LS SE t_book_spells t_book_texts t_typing_faultAt t_typing_stores t_typing_spoons t_book_isBroth t_book_low t_book_high t_typing_isBroth t_typing_low t_typing_high t_typing_storeIsBroth t_typing_storeLow t_typing_storeHigh = some o) (hP0 : va_P (dC, dI) vwCl XW Hh) (hR0 : va_P (dC, dI) vwCl [(a_t, .inr (14, [.ref a_t_book, .ref a_t_saved, .int t_isSaved, .ref a_t_history, .ref a_t_refusal, .ref a_t_reader, .ref a_t_typing, .ref a_t_typingByStores, .ref a_t_cooking, .ref a_t_cookingByStores, .ref a_t_input, .int t_inputLength, .int t_keptError, .ref a_t_line, .int t_boiledOver])), (a_t_book, .inr (4, [.int t_book_cauldrons, .ref a_t_book_isBroth, .ref a_t_book_low, .ref a_t_book_high, .ref a_t_book_contents, .ref a_t_book_storesIn, .int t_book_spells, .ref a_t_book_texts, .ref a_t_book_cooked, .int t_book_cookedSoFar, .int t_book_storesSoFar])), (a_t_book_texts, .inl (cT 7, 4, .inr (.inr (.inr (.inr t_book_texts))))), (a_t_book_isBroth, .inl (cT 1, 6, .inl t_book_isBroth)), (a_t_book_low, .inl (cT 0, 6, .inl t_book_low)), (a_t_book_high, .inl (cT 0, 6, .inl t_book_high))] Hh) (hD0 : va_D (fun _ => True) XW) (hN0 : ∀ (k : Nat) (q : Nat × va_E), ([(a_t, .inr (14, [.ref a_t_book, .ref a_t_saved, .int t_isSaved, .ref a_t_history, .ref a_t_refusal, .ref a_t_reader, .ref a_t_typing, .ref a_t_typingByStores, .ref a_t_cooking, .ref a_t_cookingByStores, .ref a_t_input, .int t_inputLength, .int t_keptError, .ref a_t_line, .int t_boiledOver])), (a_t_book, .inr (4, [.int t_book_cauldrons, .ref a_t_book_isBroth, .ref a_t_book_low, .ref a_t_book_high, .ref a_t_book_contents, .ref a_t_book_storesIn, .int t_book_spells, .ref a_t_book_texts, .ref a_t_book_cooked, .int t_book_cookedSoFar, .int t_book_storesSoFar])), (a_t_book_texts, .inl (cT 7, 4, .inr (.inr (.inr (.inr t_book_texts))))), (a_t_book_isBroth, .inl (cT 1, 6, .inl t_book_isBroth)), (a_t_book_low, .inl (cT 0, 6, .inl t_book_low)), (a_t_book_high, .inl (cT 0, 6, .inl t_book_high))] : va_W)[k]? = some q → ¬ va_A XW Hh.size q.1) (hSP : ∀ a ∈ LS, va_P (dC, dI) vwCl (spc cT sq SE a) Hh) (hSN : ∀ a ∈ LS, ∀ (k : Nat) (q : Nat × va_E), (spc cT sq SE a)[k]? = some q → ¬ va_A XW Hh.size q.1) : vx_Met l yX11_typedShare (wA yX11_typedShare cX11_typedShare 1 (some .float)) ({ frames := 6, cells := 1, slots := 6, locals := 145 } : Room) (PX dC dI cT [.ref a_t] Hh (va_A XW Hh.size)) (QXF dC dI o.1 o.2.1 [(a_t_typing, .inr (12, [.int o.2.2.1, .int o.2.2.2.1, .ref a_t_typing_storeIsBroth, .ref a_t_typing_storeLow, .ref a_t_typing_storeHigh, .ref a_t_typing_isBroth, .ref a_t_typing_low, .ref a_t_typing_high, .int o.2.2.2.2.1])), (a_t_typing_isBroth, .inl (cT 1, 5, .inl o.2.2.2.2.2.1)), (a_t_typing_low, .inl (cT 3, 5, .inr (.inl o.2.2.2.2.2.2.1))), (a_t_typing_high, .inl (cT 3, 5, .inr (.inl o.2.2.2.2.2.2.2.1))), (a_t_typing_storeIsBroth, .inl (cT 1, 24, .inl o.2.2.2.2.2.2.2.2.1)), (a_t_typing_storeLow, .inl (cT 3, 24, .inr (.inl o.2.2.2.2.2.2.2.2.2.1))), (a_t_typing_storeHigh, .inl (cT 3, 24, .inr (.inl o.2.2.2.2.2.2.2.2.2.2)))] (va_A XW Hh.size)) (XX dC dI o.1 [(a_t_typing, .inr (12, [.int o.2.2.1, .int o.2.2.2.1, .ref a_t_typing_storeIsBroth, .ref a_t_typing_storeLow, .ref a_t_typing_storeHigh, .ref a_t_typing_isBroth, .ref a_t_typing_low, .ref a_t_typing_high, .int o.2.2.2.2.1])), (a_t_typing_isBroth, .inl (cT 1, 5, .inl o.2.2.2.2.2.1)), (a_t_typing_low, .inl (cT 3, 5, .inr (.inl o.2.2.2.2.2.2.1))), (a_t_typing_high, .inl (cT 3, 5, .inr (.inl o.2.2.2.2.2.2.2.1))), (a_t_typing_storeIsBroth, .inl (cT 1, 24, .inl o.2.2.2.2.2.2.2.2.1)), (a_t_typing_storeLow, .inl (cT 3, 24, .inr (.inl o.2.2.2.2.2.2.2.2.2.1))), (a_t_typing_storeHigh, .inl (cT 3, 24, .inr (.inl o.2.2.2.2.2.2.2.2.2.2)))] (va_A XW Hh.size)) 1 6 (va_A XW Hh.size) := by
  subst eX
  refine vx_ofW (cc := cX11_typedShare) (maxL := 1) (ret := (some .float)) (by decide) rfl ?_
  intro p e s m args below meth c s₁ B hml htab hv
  obtain ⟨rfl, hH, hK, hX⟩ := hv
  subst hH
  have hx := B.exec
  have hb := B.bytes
  have hr := B.returns
  have hta : ∀ w ∈ ALLW, w.before [.ref a_t].toArray s = true := fun w hw => atoms_spec (ws := wA yX11_typedShare cX11_typedShare 1 (some .float)) B.pre w (List.mem_cons_of_mem _ hw)
  have hown : s.vm.findClass RX11 = some m.cls := findClass_of_methodNamed B.named
  have hlocks := B.notSynchronized
  have hD := hD0.self (sz := s.heap.size)
  have hNA := hN0
  generalize hAe : va_A [(a_t_typing, .inr (12, [.int t_typing_faultAt, .int t_typing_stores, .ref a_t_typing_storeIsBroth, .ref a_t_typing_storeLow, .ref a_t_typing_storeHigh, .ref a_t_typing_isBroth, .ref a_t_typing_low, .ref a_t_typing_high, .int t_typing_spoons])), (a_t_typing_isBroth, .inl (cT 1, 5, .inl t_typing_isBroth)), (a_t_typing_low, .inl (cT 3, 5, .inr (.inl t_typing_low))), (a_t_typing_high, .inl (cT 3, 5, .inr (.inl t_typing_high))), (a_t_typing_storeIsBroth, .inl (cT 1, 24, .inl t_typing_storeIsBroth)), (a_t_typing_storeLow, .inl (cT 3, 24, .inr (.inl t_typing_storeLow))), (a_t_typing_storeHigh, .inl (cT 3, 24, .inr (.inl t_typing_storeHigh)))] s.heap.size = A at hD hNA hSN hX ⊢
  have hP := hP0
  have hA : ∀ q : Nat, s.heap.size ≤ q → A q := fun q h => by rw [← hAe]; exact Or.inr h
  have hS : va_S A s.heap s.heap [] := va_S.rf
  have hl := lv_entry [.ref a_t] (n := 1) (Nat.le_of_ble_eq_true rfl)
  rw [lg_entry_eq]
  generalize (lg_sl [.ref a_t] ++ List.replicate (1 - (lg_sl [.ref a_t]).length) Slot.unset).toArray = ls at hl ⊢
  have hl : lv_has ls 1 [(0, .ref a_t)] := hl
  unfold g_X11_typedShare at h
  refine lv_aload_n hx hb dX11_typedShare_0 rfl (lv_at hl 0 rfl) ?_
  refine va_get (D := (dC, dI)) (ci := 14) (v := .ref a_t_book) (C := RX11) (T := TX11) (N := 15) hx hb hta inX11w hown hK (rk hR0 hNA hS) 0 rfl rfl 0 (by decide) (hta _ lk_X11_10) (fun _ h9 => h9) rfl dX11_typedShare_1 ?_
  refine va_get (D := (dC, dI)) (ci := 4) (v := .int t_book_spells) (C := RX0) (T := TX0) (N := 11) hx hb hta inX0w hown hK (rk hR0 hNA hS) 1 rfl rfl 6 (by decide) (hta _ lk_X11_179) (fun _ h9 => h9) rfl dX11_typedShare_4 ?_
  refine lv_if_ne (tgt := 21) hx hb dX11_typedShare_7 (by decide) (fun c0 => ?_) (fun c0 => ?_)
  · have h := (if_neg c0).symm.trans h
    refine lv_aload_n hx hb dX11_typedShare_21 rfl (lv_at hl 0 rfl) ?_
    obtain ⟨r1, hq, h⟩ := gb_some h
    refine cxI (X2 := [(a_t_typing, .inr (12, [.int r1.2.1, .int r1.2.2.1, .ref a_t_typing_storeIsBroth, .ref a_t_typing_storeLow, .ref a_t_typing_storeHigh, .ref a_t_typing_isBroth, .ref a_t_typing_low, .ref a_t_typing_high, .int r1.2.2.2.1])), (a_t_typing_isBroth, .inl (cT 1, 5, .inl r1.2.2.2.2.1)), (a_t_typing_low, .inl (cT 3, 5, .inr (.inl r1.2.2.2.2.2.1))), (a_t_typing_high, .inl (cT 3, 5, .inr (.inl r1.2.2.2.2.2.2.1))), (a_t_typing_storeIsBroth, .inl (cT 1, 24, .inl r1.2.2.2.2.2.2.2.1)), (a_t_typing_storeLow, .inl (cT 3, 24, .inr (.inl r1.2.2.2.2.2.2.2.2.1))), (a_t_typing_storeHigh, .inl (cT 3, 24, .inr (.inl r1.2.2.2.2.2.2.2.2.2)))]) (va_runV (As := []) (rest := []) ⟨hx, hb, hml, hown, hta⟩ (c_X11_countTyped l dC dI cT rfl hq (hP.sub (ws' := [(a_t_typing, .inr (12, [.int t_typing_faultAt, .int t_typing_stores, .ref a_t_typing_storeIsBroth, .ref a_t_typing_storeLow, .ref a_t_typing_storeHigh, .ref a_t_typing_isBroth, .ref a_t_typing_low, .ref a_t_typing_high, .int t_typing_spoons])), (a_t_typing_isBroth, .inl (cT 1, 5, .inl t_typing_isBroth)), (a_t_typing_low, .inl (cT 3, 5, .inr (.inl t_typing_low))), (a_t_typing_high, .inl (cT 3, 5, .inr (.inl t_typing_high))), (a_t_typing_storeIsBroth, .inl (cT 1, 24, .inl t_typing_storeIsBroth)), (a_t_typing_storeLow, .inl (cT 3, 24, .inr (.inl t_typing_storeLow))), (a_t_typing_storeHigh, .inl (cT 3, 24, .inr (.inl t_typing_storeHigh)))]) [0, 1, 2, 3, 4, 5, 6] rfl) ((va_P.app hP (rk hR0 hNA hS)).sub (ws' := [(a_t, .inr (14, [.ref a_t_book, .ref a_t_saved, .int t_isSaved, .ref a_t_history, .ref a_t_refusal, .ref a_t_reader, .ref a_t_typing, .ref a_t_typingByStores, .ref a_t_cooking, .ref a_t_cookingByStores, .ref a_t_input, .int t_inputLength, .int t_keptError, .ref a_t_line, .int t_boiledOver])), (a_t_book, .inr (4, [.int t_book_cauldrons, .ref a_t_book_isBroth, .ref a_t_book_low, .ref a_t_book_high, .ref a_t_book_contents, .ref a_t_book_storesIn, .int t_book_spells, .ref a_t_book_texts, .ref a_t_book_cooked, .int t_book_cookedSoFar, .int t_book_storesSoFar])), (a_t_book_texts, .inl (cT 7, 4, .inr (.inr (.inr (.inr t_book_texts))))), (a_t_book_isBroth, .inl (cT 1, 6, .inl t_book_isBroth)), (a_t_book_low, .inl (cT 0, 6, .inl t_book_low)), (a_t_book_high, .inl (cT 0, 6, .inl t_book_high))]) [7, 8, 9, 10, 11, 12] rfl) (ds hD [0, 1, 2, 3, 4, 5, 6] (by decide) rfl) (nac hP hD [0, 1, 2, 3, 4, 5, 6] rfl (va_free hD hS hA [0, 1, 2, 3, 4, 5, 6] rfl) hNA [.inl 0, .inl 1, .inl 2, .inl 3, .inl 4, .inl 5] rfl rfl) (sq := sq) (hSP := (fun a9 ha9 => rk (hSP a9 ha9) (hSN a9 ha9) hS)) (hSN := fun a9 ha9 k9 q9 hk9 hq9 => hSN a9 ha9 k9 q9 hk9 (va_free hD hS hA [0, 1, 2, 3, 4, 5, 6] rfl q9.1 hq9))) (cV hta lm_X11_163 md_X11_countTyped ⟨(Nat.le_of_ble_eq_true rfl), (Nat.le_of_ble_eq_true rfl)⟩) ⟨fbK, va_recv hK (rk hR0 hNA hS) (ci := 14) (q0 := 0) rfl rfl, fun U hU hW => ⟨rfl, hU, va_K.moved hW.alike hK⟩⟩ rfl rfl hl.1 rfl (lv_room (Nat.le_of_ble_eq_true rfl)) dX11_typedShare_22 ⟨(Nat.le_of_ble_eq_true rfl), (Nat.le_of_ble_eq_true rfl)⟩) hS hA hP hD [0, 1, 2, 3, 4, 5, 6] rfl [.inl 0, .inl 1, .inl 2, .inl 3, .inl 4, .inl 5, .inl 6] rfl rfl rfl (fun H locs hP hD hS => ?_)
    refine lv_i2f hx hb dX11_typedShare_25 ?_
    refine lv_aload_n hx hb dX11_typedShare_26 rfl (lv_at hl 0 rfl) ?_
    refine va_get (D := (dC, dI)) (ci := 14) (v := .ref a_t_book) (C := RX11) (T := TX11) (N := 15) hx hb hta inX11w hown hK (rk hR0 hNA hS) 0 rfl rfl 0 (by decide) (hta _ lk_X11_10) (fun _ h9 => h9) rfl dX11_typedShare_27 ?_
    refine va_get (D := (dC, dI)) (ci := 4) (v := .int t_book_spells) (C := RX0) (T := TX0) (N := 11) hx hb hta inX0w hown hK (rk hR0 hNA hS) 1 rfl rfl 6 (by decide) (hta _ lk_X11_179) (fun _ h9 => h9) rfl dX11_typedShare_30 ?_
    refine lv_i2f hx hb dX11_typedShare_33 ?_
    obtain ⟨hc, h⟩ := gc_some h
    refine lv_fdiv hx hb dX11_typedShare_34 (n32_n hc) ?_
    refine lv_topf (fun v2 e_v2 => ?_)
    have h := gl_use e_v2 h
    have ho := Option.some.inj h
    subst ho
    refine W.widen (k := 1) (n := 6) (by omega) (by omega) ?_
    refine vx_ret ?_
    exact W.fret (v := v2) hx hb hr (fun t ht hW => ⟨⟨_, (), rfl, ⟨rfl, rfl⟩, by show va_P (dC, dI) vwCl _ t.heap; rw [ht]; exact hP⟩, hS.F ht⟩) hS.2.2 dX11_typedShare_35
  · have h := (if_pos c0).symm.trans h
    have ho := Option.some.inj h
    subst ho
    exact xthrowW hx hb hl9 hown hta hX xf_6 (List.mem_of_getElem? (i := 23) rfl) hS (hl.1.trans hml.symm) dX11_typedShare_10 dX11_typedShare_13 dX11_typedShare_14 dX11_typedShare_17 dX11_typedShare_20 htab (Nat.le_of_ble_eq_true rfl) (Nat.le_of_ble_eq_true rfl) (Nat.le_of_ble_eq_true rfl) (Nat.le_of_ble_eq_true rfl) hlocks hP (show (6 : Int32) ≠ 0 by decide) exn_6.symm (Nat.le_of_ble_eq_true rfl) (Nat.le_of_ble_eq_true rfl)
