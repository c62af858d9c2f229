/-! character (gen/tells.py) -/
abbrev PXS (dC : Nat → ClassId) (dI : Nat → Nat → Nat) (cT : Nat → ClassId) (av : List Value) (Hh : Heap) (A : Nat → Prop) : Array Value → State → Prop := va_Pc av (fun U => U.heap = Hh ∧ va_K (dC, dI) vwCl (TYS cT) U ∧ XS A U ∧ ZS A U)
theorem fbXS {dC : Nat → ClassId} {dI : Nat → Nat → Nat} {cT : Nat → ClassId} {av : List Value} {Hh : Heap} {A : Nat → Prop} : FrameBlind (PXS dC dI cT av Hh A) := fun a U g mk q => ⟨q.1, q.2.1, va_K.moved (u := U) (U := U.calling g mk a) (Vm.Alike.refl U.vm) q.2.2.1, XS.same (u := U) (U := U.calling g mk a) rfl rfl q.2.2.2.1, ZS.same (u := U) (U := U.calling g mk a) rfl rfl q.2.2.2.2⟩
set_option maxHeartbeats 4000000 in
set_option maxRecDepth 100000 in
theorem c_X11_character (l : Launch) (hl9 : l.stackTraces = false) (dC : Nat → ClassId) (dI : Nat → Nat → Nat) (cT : Nat → ClassId) {Hh : Heap} {a_t : Nat} {a_t_book : Nat} {a_t_saved : Nat} {t_isSaved : Int32} {a_t_history : Nat} {a_t_refusal : Nat} {a_t_reader : Nat} {a_t_typing : Nat} {a_t_typingByStores : Nat} {a_t_cooking : Nat} {a_t_cookingByStores : Nat} {a_t_input : Nat} {t_inputLength : Int32} {t_keptError : Int32} {a_t_line : Nat} {t_boiledOver : Int32} {a_v n cap : Nat} {mL : Int32} {f : Nat → Int32} {p1 code r : Int32} (hn : n ≤ cap) (hcap : CAP cap) (hc : (p1 < 0 ∧ code = 3) ∨ (0 ≤ p1 ∧ nI n ≤ p1 ∧ code = 3) ∨ (∃ k, k < n ∧ p1 = nI k ∧ code = 0 ∧ r = ((f (nI k).toNatClampNeg &&& 255).toUInt32 % 65536).toInt32)) {XW : va_W} (eX : XW = [(a_t, .inr (14, [.ref a_t_book, .ref a_t_saved, .int t_isSaved, .ref a_t_history, .ref a_t_refusal, .ref a_t_reader, .ref a_t_typing, .ref a_t_typingByStores, .ref a_t_cooking, .ref a_t_cookingByStores, .ref a_t_input, .int t_inputLength, .int t_keptError, .ref a_t_line, .int t_boiledOver])), (a_t_line, .inr (1, [.ref a_v, .int 0, .int mL, .int (nI n)])), (a_v, .inl (cT 6, cap, .inl f))]) (hP0 : va_P (dC, dI) vwCl XW Hh) (hD0 : va_D (fun _ => True) XW) : vx_Met l yX11_character (wA yX11_character cX11_character 2 (some .char)) ({ frames := 6, cells := 1, slots := 6, locals := 90 } : Room) (PXS dC dI cT [.ref a_t, .int p1] Hh (va_A XW Hh.size)) (QXI dC dI code r [(a_t, .inr (14, [.ref a_t_book, .ref a_t_saved, .int t_isSaved, .ref a_t_history, .ref a_t_refusal, .ref a_t_reader, .ref a_t_typing, .ref a_t_typingByStores, .ref a_t_cooking, .ref a_t_cookingByStores, .ref a_t_input, .int t_inputLength, .int t_keptError, .ref a_t_line, .int t_boiledOver])), (a_t_line, .inr (1, [.ref a_v, .int 0, .int mL, .int (nI n)])), (a_v, .inl (cT 6, cap, .inl f))] (va_A XW Hh.size)) (XX dC dI code [(a_t, .inr (14, [.ref a_t_book, .ref a_t_saved, .int t_isSaved, .ref a_t_history, .ref a_t_refusal, .ref a_t_reader, .ref a_t_typing, .ref a_t_typingByStores, .ref a_t_cooking, .ref a_t_cookingByStores, .ref a_t_input, .int t_inputLength, .int t_keptError, .ref a_t_line, .int t_boiledOver])), (a_t_line, .inr (1, [.ref a_v, .int 0, .int mL, .int (nI n)])), (a_v, .inl (cT 6, cap, .inl f))] (va_A XW Hh.size)) 1 6 (va_A XW Hh.size) := by
  subst eX
  refine vx_ofW (cc := cX11_character) (maxL := 2) (ret := (some .char)) (by decide) rfl ?_
  intro p e s m args below meth c s₁ B hml htab hv
  obtain ⟨rfl, hH, hK, hX, hZ⟩ := hv
  subst hH
  have hx := B.exec
  have hb := B.bytes
  have hr := B.returns
  have hta : ∀ w9 ∈ ALLW, w9.before [.ref a_t, .int p1].toArray s = true := fun w9 hw9 => atoms_spec (ws := wA yX11_character cX11_character 2 (some .char)) B.pre w9 (List.mem_cons_of_mem _ hw9)
  have hown : s.vm.findClass RX11 = some m.cls := findClass_of_methodNamed B.named
  have hlocks := B.notSynchronized
  have hD := hD0.self (sz := s.heap.size)
  have hP := hP0
  generalize hAe : va_A [(a_t, .inr (14, [.ref a_t_book, .ref a_t_saved, .int t_isSaved, .ref a_t_history, .ref a_t_refusal, .ref a_t_reader, .ref a_t_typing, .ref a_t_typingByStores, .ref a_t_cooking, .ref a_t_cookingByStores, .ref a_t_input, .int t_inputLength, .int t_keptError, .ref a_t_line, .int t_boiledOver])), (a_t_line, .inr (1, [.ref a_v, .int 0, .int mL, .int (nI n)])), (a_v, .inl (cT 6, cap, .inl f))] s.heap.size = A at hD hX hZ ⊢
  have hA : ∀ q : Nat, s.heap.size ≤ q → A q := fun q h => by rw [← hAe]; exact Or.inr h
  have hS : va_S A s.heap s.heap [] := va_S.rf
  have hl := lv_entry [.ref a_t, .int p1] (n := 2) (Nat.le_of_ble_eq_true rfl)
  rw [lg_entry_eq]
  generalize (lg_sl [.ref a_t, .int p1] ++ List.replicate (2 - (lg_sl [.ref a_t, .int p1]).length) Slot.unset).toArray = ls at hl ⊢
  have hl : lv_has ls 2 [(0, .ref a_t), (1, .int p1)] := hl
  rcases hc with ⟨h1, rfl⟩ | ⟨h1, h2, rfl⟩ | ⟨k, hk, rfl, rfl, rfl⟩
  · refine lv_iload_n hx hb dX11_character_0 rfl (lv_at hl 1 rfl) ?_
    refine lv_if_lt (tgt := 15) hx hb dX11_character_1 (by decide) (fun c0 => ?_) (fun c0 => ?_)
    · clear c0
      exact xthrowNW hx hb hl9 hown hta hX xf_3 (List.mem_of_getElem? (i := 15) rfl) hS (hl.1.trans hml.symm) dX11_character_15 dX11_character_18 dX11_character_19 dX11_character_22 dX11_character_25 htab (Nat.le_of_ble_eq_true rfl) (Nat.le_of_ble_eq_true rfl) (Nat.le_of_ble_eq_true rfl) (Nat.le_of_ble_eq_true rfl) hlocks hP (show (3 : Int32) ≠ 0 by decide) exn_3.symm (Nat.le_of_ble_eq_true rfl) (Nat.le_of_ble_eq_true rfl)
    · exact absurd (h1) c0
  · refine lv_iload_n hx hb dX11_character_0 rfl (lv_at hl 1 rfl) ?_
    refine lv_if_lt (tgt := 15) hx hb dX11_character_1 (by decide) (fun c0 => ?_) (fun c0 => ?_)
    · exact absurd c0 (Int32.not_lt.mpr h1)
    · clear c0
      refine lv_iload_n hx hb dX11_character_4 rfl (lv_at hl 1 rfl) ?_
      refine lv_aload_n hx hb dX11_character_5 rfl (lv_at hl 0 rfl) ?_
      refine va_get (D := (dC, dI)) (ci := 14) (v := .ref a_t_line) (C := RX11) (T := TX11) (N := 15) hx hb hta inX11w hown hK hP 0 rfl rfl 13 (by decide) (hta _ lk_X11_86) (fun _ h9 => h9) rfl dX11_character_6 ?_
      refine crI (va_runV (As := []) (rest := [.int p1]) ⟨hx, hb, hml, hown, hta⟩ (cJ_length l dC dI cT rfl (hP.sub (ws' := [(a_t_line, .inr (1, [.ref a_v, .int 0, .int mL, .int (nI n)]))]) [1] rfl)) (cV hta lm_X11_336 md_J4_length_8abf5 ⟨Nat.le_of_ble_eq_true rfl, Nat.le_of_ble_eq_true rfl⟩) ⟨fbJ, va_recv hK hP (ci := 1) (q0 := 1) rfl rfl, fun U hU hW => ⟨rfl, hU, va_K.moved hW.alike hK, ZS.call hZ hS hU hW (frA hS hA)⟩⟩ rfl rfl hl.1 rfl (lv_room (Nat.le_of_ble_eq_true rfl)) dX11_character_9 ⟨Nat.le_of_ble_eq_true rfl, Nat.le_of_ble_eq_true rfl⟩) hS hA (fun locs hS => ?_)
      refine lv_icmp_lt (tgt := 26) hx hb dX11_character_12 (by decide) (fun c0 => ?_) (fun c0 => ?_)
      · exact absurd c0 (Int32.not_lt.mpr h2)
      · clear c0
        exact xthrowNW hx hb hl9 hown hta hX xf_3 (List.mem_of_getElem? (i := 15) rfl) hS (hl.1.trans hml.symm) dX11_character_15 dX11_character_18 dX11_character_19 dX11_character_22 dX11_character_25 htab (Nat.le_of_ble_eq_true rfl) (Nat.le_of_ble_eq_true rfl) (Nat.le_of_ble_eq_true rfl) (Nat.le_of_ble_eq_true rfl) hlocks hP (show (3 : Int32) ≠ 0 by decide) exn_3.symm (Nat.le_of_ble_eq_true rfl) (Nat.le_of_ble_eq_true rfl)
  · have h70 := hcap.le
    refine lv_iload_n hx hb dX11_character_0 rfl (lv_at hl 1 rfl) ?_
    refine lv_if_lt (tgt := 15) hx hb dX11_character_1 (by decide) (fun c0 => ?_) (fun c0 => ?_)
    · exact absurd c0 (nI_pos (by omega))
    · clear c0
      refine lv_iload_n hx hb dX11_character_4 rfl (lv_at hl 1 rfl) ?_
      refine lv_aload_n hx hb dX11_character_5 rfl (lv_at hl 0 rfl) ?_
      refine va_get (D := (dC, dI)) (ci := 14) (v := .ref a_t_line) (C := RX11) (T := TX11) (N := 15) hx hb hta inX11w hown hK hP 0 rfl rfl 13 (by decide) (hta _ lk_X11_86) (fun _ h9 => h9) rfl dX11_character_6 ?_
      refine crI (va_runV (As := []) (rest := [.int (nI k)]) ⟨hx, hb, hml, hown, hta⟩ (cJ_length l dC dI cT rfl (hP.sub (ws' := [(a_t_line, .inr (1, [.ref a_v, .int 0, .int mL, .int (nI n)]))]) [1] rfl)) (cV hta lm_X11_336 md_J4_length_8abf5 ⟨Nat.le_of_ble_eq_true rfl, Nat.le_of_ble_eq_true rfl⟩) ⟨fbJ, va_recv hK hP (ci := 1) (q0 := 1) rfl rfl, fun U hU hW => ⟨rfl, hU, va_K.moved hW.alike hK, ZS.call hZ hS hU hW (frA hS hA)⟩⟩ rfl rfl hl.1 rfl (lv_room (Nat.le_of_ble_eq_true rfl)) dX11_character_9 ⟨Nat.le_of_ble_eq_true rfl, Nat.le_of_ble_eq_true rfl⟩) hS hA (fun locs hS => ?_)
      refine lv_icmp_lt (tgt := 26) hx hb dX11_character_12 (by decide) (fun c0 => ?_) (fun c0 => ?_)
      · clear c0
        refine lv_aload_n hx hb dX11_character_26 rfl (lv_at hl 0 rfl) ?_
        refine va_get (D := (dC, dI)) (ci := 14) (v := .ref a_t_line) (C := RX11) (T := TX11) (N := 15) hx hb hta inX11w hown hK hP 0 rfl rfl 13 (by decide) (hta _ lk_X11_86) (fun _ h9 => h9) rfl dX11_character_27 ?_
        refine lv_iload_n hx hb dX11_character_30 rfl (lv_at hl 1 rfl) ?_
        refine crI (va_runV (As := [.int (nI k)]) (rest := []) ⟨hx, hb, hml, hown, hta⟩ (cJ_charAt l dC dI cT hk hn hcap rfl (hP.sub (ws' := [(a_t_line, .inr (1, [.ref a_v, .int 0, .int mL, .int (nI n)])), (a_v, .inl (cT 6, cap, .inl f))]) [1, 2] rfl)) (cV hta lm_X11_344 md_J4_charAt_5068e ⟨Nat.le_of_ble_eq_true rfl, Nat.le_of_ble_eq_true rfl⟩) ⟨fbJ, va_recv hK hP (ci := 1) (q0 := 1) rfl rfl, fun U hU hW => ⟨rfl, hU, va_K.moved hW.alike hK, ZS.call hZ hS hU hW (frA hS hA)⟩⟩ rfl rfl hl.1 rfl (lv_room (Nat.le_of_ble_eq_true rfl)) dX11_character_31 ⟨Nat.le_of_ble_eq_true rfl, Nat.le_of_ble_eq_true rfl⟩) hS hA (fun locs hS => ?_)
        refine W.widen (k := 1) (n := 6) (Nat.le_of_ble_eq_true rfl) (Nat.le_of_ble_eq_true rfl) ?_
        refine vx_ret ?_
        exact W.zret (ty := .char) (v := ((f (nI k).toNatClampNeg &&& 255).toUInt32 % 65536).toInt32) hx hb hr (pk_nc _) (fun t ht hW => ⟨⟨_, (), rfl, ⟨rfl, rfl⟩, by show va_P (dC, dI) vwCl _ t.heap; rw [ht]; exact hP⟩, hS.F ht⟩) hS.2.2 dX11_character_34
      · exact absurd (nI_lt hk (by omega)) c0
