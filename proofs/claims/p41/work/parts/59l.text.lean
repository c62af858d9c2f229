/-! TEXT: append(int), constructors (gen/texts.py) -/
def API (n : Nat) (ds : List Nat) (f : Nat → Int32) (u : BU) : Prop := n + ds.length ≤ u.2.1 ∧ CAP u.2.1 ∧ (∀ j, j < n → u.2.2.1 j = f j) ∧ (∀ i, i < ds.length → u.2.2.1 (n + i) = nI (ds.getD i 0)) ∧ BF u.2.2.1
theorem api_of {n cap q : Nat} {ds : List Nat} {f g : Nat → Int32} {mL : Int32} {u : BU} (hu : ENS q cap f mL u) (hq : q = n + ds.length) (hn : n ≤ cap) (hg : GD n 0 ds u.2.2.1 g) : API n ds f (u.1, u.2.1, g, u.2.2.2) := by
  subst hq
  exact ⟨hu.1, hu.2.2.1, fun j hj => (hg.1 j hj).trans (hu.2.2.2.1 j (by omega)), fun i hi => hg.2.1 i (Nat.zero_le _) hi, hg.2.2⟩
set_option maxHeartbeats 4000000 in
set_option maxRecDepth 100000 in
theorem cJ_appI5 (l : Launch) (dC : Nat → ClassId) (dI : Nat → Nat → Nat) (cT : Nat → ClassId) {Hh : Heap} {neg : Bool} {w : Nat} {a_t a_v n cap : Nat} {mL : Int32} {f : Nat → Int32} (hw : w < 10000) (hn : neg = true → 0 < w) (hq : n + (dl neg w).length ≤ cap) (hcap : CAP cap) (hff : BF f) {XW : va_W} (eX : XW = [(a_t, .inr (1, [.ref a_v, .int 0, .int mL, .int (nI n)])), (a_v, .inl (cT 6, cap, .inl f))]) (hP0 : va_P (dC, dI) vwCl XW Hh) (hD0 : va_D (fun _ => True) XW) : Met l yJ5_append_c97b9 (wA yJ5_append_c97b9 cJ5_append_c97b9 4 (some (.object "java/lang/AbstractStringBuilder"))) ({ frames := 4, cells := 1, slots := 70, locals := 91 } : Room) (PJ dC dI cT [.ref a_t, .int (SG neg w)] Hh (va_A XW Hh.size)) (va_Qq (S := BU) (fun r u => r = some a_t ∧ API n (dl neg w) f u) (fun u t => va_P (dC, dI) vwCl (BW cT a_t (n + (dl neg w).length) u) t.heap ∧ va_D (va_A XW Hh.size) (BW cT a_t (n + (dl neg w).length) u)) (va_A XW Hh.size)) 1 70 (va_A XW Hh.size) := by
  subst eX
  refine MofWF (cc := cJ5_append_c97b9) (maxL := 4) (ret := (some (.object "java/lang/AbstractStringBuilder"))) (by decide +kernel) rfl ?_
  intro p e s m args below meth c s₁ B hml hv
  obtain ⟨rfl, hH, hK, hZ⟩ := hv
  subst hH
  have hx := B.exec
  have hb := B.bytes
  have hr := B.returns
  have hta : ∀ w9 ∈ ALLW, w9.before [.ref a_t, .int (SG neg w)].toArray s = true := fun w9 hw9 => atoms_spec (ws := wA yJ5_append_c97b9 cJ5_append_c97b9 4 (some (.object "java/lang/AbstractStringBuilder"))) B.pre w9 (List.mem_cons_of_mem _ hw9)
  have hown : s.vm.findClass RJ5 = some m.cls := findClass_of_methodNamed B.named
  have hlocks := B.notSynchronized
  have hin : meth.name = "append" := (name_of_methodNamed B.named B.method).1
  have hD := hD0.self (sz := s.heap.size)
  have hP := hP0
  generalize hAe : va_A [(a_t, .inr (1, [.ref a_v, .int 0, .int mL, .int (nI n)])), (a_v, .inl (cT 6, cap, .inl f))] s.heap.size = A at hD hZ ⊢
  have hA : ∀ q : Nat, s.heap.size ≤ q → A q := fun q h => by rw [← hAe]; exact Or.inr h
  have hS : va_S A s.heap s.heap [] := va_S.rf
  have hl := lv_entry [.ref a_t, .int (SG neg w)] (n := 4) (Nat.le_of_ble_eq_true rfl)
  rw [lg_entry_eq]
  generalize (lg_sl [.ref a_t, .int (SG neg w)] ++ List.replicate (4 - (lg_sl [.ref a_t, .int (SG neg w)]).length) Slot.unset).toArray = ls at hl ⊢
  have hl : lv_has ls 4 [(0, .ref a_t), (1, .int (SG neg w))] := hl
  refine lv_aload_n hx hb dJ5_append_c97b9_0 rfl (lv_at hl 0 rfl) ?_
  refine va_get (D := (dC, dI)) (ci := 1) (v := .int (nI n)) (C := RJ4) (T := TJ4) (N := 4) hx hb hta inJ4w hown hK hP 0 rfl rfl 3 (by decide) (hta _ lk_J5_79) (fun _ h9 => h9) rfl dJ5_append_c97b9_1 ?_
  refine lv_istore_n (lv' := [(2, .int (nI n)), (0, .ref a_t), (1, .int (SG neg w))]) hx hb dJ5_append_c97b9_4 rfl hl (by decide) rfl (fun ls hl => ?_)
  refine lv_iload_n hx hb dJ5_append_c97b9_5 rfl (lv_at hl 0 rfl) ?_
  refine lv_iload_n hx hb dJ5_append_c97b9_6 rfl (lv_at hl 2 rfl) ?_
  refine crI (va_runS (As := [.int (SG neg w)]) (rest := [.int (nI n)]) ⟨hx, hb, hml, hown, hta⟩ (cJ_size l dC dI cT hw hn) (cS hta lm_J5_245 md_J6_stringSize_0f7a4 ⟨Nat.le_of_ble_eq_true rfl, Nat.le_of_ble_eq_true rfl⟩) ⟨fbJ, fun U hU hW => ⟨rfl, hU, va_K.moved hW.alike hK, ZS.call hZ hS hU hW (frA hS hA)⟩⟩ rfl rfl hl.1 rfl (lv_room (Nat.le_of_ble_eq_true rfl)) dJ5_append_c97b9_7 ⟨Nat.le_of_ble_eq_true rfl, Nat.le_of_ble_eq_true rfl⟩) hS hA (fun locs hS => ?_)
  refine lv_iadd hx hb dJ5_append_c97b9_10 ?_
  refine lv_topi (fun v1 e_v1 => ?_)
  have e9 : v1 = (nI (n + (dl neg w).length)) := e_v1.trans (nI_add n _)
  subst e9
  refine lv_istore_n (lv' := [(3, .int (nI (n + (dl neg w).length))), (2, .int (nI n)), (0, .ref a_t), (1, .int (SG neg w))]) hx hb dJ5_append_c97b9_11 rfl hl (by decide) rfl (fun ls hl => ?_)
  refine lv_aload_n hx hb dJ5_append_c97b9_12 rfl (lv_at hl 2 rfl) ?_
  refine lv_iload_n hx hb dJ5_append_c97b9_13 rfl (lv_at hl 0 rfl) ?_
  refine cjV (wr := []) (va_runV (As := [.int (nI (n + (dl neg w).length))]) (rest := []) ⟨hx, hb, hml, hown, hta⟩ (cJ_ens l dC dI cT (Or.inl hq) hcap hff rfl (hP.sub (ws' := [(a_t, .inr (1, [.ref a_v, .int 0, .int mL, .int (nI n)])), (a_v, .inl (cT 6, cap, .inl f))]) [0, 1] rfl) (ds hD [0, 1] (by decide) rfl)) (cVP hZ.2.2.2.2.1 hta lm_J5_100 mp_J5_ensureCapacityInternal_d00df ⟨Nat.le_of_ble_eq_true rfl, Nat.le_of_ble_eq_true rfl⟩) ⟨fbJ, va_recv hK hP (ci := 1) (q0 := 0) rfl rfl, fun U hU hW => ⟨rfl, hU, va_K.moved hW.alike hK, ZS.call hZ hS hU hW (va_free hD hS hA [0, 1] rfl)⟩⟩ rfl rfl hl.1 rfl (lv_room (Nat.le_of_ble_eq_true rfl)) dJ5_append_c97b9_14 ⟨Nat.le_of_ble_eq_true rfl, Nat.le_of_ble_eq_true rfl⟩) hS hA hP hD [0, 1] [] rfl rfl (by decide) (by decide) (fun u14 H locs hu14 hP hD hS => ?_)
  have hP : va_P (dC, dI) vwCl [(a_t, .inr (1, [.ref u14.1, .int 0, .int u14.2.2.2, .int (nI n)])), (u14.1, .inl (cT 6, u14.2.1, .inl u14.2.2.1))] H := hP
  have hD : va_D A [(a_t, .inr (1, [.ref u14.1, .int 0, .int u14.2.2.2, .int (nI n)])), (u14.1, .inl (cT 6, u14.2.1, .inl u14.2.2.1))] := hD
  refine lv_aload_n hx hb dJ5_append_c97b9_17 rfl (lv_at hl 2 rfl) ?_
  refine crI (va_runV (As := []) (rest := []) ⟨hx, hb, hml, hown, hta⟩ (cJ_lat l dC dI cT rfl (hP.sub (ws' := [(a_t, .inr (1, [.ref u14.1, .int 0, .int u14.2.2.2, .int (nI n)]))]) [0] rfl)) (cV hta lm_J5_83 mv_J5_isLatin1_aae02 ⟨Nat.le_of_ble_eq_true rfl, Nat.le_of_ble_eq_true rfl⟩) ⟨fbJ, va_recv hK hP (ci := 1) (q0 := 0) rfl rfl, fun U hU hW => ⟨rfl, hU, va_K.moved hW.alike hK, ZS.call hZ hS hU hW (frA hS hA)⟩⟩ rfl rfl hl.1 rfl (lv_room (Nat.le_of_ble_eq_true rfl)) dJ5_append_c97b9_18 ⟨Nat.le_of_ble_eq_true rfl, Nat.le_of_ble_eq_true rfl⟩) hS hA (fun locs hS => ?_)
  refine lv_if_eq (tgt := 37) hx hb dJ5_append_c97b9_21 (by decide) (fun c0 => ?_) (fun c0 => ?_)
  · exact absurd c0 (by decide)
  · clear c0
    refine lv_iload_n hx hb dJ5_append_c97b9_24 rfl (lv_at hl 3 rfl) ?_
    refine lv_iload_n hx hb dJ5_append_c97b9_25 rfl (lv_at hl 0 rfl) ?_
    refine lv_aload_n hx hb dJ5_append_c97b9_26 rfl (lv_at hl 2 rfl) ?_
    refine va_get (D := (dC, dI)) (ci := 1) (v := .ref u14.1) (C := RJ4) (T := TJ4) (N := 4) hx hb hta inJ4w hown hK hP 0 rfl rfl 0 (by decide) (hta _ lk_J5_15) (fun _ h9 => h9) rfl dJ5_append_c97b9_27 ?_
    refine cjI (wr := [(a_t, .inr (1, [.ref u14.1, .int 0, .int u14.2.2.2, .int (nI n)]))]) (va_runS (As := [.int (SG neg w), .int (nI (n + (dl neg w).length)), .ref u14.1]) (rest := []) ⟨hx, hb, hml, hown, hta⟩ (cJ_chars l dC dI cT hw hn hu14.1 hu14.2.2.1 hu14.2.2.2.2.2 rfl (hP.sub (ws' := [(u14.1, .inl (cT 6, u14.2.1, .inl u14.2.2.1))]) [1] rfl) (ds hD [1] (by decide) rfl)) (cS hta lm_J5_248 md_J6_getChars_ba4f3 ⟨Nat.le_of_ble_eq_true rfl, Nat.le_of_ble_eq_true rfl⟩) ⟨fbJ, fun U hU hW => ⟨rfl, hU, va_K.moved hW.alike hK, ZS.call hZ hS hU hW (va_free hD hS hA [1] rfl)⟩⟩ rfl rfl hl.1 rfl (lv_room (Nat.le_of_ble_eq_true rfl)) dJ5_append_c97b9_30 ⟨Nat.le_of_ble_eq_true rfl, Nat.le_of_ble_eq_true rfl⟩) hS hA hP hD [1] [0] rfl rfl (by decide) (by decide) (fun r9 g30 H locs hg30 hP hD hS => ?_)
    have hP : va_P (dC, dI) vwCl [(a_t, .inr (1, [.ref u14.1, .int 0, .int u14.2.2.2, .int (nI n)])), (u14.1, .inl (cT 6, u14.2.1, .inl g30))] H := hP
    have hD : va_D A [(a_t, .inr (1, [.ref u14.1, .int 0, .int u14.2.2.2, .int (nI n)])), (u14.1, .inl (cT 6, u14.2.1, .inl g30))] := hD
    refine lv_pop hx hb dJ5_append_c97b9_33 rfl ?_
    refine lv_goto (tgt := 48) hx hb dJ5_append_c97b9_34 (by decide) ?_
    refine lv_aload_n hx hb dJ5_append_c97b9_48 rfl (lv_at hl 2 rfl) ?_
    refine lv_iload_n hx hb dJ5_append_c97b9_49 rfl (lv_at hl 0 rfl) ?_
    refine va_put (D := (dC, dI)) (ci := 1) (v := .int (nI (n + (dl neg w).length))) (ty := .int) (C := RJ4) (T := TJ4) (N := 4) hx hb hta inJ4w tyJ4 tyJ4_ok nmJ4 hown hK hP hD hS 0 rfl rfl 3 (by decide) (hta _ lk_J5_79) (fun _ h9 => h9) rfl (by decide +kernel) rfl rfl (Nat.le_of_ble_eq_true rfl) dJ5_append_c97b9_50 (fun H locs hP hD hS => ?_)
    have hP : va_P (dC, dI) vwCl [(a_t, .inr (1, [.ref u14.1, .int 0, .int u14.2.2.2, .int (nI (n + (dl neg w).length))])), (u14.1, .inl (cT 6, u14.2.1, .inl g30))] H := hP
    have hD : va_D A [(a_t, .inr (1, [.ref u14.1, .int 0, .int u14.2.2.2, .int (nI (n + (dl neg w).length))])), (u14.1, .inl (cT 6, u14.2.1, .inl g30))] := hD
    refine lv_aload_n hx hb dJ5_append_c97b9_53 rfl (lv_at hl 2 rfl) ?_
    exact W.aret (v := .ref a_t) hx hb hr (Or.inl ⟨_, rfl⟩) (Or.inr ⟨_, rfl⟩) (fun t ht hW => ⟨⟨some a_t, (u14.1, u14.2.1, g30, u14.2.2.2), rfl, ⟨rfl, api_of hu14 rfl (by omega) hg30⟩, by rw [ht]; exact hP, hD⟩, hS.F ht⟩) hS.2.2 dJ5_append_c97b9_54
set_option maxHeartbeats 4000000 in
set_option maxRecDepth 100000 in
theorem cJ_appI (l : Launch) (dC : Nat → ClassId) (dI : Nat → Nat → Nat) (cT : Nat → ClassId) {Hh : Heap} {neg : Bool} {w : Nat} {a_t a_v n cap : Nat} {mL : Int32} {f : Nat → Int32} (hw : w < 10000) (hn : neg = true → 0 < w) (hq : n + (dl neg w).length ≤ cap) (hcap : CAP cap) (hff : BF f) {XW : va_W} (eX : XW = [(a_t, .inr (1, [.ref a_v, .int 0, .int mL, .int (nI n)])), (a_v, .inl (cT 6, cap, .inl f))]) (hP0 : va_P (dC, dI) vwCl XW Hh) (hD0 : va_D (fun _ => True) XW) : Met l yJ4_append_bf812 (wA yJ4_append_bf812 cJ4_append_bf812 2 (some (.object "java/lang/StringBuilder"))) ({ frames := 5, cells := 1, slots := 70, locals := 114 } : Room) (PJ dC dI cT [.ref a_t, .int (SG neg w)] Hh (va_A XW Hh.size)) (va_Qq (S := BU) (fun r u => r = some a_t ∧ API n (dl neg w) f u) (fun u t => va_P (dC, dI) vwCl (BW cT a_t (n + (dl neg w).length) u) t.heap ∧ va_D (va_A XW Hh.size) (BW cT a_t (n + (dl neg w).length) u)) (va_A XW Hh.size)) 1 70 (va_A XW Hh.size) := by
  subst eX
  refine MofWF (cc := cJ4_append_bf812) (maxL := 2) (ret := (some (.object "java/lang/StringBuilder"))) (by decide +kernel) rfl ?_
  intro p e s m args below meth c s₁ B hml hv
  obtain ⟨rfl, hH, hK, hZ⟩ := hv
  subst hH
  have hx := B.exec
  have hb := B.bytes
  have hr := B.returns
  have hta : ∀ w9 ∈ ALLW, w9.before [.ref a_t, .int (SG neg w)].toArray s = true := fun w9 hw9 => atoms_spec (ws := wA yJ4_append_bf812 cJ4_append_bf812 2 (some (.object "java/lang/StringBuilder"))) B.pre w9 (List.mem_cons_of_mem _ hw9)
  have hown : s.vm.findClass RJ4 = some m.cls := findClass_of_methodNamed B.named
  have hlocks := B.notSynchronized
  have hin : meth.name = "append" := (name_of_methodNamed B.named B.method).1
  have hD := hD0.self (sz := s.heap.size)
  have hP := hP0
  generalize hAe : va_A [(a_t, .inr (1, [.ref a_v, .int 0, .int mL, .int (nI n)])), (a_v, .inl (cT 6, cap, .inl f))] s.heap.size = A at hD hZ ⊢
  have hA : ∀ q : Nat, s.heap.size ≤ q → A q := fun q h => by rw [← hAe]; exact Or.inr h
  have hS : va_S A s.heap s.heap [] := va_S.rf
  have hl := lv_entry [.ref a_t, .int (SG neg w)] (n := 2) (Nat.le_of_ble_eq_true rfl)
  rw [lg_entry_eq]
  generalize (lg_sl [.ref a_t, .int (SG neg w)] ++ List.replicate (2 - (lg_sl [.ref a_t, .int (SG neg w)]).length) Slot.unset).toArray = ls at hl ⊢
  have hl : lv_has ls 2 [(0, .ref a_t), (1, .int (SG neg w))] := hl
  refine lv_aload_n hx hb dJ4_append_bf812_0 rfl (lv_at hl 0 rfl) ?_
  refine lv_iload_n hx hb dJ4_append_bf812_1 rfl (lv_at hl 1 rfl) ?_
  refine cjO (wr := []) (va_runSU (hK.1 1 _ rfl).2 (As := [.int (SG neg w)]) (rest := []) ⟨hx, hb, hml, hown, hta⟩ (cJ_appI5 l dC dI cT hw hn hq hcap hff rfl (hP.sub (ws' := [(a_t, .inr (1, [.ref a_v, .int 0, .int mL, .int (nI n)])), (a_v, .inl (cT 6, cap, .inl f))]) [0, 1] rfl) (ds hD [0, 1] (by decide) rfl)) (cSU hta lm_J4_53 mu_J5_append_c97b9 ⟨Nat.le_of_ble_eq_true rfl, Nat.le_of_ble_eq_true rfl⟩) ⟨fbJ, va_recv hK hP (ci := 1) (q0 := 0) rfl rfl, fun U hU hW => ⟨rfl, hU, va_K.moved hW.alike hK, ZS.call hZ hS hU hW (va_free hD hS hA [0, 1] rfl)⟩⟩ rfl rfl hl.1 rfl (lv_room (Nat.le_of_ble_eq_true rfl)) dJ4_append_bf812_2 ⟨Nat.le_of_ble_eq_true rfl, Nat.le_of_ble_eq_true rfl⟩) hS hA hP hD [0, 1] [] rfl rfl (by decide) (by decide) (fun r9 u2 H locs hu hP hD hS => ?_)
  obtain ⟨rfl, hu2⟩ := hu
  have hP : va_P (dC, dI) vwCl [(a_t, .inr (1, [.ref u2.1, .int 0, .int u2.2.2.2, .int (nI (n + (dl neg w).length))])), (u2.1, .inl (cT 6, u2.2.1, .inl u2.2.2.1))] H := hP
  have hD : va_D A [(a_t, .inr (1, [.ref u2.1, .int 0, .int u2.2.2.2, .int (nI (n + (dl neg w).length))])), (u2.1, .inl (cT 6, u2.2.1, .inl u2.2.2.1))] := hD
  refine lv_pop hx hb dJ4_append_bf812_5 rfl ?_
  refine lv_aload_n hx hb dJ4_append_bf812_6 rfl (lv_at hl 0 rfl) ?_
  exact W.aret (v := .ref a_t) hx hb hr (Or.inl ⟨_, rfl⟩) (Or.inr ⟨_, rfl⟩) (fun t ht hW => ⟨⟨some a_t, u2, rfl, ⟨rfl, hu2⟩, by rw [ht]; exact hP, hD⟩, hS.F ht⟩) hS.2.2 dJ4_append_bf812_7
set_option maxHeartbeats 4000000 in
set_option maxRecDepth 100000 in
theorem cJ_init5 (l : Launch) (dC : Nat → ClassId) (dI : Nat → Nat → Nat) (cT : Nat → ClassId) {Hh : Heap} {a_t : Nat} {XW : va_W} (eX : XW = [(a_t, .inr (1, [.null, .int 0, .int 0, .int 0]))]) (hP0 : va_P (dC, dI) vwCl XW Hh) (hD0 : va_D (fun _ => True) XW) : Met l yJ5_init_d00df (wA yJ5_init_d00df cJ5_init_d00df 2 none) ({ frames := 1, cells := 1, slots := 16, locals := 22 } : Room) (PJ dC dI cT [.ref a_t, .int 16] Hh (va_A XW Hh.size)) (va_Qv (S := Nat → Nat) (fun _ => True) (fun u t => va_P (dC, dI) vwCl [(a_t, .inr (1, [.ref (u 0), .int 0, .int 0, .int 0])), ((u 0), .inl (cT 6, 16, .inl (fun _ => 0)))] t.heap ∧ va_D (va_A XW Hh.size) [(a_t, .inr (1, [.ref (u 0), .int 0, .int 0, .int 0])), ((u 0), .inl (cT 6, 16, .inl (fun _ => 0)))]) (va_A XW Hh.size)) 1 16 (va_A XW Hh.size) := by
  subst eX
  refine MofWF (cc := cJ5_init_d00df) (maxL := 2) (ret := none) (by decide +kernel) rfl ?_
  intro p e s m args below meth c s₁ B hml hv
  obtain ⟨rfl, hH, hK, hZ⟩ := hv
  subst hH
  have hx := B.exec
  have hb := B.bytes
  have hr := B.returns
  have hta : ∀ w9 ∈ ALLW, w9.before [.ref a_t, .int 16].toArray s = true := fun w9 hw9 => atoms_spec (ws := wA yJ5_init_d00df cJ5_init_d00df 2 none) B.pre w9 (List.mem_cons_of_mem _ hw9)
  have hown : s.vm.findClass RJ5 = some m.cls := findClass_of_methodNamed B.named
  have hlocks := B.notSynchronized
  have hin : meth.name = "<init>" := (name_of_methodNamed B.named B.method).1
  have hD := hD0.self (sz := s.heap.size)
  have hP := hP0
  generalize hAe : va_A [(a_t, .inr (1, [.null, .int 0, .int 0, .int 0]))] s.heap.size = A at hD hZ ⊢
  have hA : ∀ q : Nat, s.heap.size ≤ q → A q := fun q h => by rw [← hAe]; exact Or.inr h
  have hS : va_S A s.heap s.heap [] := va_S.rf
  have hl := lv_entry [.ref a_t, .int 16] (n := 2) (Nat.le_of_ble_eq_true rfl)
  rw [lg_entry_eq]
  generalize (lg_sl [.ref a_t, .int 16] ++ List.replicate (2 - (lg_sl [.ref a_t, .int 16]).length) Slot.unset).toArray = ls at hl ⊢
  have hl : lv_has ls 2 [(0, .ref a_t), (1, .int 16)] := hl
  refine lv_aload_n hx hb dJ5_init_d00df_0 rfl (lv_at hl 0 rfl) ?_
  refine W.objInit hx hb hown (hta _ lm_J5_3) (hta _ oi_i) (hta _ oi_c) rfl (by rw [hml]; exact hl.1) rfl dJ5_init_d00df_1 (Nat.le_of_ble_eq_true rfl) (Nat.le_of_ble_eq_true rfl) ?_
  refine W.eq (g2 := F0 m 4 ls []) rfl ?_
  refine va_gets hx hb hZ.1 hS hown (hta _ lk_J5_18) (fun _ h9 => h9) dJ5_init_d00df_4 ?_
  refine lv_if_eq (tgt := 25) hx hb dJ5_init_d00df_7 (by decide) (fun c0 => ?_) (fun c0 => ?_)
  · exact absurd c0 (by decide)
  · clear c0
    refine lv_aload_n hx hb dJ5_init_d00df_10 rfl (lv_at hl 0 rfl) ?_
    refine lv_iload_n hx hb dJ5_init_d00df_11 rfl (lv_at hl 1 rfl) ?_
    refine va_newaT (ty := .byte) (a0 := (16, .inl (fun _ => 0))) hx hb (hta _ ac_byte) rfl (fun _ h9 => by cases h9) 6 rfl hK hP hD hS hA (fun _ => rfl) (by decide) rfl (Nat.le_of_ble_eq_true rfl) (Nat.le_of_ble_eq_true rfl) (Nat.le_of_ble_eq_true rfl) dJ5_init_d00df_12 (fun q12 H hP hD hS => ?_)
    have hP : va_P (dC, dI) vwCl [(a_t, .inr (1, [.null, .int 0, .int 0, .int 0])), (q12, .inl (cT 6, 16, .inl (fun _ => 0)))] H := hP
    have hD : va_D A [(a_t, .inr (1, [.null, .int 0, .int 0, .int 0])), (q12, .inl (cT 6, 16, .inl (fun _ => 0)))] := hD
    refine va_put (D := (dC, dI)) (ci := 1) (v := .ref q12) (ty := (.array .byte)) (C := RJ4) (T := TJ4) (N := 4) hx hb hta inJ4w tyJ4 tyJ4_ok nmJ4 hown hK hP hD hS 0 rfl rfl 0 (by decide) (hta _ lk_J5_15) (fun _ h9 => h9) rfl (by decide +kernel) rfl rfl (Nat.le_of_ble_eq_true rfl) dJ5_init_d00df_14 (fun H locs hP hD hS => ?_)
    have hP : va_P (dC, dI) vwCl [(a_t, .inr (1, [.ref q12, .int 0, .int 0, .int 0])), (q12, .inl (cT 6, 16, .inl (fun _ => 0)))] H := hP
    have hD : va_D A [(a_t, .inr (1, [.ref q12, .int 0, .int 0, .int 0])), (q12, .inl (cT 6, 16, .inl (fun _ => 0)))] := hD
    refine lv_aload_n hx hb dJ5_init_d00df_17 rfl (lv_at hl 0 rfl) ?_
    refine lv_iconst (v := 0) hx hb dJ5_init_d00df_18 (by decide) ?_
    refine va_put (D := (dC, dI)) (ci := 1) (v := .int 0) (ty := .byte) (C := RJ4) (T := TJ4) (N := 4) hx hb hta inJ4w tyJ4 tyJ4_ok nmJ4 hown hK hP hD hS 0 rfl rfl 1 (by decide) (hta _ lk_J5_22) (fun _ h9 => h9) rfl (by decide +kernel) rfl rfl (Nat.le_of_ble_eq_true rfl) dJ5_init_d00df_19 (fun H locs hP hD hS => ?_)
    have hP : va_P (dC, dI) vwCl [(a_t, .inr (1, [.ref q12, .int 0, .int 0, .int 0])), (q12, .inl (cT 6, 16, .inl (fun _ => 0)))] H := hP
    have hD : va_D A [(a_t, .inr (1, [.ref q12, .int 0, .int 0, .int 0])), (q12, .inl (cT 6, 16, .inl (fun _ => 0)))] := hD
    refine lv_goto (tgt := 38) hx hb dJ5_init_d00df_22 (by decide) ?_
    exact W.vret hx hb hr (fun t ht hW => ⟨⟨fun _ => q12, rfl, trivial, by rw [ht]; exact hP, hD⟩, hS.F ht⟩) hS.2.2 dJ5_init_d00df_38
set_option maxHeartbeats 4000000 in
set_option maxRecDepth 100000 in
theorem cJ_init (l : Launch) (dC : Nat → ClassId) (dI : Nat → Nat → Nat) (cT : Nat → ClassId) {Hh : Heap} {a_t : Nat} {XW : va_W} (eX : XW = [(a_t, .inr (1, [.null, .int 0, .int 0, .int 0]))]) (hP0 : va_P (dC, dI) vwCl XW Hh) (hD0 : va_D (fun _ => True) XW) : Met l yJ4_init_da8c8 (wA yJ4_init_da8c8 cJ4_init_da8c8 1 none) ({ frames := 2, cells := 1, slots := 16, locals := 43 } : Room) (PJ dC dI cT [.ref a_t] Hh (va_A XW Hh.size)) (va_Qv (S := Nat → Nat) (fun _ => True) (fun u t => va_P (dC, dI) vwCl [(a_t, .inr (1, [.ref (u 0), .int 0, .int 0, .int 0])), ((u 0), .inl (cT 6, 16, .inl (fun _ => 0)))] t.heap ∧ va_D (va_A XW Hh.size) [(a_t, .inr (1, [.ref (u 0), .int 0, .int 0, .int 0])), ((u 0), .inl (cT 6, 16, .inl (fun _ => 0)))]) (va_A XW Hh.size)) 1 16 (va_A XW Hh.size) := by
  subst eX
  refine MofWF (cc := cJ4_init_da8c8) (maxL := 1) (ret := none) (by decide +kernel) rfl ?_
  intro p e s m args below meth c s₁ B hml hv
  obtain ⟨rfl, hH, hK, hZ⟩ := hv
  subst hH
  have hx := B.exec
  have hb := B.bytes
  have hr := B.returns
  have hta : ∀ w9 ∈ ALLW, w9.before [.ref a_t].toArray s = true := fun w9 hw9 => atoms_spec (ws := wA yJ4_init_da8c8 cJ4_init_da8c8 1 none) B.pre w9 (List.mem_cons_of_mem _ hw9)
  have hown : s.vm.findClass RJ4 = some m.cls := findClass_of_methodNamed B.named
  have hlocks := B.notSynchronized
  have hin : meth.name = "<init>" := (name_of_methodNamed B.named B.method).1
  have hD := hD0.self (sz := s.heap.size)
  have hP := hP0
  generalize hAe : va_A [(a_t, .inr (1, [.null, .int 0, .int 0, .int 0]))] s.heap.size = A at hD hZ ⊢
  have hA : ∀ q : Nat, s.heap.size ≤ q → A q := fun q h => by rw [← hAe]; exact Or.inr h
  have hS : va_S A s.heap s.heap [] := va_S.rf
  have hl := lv_entry [.ref a_t] (n := 1) (Nat.le_of_ble_eq_true rfl)
  rw [lg_entry_eq]
  generalize (lg_sl [.ref a_t] ++ List.replicate (1 - (lg_sl [.ref a_t]).length) Slot.unset).toArray = ls at hl ⊢
  have hl : lv_has ls 1 [(0, .ref a_t)] := hl
  refine lv_aload_n hx hb dJ4_init_da8c8_0 rfl (lv_at hl 0 rfl) ?_
  refine lv_bipush (v := 16) hx hb dJ4_init_da8c8_1 (by decide) ?_
  refine cfV (wr := []) (w1 := fun u => [(a_t, .inr (1, [.ref (u 0), .int 0, .int 0, .int 0])), ((u 0), .inl (cT 6, 16, .inl (fun _ => 0)))]) (va_runI (As := [.int 16]) (rest := []) ⟨hx, hb, hml, hown, hta⟩ (cJ_init5 l dC dI cT rfl (hP.sub (ws' := [(a_t, .inr (1, [.null, .int 0, .int 0, .int 0]))]) [0] rfl) (ds hD [0] (by decide) rfl)) (cI hta lm_J4_1 md_J5_init_d00df ⟨(Nat.le_of_ble_eq_true rfl), (Nat.le_of_ble_eq_true rfl)⟩) ⟨fbJ, fun U hU hW => ⟨rfl, hU, va_K.moved hW.alike hK, ZS.call hZ hS hU hW (va_free hD hS hA [0] rfl)⟩⟩ rfl rfl hl.1 rfl (lv_room (Nat.le_of_ble_eq_true rfl)) dJ4_init_da8c8_3 ⟨(Nat.le_of_ble_eq_true rfl), (Nat.le_of_ble_eq_true rfl)⟩) hS hA hP hD [0] [] rfl rfl (by decide) (by decide) (fun u3 H locs hP hD hS => ?_)
  exact W.vret hx hb hr (fun t ht hW => ⟨⟨u3, rfl, trivial, by rw [ht]; exact hP, hD⟩, hS.F ht⟩) hS.2.2 dJ4_init_da8c8_6
