/-! TEXT: ensureCapacityInternal (gen/texts.py) -/
def ENS (q cap : Nat) (f : Nat → Int32) (mL : Int32) (u : BU) : Prop := q ≤ u.2.1 ∧ cap ≤ u.2.1 ∧ CAP u.2.1 ∧ (∀ j, j < cap → u.2.2.1 j = f j) ∧ u.2.2.2 = mL ∧ BF u.2.2.1
def APP (n : Nat) (f : Nat → Int32) (ch : Int32) (u : BU) : Prop := n + 1 ≤ u.2.1 ∧ CAP u.2.1 ∧ (∀ j, j < n → u.2.2.1 j = f j) ∧ u.2.2.1 n = ch.toInt8.toInt32 ∧ BF u.2.2.1
theorem ens_q {n cap : Nat} (hn : n ≤ cap) (h7 : n < 70) (hcap : CAP cap) : n + 1 ≤ cap ∨ (n + 1 = 17 ∧ cap = 16) ∨ (n + 1 = 35 ∧ cap = 34) := by rcases hcap with h | h | h <;> omega
theorem app_of {n cap : Nat} {f : Nat → Int32} {mL ch : Int32} {u : BU} (hu : ENS (n + 1) cap f mL u) (hn : n ≤ cap) (h7 : n < 70) : APP n f ch (u.1, u.2.1, upd u.2.2.1 (nI n).toNatClampNeg (vp_nar .byte ch.toInt8.toInt32), u.2.2.2) := by
  have e : (nI n).toNatClampNeg = n := nI_clamp (by omega)
  rw [e, pk_vb]
  refine ⟨hu.1, hu.2.2.1, fun j hj => ?_, pk_us, sb_fitU hu.2.2.2.2.2 (pk_fb _)⟩
  show upd _ n _ j = f j
  rw [pk_un (by omega)]
  exact hu.2.2.2.1 j (by omega)
section CJO
variable {p : Program} {l : Launch} {e : Env} {R : Room} {s : State} {m : MethodId} {args : Array Value} {below : List Frame} {meth : Method} {c : Code} {H : Heap} {locs : List Loc} {cells slots : Nat} {Q : State → Prop} {pc : Nat} {ls : Array Slot} {rest st0 : List Value} {a : Array Value} {A0 : Nat → Prop} {H0 : Heap} {mc ms : Nat} {dC : Nat → ClassId} {dI : Nat → Nat → Nat} {S : Type}
theorem cjO {X wc wr : va_W} {post : Option Nat → S → Prop} {w1 : S → va_W} (hr : va_Run p l e R s m args below meth c H locs cells slots mc ms (F0 m pc ls st0) rest (va_Qq post (fun u t => va_P (dC, dI) vwCl (w1 u) t.heap ∧ va_D (va_A wc H.size) (w1 u)) (va_A wc H.size) a) (va_A wc H.size)) (hS : va_S A0 H0 H locs) (hA : ∀ q, H0.size ≤ q → A0 q) (hP : va_P (dC, dI) vwCl X H) (hD : va_D A0 X) (isC isR : List Nat) (hC : isC.map (fun i => X[i]?) = wc.map some) (hR : isR.map (fun i => X[i]?) = wr.map some) (hn : va_nd isR = true) (hdis : ∀ i ∈ isR, i ∉ isC)
    (k : ∀ (r : Option Nat) (u : S) H1 locs1, post r u → va_P (dC, dI) vwCl (wr ++ w1 u) H1 → va_D A0 (wr ++ w1 u) → va_S A0 H0 H1 locs1 → W p l e R s m args below meth c H1 locs1 (cells + mc) (slots + ms) Q (F0 m (pc + 3) ls (va_rf r :: rest))) : W p l e R s m args below meth c H locs cells slots Q (F0 m pc ls st0) := by
  have hf := va_free hD hS hA isC hC
  refine va_callq hr hS (fun q _ h => hf q h) hf (fun r u t H1 locs1 ht hvm hw hB hz hk hS1 => ?_)
  obtain ⟨h1, h2⟩ := hB
  rw [ht] at h1
  obtain ⟨h3, h4⟩ := va_join hP hD isC isR hC hR hn hdis hk hf h1 h2
  exact k r u H1 locs1 hw h3 h4 hS1
end CJO
set_option maxHeartbeats 4000000 in
set_option maxRecDepth 100000 in
theorem cJ_ens (l : Launch) (dC : Nat → ClassId) (dI : Nat → Nat → Nat) (cT : Nat → ClassId) {Hh : Heap} {a_t a_v n cap : Nat} {mL : Int32} {f : Nat → Int32} {q : Nat} (hc : q ≤ cap ∨ (q = 17 ∧ cap = 16) ∨ (q = 35 ∧ cap = 34)) (hcap : CAP cap) (hff : BF f) {XW : va_W} (eX : XW = [(a_t, .inr (1, [.ref a_v, .int 0, .int mL, .int (nI n)])), (a_v, .inl (cT 6, cap, .inl f))]) (hP0 : va_P (dC, dI) vwCl XW Hh) (hD0 : va_D (fun _ => True) XW) : Met l yJ5_ensureCapacityInternal_d00df (wA yJ5_ensureCapacityInternal_d00df cJ5_ensureCapacityInternal_d00df 3 none) ({ frames := 3, cells := 1, slots := 70, locals := 69 } : Room) (PJ dC dI cT [.ref a_t, .int (nI q)] Hh (va_A XW Hh.size)) (va_Qv (S := BU) (ENS q cap f mL) (fun u t => va_P (dC, dI) vwCl (BW cT a_t n u) t.heap ∧ va_D (va_A XW Hh.size) (BW cT a_t n u)) (va_A XW Hh.size)) 1 70 (va_A XW Hh.size) := by
  subst eX
  refine MofWF (cc := cJ5_ensureCapacityInternal_d00df) (maxL := 3) (ret := none) (by decide +kernel) rfl ?_
  intro p e s m args below meth c s₁ B hml hv
  obtain ⟨rfl, hH, hK, hZ⟩ := hv
  subst hH
  have hx := B.exec
  have hb := B.bytes
  have hr := B.returns
  have hta : ∀ w9 ∈ ALLW, w9.before [.ref a_t, .int (nI q)].toArray s = true := fun w9 hw9 => atoms_spec (ws := wA yJ5_ensureCapacityInternal_d00df cJ5_ensureCapacityInternal_d00df 3 none) B.pre w9 (List.mem_cons_of_mem _ hw9)
  have hown : s.vm.findClass RJ5 = some m.cls := findClass_of_methodNamed B.named
  have hlocks := B.notSynchronized
  have hin : meth.name = "ensureCapacityInternal" := (name_of_methodNamed B.named B.method).1
  have hD := hD0.self (sz := s.heap.size)
  have hP := hP0
  generalize hAe : va_A [(a_t, .inr (1, [.ref a_v, .int 0, .int mL, .int (nI n)])), (a_v, .inl (cT 6, cap, .inl f))] s.heap.size = A at hD hZ ⊢
  have hA : ∀ q : Nat, s.heap.size ≤ q → A q := fun q h => by rw [← hAe]; exact Or.inr h
  have hS : va_S A s.heap s.heap [] := va_S.rf
  have hl := lv_entry [.ref a_t, .int (nI q)] (n := 3) (Nat.le_of_ble_eq_true rfl)
  rw [lg_entry_eq]
  generalize (lg_sl [.ref a_t, .int (nI q)] ++ List.replicate (3 - (lg_sl [.ref a_t, .int (nI q)]).length) Slot.unset).toArray = ls at hl ⊢
  have hl : lv_has ls 3 [(0, .ref a_t), (1, .int (nI q))] := hl
  rcases hc with hc | ⟨hq, hk⟩ | ⟨hq, hk⟩
  · refine lv_aload_n hx hb dJ5_ensureCapacityInternal_d00df_0 rfl (lv_at hl 0 rfl) ?_
    refine va_get (D := (dC, dI)) (ci := 1) (v := .ref a_v) (C := RJ4) (T := TJ4) (N := 4) hx hb hta inJ4w hown hK hP 0 rfl rfl 0 (by decide) (hta _ lk_J5_15) (fun _ h9 => h9) rfl dJ5_ensureCapacityInternal_d00df_1 ?_
    refine va_alen (v := (nI cap)) hx hb hK hP 1 6 rfl rfl rfl dJ5_ensureCapacityInternal_d00df_4 ?_
    refine lv_aload_n hx hb dJ5_ensureCapacityInternal_d00df_5 rfl (lv_at hl 0 rfl) ?_
    refine va_get (D := (dC, dI)) (ci := 1) (v := .int 0) (C := RJ4) (T := TJ4) (N := 4) hx hb hta inJ4w hown hK hP 0 rfl rfl 1 (by decide) (hta _ lk_J5_22) (fun _ h9 => h9) rfl dJ5_ensureCapacityInternal_d00df_6 ?_
    refine lv_ishr hx hb dJ5_ensureCapacityInternal_d00df_9 ?_
    refine lv_topi (fun v1 e_v1 => ?_)
    have e9 : v1 = (nI cap) := e_v1.trans (sb_shr0 _)
    subst e9
    refine lv_istore_n (lv' := [(2, .int (nI cap)), (0, .ref a_t), (1, .int (nI q))]) hx hb dJ5_ensureCapacityInternal_d00df_10 rfl hl (by decide) rfl (fun ls hl => ?_)
    refine lv_iload_n hx hb dJ5_ensureCapacityInternal_d00df_11 rfl (lv_at hl 2 rfl) ?_
    refine lv_iload_n hx hb dJ5_ensureCapacityInternal_d00df_12 rfl (lv_at hl 0 rfl) ?_
    refine lv_isub hx hb dJ5_ensureCapacityInternal_d00df_13 ?_
    refine lv_if_le (tgt := 38) hx hb dJ5_ensureCapacityInternal_d00df_14 (by decide) (fun c0 => ?_) (fun c0 => ?_)
    · clear c0
      refine W.widen (k := 1) (n := 70) (Nat.le_of_ble_eq_true rfl) (Nat.le_of_ble_eq_true rfl) ?_
      exact W.vret hx hb hr (fun t ht hW => ⟨⟨(a_v, cap, f, mL), rfl, ⟨hc, Nat.le_refl _, hcap, fun _ _ => rfl, rfl, hff⟩, by rw [ht]; exact hP, hD⟩, hS.F ht⟩) hS.2.2 dJ5_ensureCapacityInternal_d00df_38
    · exact absurd (ens_le hc hcap) c0
  · subst hq
    subst hk
    have hl : lv_has ls 3 [(0, .ref a_t), (1, .int 17)] := hl
    refine lv_aload_n hx hb dJ5_ensureCapacityInternal_d00df_0 rfl (lv_at hl 0 rfl) ?_
    refine va_get (D := (dC, dI)) (ci := 1) (v := .ref a_v) (C := RJ4) (T := TJ4) (N := 4) hx hb hta inJ4w hown hK hP 0 rfl rfl 0 (by decide) (hta _ lk_J5_15) (fun _ h9 => h9) rfl dJ5_ensureCapacityInternal_d00df_1 ?_
    refine va_alen (v := 16) hx hb hK hP 1 6 rfl rfl (show Int32.ofNat 16 = 16 from by decide) dJ5_ensureCapacityInternal_d00df_4 ?_
    refine lv_aload_n hx hb dJ5_ensureCapacityInternal_d00df_5 rfl (lv_at hl 0 rfl) ?_
    refine va_get (D := (dC, dI)) (ci := 1) (v := .int 0) (C := RJ4) (T := TJ4) (N := 4) hx hb hta inJ4w hown hK hP 0 rfl rfl 1 (by decide) (hta _ lk_J5_22) (fun _ h9 => h9) rfl dJ5_ensureCapacityInternal_d00df_6 ?_
    refine lv_ishr hx hb dJ5_ensureCapacityInternal_d00df_9 ?_
    refine lv_topi (fun v1 e_v1 => ?_)
    have e9 : v1 = 16 := e_v1.trans (by decide)
    subst e9
    refine lv_istore_n (lv' := [(2, .int 16), (0, .ref a_t), (1, .int 17)]) hx hb dJ5_ensureCapacityInternal_d00df_10 rfl hl (by decide) rfl (fun ls hl => ?_)
    refine lv_iload_n hx hb dJ5_ensureCapacityInternal_d00df_11 rfl (lv_at hl 2 rfl) ?_
    refine lv_iload_n hx hb dJ5_ensureCapacityInternal_d00df_12 rfl (lv_at hl 0 rfl) ?_
    refine lv_isub hx hb dJ5_ensureCapacityInternal_d00df_13 ?_
    refine lv_topi (fun v2 e_v2 => ?_)
    have e9 : v2 = 1 := e_v2.trans (by decide)
    subst e9
    refine lv_if_le (tgt := 38) hx hb dJ5_ensureCapacityInternal_d00df_14 (by decide) (fun c0 => ?_) (fun c0 => ?_)
    · exact absurd c0 (by decide)
    · clear c0
      refine lv_aload_n hx hb dJ5_ensureCapacityInternal_d00df_17 rfl (lv_at hl 1 rfl) ?_
      refine lv_aload_n hx hb dJ5_ensureCapacityInternal_d00df_18 rfl (lv_at hl 1 rfl) ?_
      refine va_get (D := (dC, dI)) (ci := 1) (v := .ref a_v) (C := RJ4) (T := TJ4) (N := 4) hx hb hta inJ4w hown hK hP 0 rfl rfl 0 (by decide) (hta _ lk_J5_15) (fun _ h9 => h9) rfl dJ5_ensureCapacityInternal_d00df_19 ?_
      refine lv_aload_n hx hb dJ5_ensureCapacityInternal_d00df_22 rfl (lv_at hl 1 rfl) ?_
      refine lv_iload_n hx hb dJ5_ensureCapacityInternal_d00df_23 rfl (lv_at hl 2 rfl) ?_
      refine crI (va_runV (As := [.int 17]) (rest := [.ref a_v, .ref a_t]) ⟨hx, hb, hml, hown, hta⟩ (cJ_newCap16 l dC dI cT rfl (hP.sub (ws' := [(a_t, .inr (1, [.ref a_v, .int 0, .int mL, .int (nI n)])), (a_v, .inl (cT 6, 16, .inl f))]) [0, 1] rfl)) (cVP hZ.2.2.2.2.2 hta lm_J5_104 mp_J5_newCapacity_0f7a4 ⟨Nat.le_of_ble_eq_true rfl, Nat.le_of_ble_eq_true rfl⟩) ⟨fbJ, va_recv hK hP (ci := 1) (q0 := 0) rfl rfl, fun U hU hW => ⟨rfl, hU, va_K.moved hW.alike hK, ZS.call hZ hS hU hW (frA hS hA)⟩⟩ rfl rfl hl.1 rfl (lv_room (Nat.le_of_ble_eq_true rfl)) dJ5_ensureCapacityInternal_d00df_24 ⟨Nat.le_of_ble_eq_true rfl, Nat.le_of_ble_eq_true rfl⟩) hS hA (fun locs hS => ?_)
      refine lv_aload_n hx hb dJ5_ensureCapacityInternal_d00df_27 rfl (lv_at hl 1 rfl) ?_
      refine va_get (D := (dC, dI)) (ci := 1) (v := .int 0) (C := RJ4) (T := TJ4) (N := 4) hx hb hta inJ4w hown hK hP 0 rfl rfl 1 (by decide) (hta _ lk_J5_22) (fun _ h9 => h9) rfl dJ5_ensureCapacityInternal_d00df_28 ?_
      refine lv_ishl hx hb dJ5_ensureCapacityInternal_d00df_31 ?_
      refine lv_topi (fun v3 e_v3 => ?_)
      have e9 : v3 = 34 := e_v3.trans (by decide)
      subst e9
      refine cjR (wr := [(a_t, .inr (1, [.ref a_v, .int 0, .int mL, .int (nI n)]))]) (va_runS (As := [.ref a_v, .int 34]) (rest := [.ref a_t]) ⟨hx, hb, hml, hown, hta⟩ (cJ_copyOf16 l dC dI cT hff rfl (hP.sub (ws' := [(a_v, .inl (cT 6, 16, .inl f))]) [1] rfl) (ds hD [1] (by decide) rfl)) (cS hta lm_J5_108 md_J7_copyOf_9075b ⟨Nat.le_of_ble_eq_true rfl, Nat.le_of_ble_eq_true rfl⟩) ⟨fbJ, fun U hU hW => ⟨rfl, hU, va_K.moved hW.alike hK, ZS.call hZ hS hU hW (va_free hD hS hA [1] rfl)⟩⟩ rfl rfl hl.1 rfl (lv_room (Nat.le_of_ble_eq_true rfl)) dJ5_ensureCapacityInternal_d00df_32 ⟨Nat.le_of_ble_eq_true rfl, Nat.le_of_ble_eq_true rfl⟩) hS hA hP hD [1] [0] rfl rfl (by decide) (by decide) (fun _ q32 H locs _ hP hD hS => ?_)
      have hP : va_P (dC, dI) vwCl [(a_t, .inr (1, [.ref a_v, .int 0, .int mL, .int (nI n)])), (a_v, .inl (cT 6, 16, .inl f)), (q32, .inl (cT 6, 34, .inl (va_cpy f (fun _ => 0) 0 0 16)))] H := hP
      have hD : va_D A [(a_t, .inr (1, [.ref a_v, .int 0, .int mL, .int (nI n)])), (a_v, .inl (cT 6, 16, .inl f)), (q32, .inl (cT 6, 34, .inl (va_cpy f (fun _ => 0) 0 0 16)))] := hD
      refine va_put (D := (dC, dI)) (ci := 1) (v := .ref q32) (ty := (.array .byte)) (C := RJ4) (T := TJ4) (N := 4) hx hb hta inJ4w tyJ4 tyJ4_ok nmJ4 hown hK hP hD hS 0 rfl rfl 0 (by decide) (hta _ lk_J5_15) (fun _ h9 => h9) rfl (by decide +kernel) rfl rfl (Nat.le_of_ble_eq_true rfl) dJ5_ensureCapacityInternal_d00df_35 (fun H locs hP hD hS => ?_)
      have hP : va_P (dC, dI) vwCl [(a_t, .inr (1, [.ref q32, .int 0, .int mL, .int (nI n)])), (a_v, .inl (cT 6, 16, .inl f)), (q32, .inl (cT 6, 34, .inl (va_cpy f (fun _ => 0) 0 0 16)))] H := hP
      have hD : va_D A [(a_t, .inr (1, [.ref q32, .int 0, .int mL, .int (nI n)])), (a_v, .inl (cT 6, 16, .inl f)), (q32, .inl (cT 6, 34, .inl (va_cpy f (fun _ => 0) 0 0 16)))] := hD
      have hP := hP.sub (ws' := BW cT a_t n (q32, 34, va_cpy f (fun _ => 0) 0 0 16, mL)) [0, 2] rfl
      have hD := hD.sub (ws' := BW cT a_t n (q32, 34, va_cpy f (fun _ => 0) 0 0 16, mL)) [0, 2] (by decide) rfl
      refine W.widen (k := 1) (n := 70) (Nat.le_of_ble_eq_true rfl) (Nat.le_of_ble_eq_true rfl) ?_
      exact W.vret hx hb hr (fun t ht hW => ⟨⟨(q32, 34, va_cpy f (fun _ => 0) 0 0 16, mL), rfl, ⟨(show 17 ≤ 34 by decide), (show 16 ≤ 34 by decide), Or.inr (Or.inl rfl), fun j hj => (by show va_cpy f (fun _ => 0) 0 0 16 j = f j; exact sb_cpy0 hj), rfl, sb_fitC hff sb_fit0⟩, by rw [ht]; exact hP, hD⟩, hS.F ht⟩) hS.2.2 dJ5_ensureCapacityInternal_d00df_38
  · subst hq
    subst hk
    have hl : lv_has ls 3 [(0, .ref a_t), (1, .int 35)] := hl
    refine lv_aload_n hx hb dJ5_ensureCapacityInternal_d00df_0 rfl (lv_at hl 0 rfl) ?_
    refine va_get (D := (dC, dI)) (ci := 1) (v := .ref a_v) (C := RJ4) (T := TJ4) (N := 4) hx hb hta inJ4w hown hK hP 0 rfl rfl 0 (by decide) (hta _ lk_J5_15) (fun _ h9 => h9) rfl dJ5_ensureCapacityInternal_d00df_1 ?_
    refine va_alen (v := 34) hx hb hK hP 1 6 rfl rfl (show Int32.ofNat 34 = 34 from by decide) dJ5_ensureCapacityInternal_d00df_4 ?_
    refine lv_aload_n hx hb dJ5_ensureCapacityInternal_d00df_5 rfl (lv_at hl 0 rfl) ?_
    refine va_get (D := (dC, dI)) (ci := 1) (v := .int 0) (C := RJ4) (T := TJ4) (N := 4) hx hb hta inJ4w hown hK hP 0 rfl rfl 1 (by decide) (hta _ lk_J5_22) (fun _ h9 => h9) rfl dJ5_ensureCapacityInternal_d00df_6 ?_
    refine lv_ishr hx hb dJ5_ensureCapacityInternal_d00df_9 ?_
    refine lv_topi (fun v1 e_v1 => ?_)
    have e9 : v1 = 34 := e_v1.trans (by decide)
    subst e9
    refine lv_istore_n (lv' := [(2, .int 34), (0, .ref a_t), (1, .int 35)]) hx hb dJ5_ensureCapacityInternal_d00df_10 rfl hl (by decide) rfl (fun ls hl => ?_)
    refine lv_iload_n hx hb dJ5_ensureCapacityInternal_d00df_11 rfl (lv_at hl 2 rfl) ?_
    refine lv_iload_n hx hb dJ5_ensureCapacityInternal_d00df_12 rfl (lv_at hl 0 rfl) ?_
    refine lv_isub hx hb dJ5_ensureCapacityInternal_d00df_13 ?_
    refine lv_topi (fun v2 e_v2 => ?_)
    have e9 : v2 = 1 := e_v2.trans (by decide)
    subst e9
    refine lv_if_le (tgt := 38) hx hb dJ5_ensureCapacityInternal_d00df_14 (by decide) (fun c0 => ?_) (fun c0 => ?_)
    · exact absurd c0 (by decide)
    · clear c0
      refine lv_aload_n hx hb dJ5_ensureCapacityInternal_d00df_17 rfl (lv_at hl 1 rfl) ?_
      refine lv_aload_n hx hb dJ5_ensureCapacityInternal_d00df_18 rfl (lv_at hl 1 rfl) ?_
      refine va_get (D := (dC, dI)) (ci := 1) (v := .ref a_v) (C := RJ4) (T := TJ4) (N := 4) hx hb hta inJ4w hown hK hP 0 rfl rfl 0 (by decide) (hta _ lk_J5_15) (fun _ h9 => h9) rfl dJ5_ensureCapacityInternal_d00df_19 ?_
      refine lv_aload_n hx hb dJ5_ensureCapacityInternal_d00df_22 rfl (lv_at hl 1 rfl) ?_
      refine lv_iload_n hx hb dJ5_ensureCapacityInternal_d00df_23 rfl (lv_at hl 2 rfl) ?_
      refine crI (va_runV (As := [.int 35]) (rest := [.ref a_v, .ref a_t]) ⟨hx, hb, hml, hown, hta⟩ (cJ_newCap34 l dC dI cT rfl (hP.sub (ws' := [(a_t, .inr (1, [.ref a_v, .int 0, .int mL, .int (nI n)])), (a_v, .inl (cT 6, 34, .inl f))]) [0, 1] rfl)) (cVP hZ.2.2.2.2.2 hta lm_J5_104 mp_J5_newCapacity_0f7a4 ⟨Nat.le_of_ble_eq_true rfl, Nat.le_of_ble_eq_true rfl⟩) ⟨fbJ, va_recv hK hP (ci := 1) (q0 := 0) rfl rfl, fun U hU hW => ⟨rfl, hU, va_K.moved hW.alike hK, ZS.call hZ hS hU hW (frA hS hA)⟩⟩ rfl rfl hl.1 rfl (lv_room (Nat.le_of_ble_eq_true rfl)) dJ5_ensureCapacityInternal_d00df_24 ⟨Nat.le_of_ble_eq_true rfl, Nat.le_of_ble_eq_true rfl⟩) hS hA (fun locs hS => ?_)
      refine lv_aload_n hx hb dJ5_ensureCapacityInternal_d00df_27 rfl (lv_at hl 1 rfl) ?_
      refine va_get (D := (dC, dI)) (ci := 1) (v := .int 0) (C := RJ4) (T := TJ4) (N := 4) hx hb hta inJ4w hown hK hP 0 rfl rfl 1 (by decide) (hta _ lk_J5_22) (fun _ h9 => h9) rfl dJ5_ensureCapacityInternal_d00df_28 ?_
      refine lv_ishl hx hb dJ5_ensureCapacityInternal_d00df_31 ?_
      refine lv_topi (fun v3 e_v3 => ?_)
      have e9 : v3 = 70 := e_v3.trans (by decide)
      subst e9
      refine cjR (wr := [(a_t, .inr (1, [.ref a_v, .int 0, .int mL, .int (nI n)]))]) (va_runS (As := [.ref a_v, .int 70]) (rest := [.ref a_t]) ⟨hx, hb, hml, hown, hta⟩ (cJ_copyOf34 l dC dI cT hff rfl (hP.sub (ws' := [(a_v, .inl (cT 6, 34, .inl f))]) [1] rfl) (ds hD [1] (by decide) rfl)) (cS hta lm_J5_108 md_J7_copyOf_9075b ⟨Nat.le_of_ble_eq_true rfl, Nat.le_of_ble_eq_true rfl⟩) ⟨fbJ, fun U hU hW => ⟨rfl, hU, va_K.moved hW.alike hK, ZS.call hZ hS hU hW (va_free hD hS hA [1] rfl)⟩⟩ rfl rfl hl.1 rfl (lv_room (Nat.le_of_ble_eq_true rfl)) dJ5_ensureCapacityInternal_d00df_32 ⟨Nat.le_of_ble_eq_true rfl, Nat.le_of_ble_eq_true rfl⟩) hS hA hP hD [1] [0] rfl rfl (by decide) (by decide) (fun _ q32 H locs _ hP hD hS => ?_)
      have hP : va_P (dC, dI) vwCl [(a_t, .inr (1, [.ref a_v, .int 0, .int mL, .int (nI n)])), (a_v, .inl (cT 6, 34, .inl f)), (q32, .inl (cT 6, 70, .inl (va_cpy f (fun _ => 0) 0 0 34)))] H := hP
      have hD : va_D A [(a_t, .inr (1, [.ref a_v, .int 0, .int mL, .int (nI n)])), (a_v, .inl (cT 6, 34, .inl f)), (q32, .inl (cT 6, 70, .inl (va_cpy f (fun _ => 0) 0 0 34)))] := hD
      refine va_put (D := (dC, dI)) (ci := 1) (v := .ref q32) (ty := (.array .byte)) (C := RJ4) (T := TJ4) (N := 4) hx hb hta inJ4w tyJ4 tyJ4_ok nmJ4 hown hK hP hD hS 0 rfl rfl 0 (by decide) (hta _ lk_J5_15) (fun _ h9 => h9) rfl (by decide +kernel) rfl rfl (Nat.le_of_ble_eq_true rfl) dJ5_ensureCapacityInternal_d00df_35 (fun H locs hP hD hS => ?_)
      have hP : va_P (dC, dI) vwCl [(a_t, .inr (1, [.ref q32, .int 0, .int mL, .int (nI n)])), (a_v, .inl (cT 6, 34, .inl f)), (q32, .inl (cT 6, 70, .inl (va_cpy f (fun _ => 0) 0 0 34)))] H := hP
      have hD : va_D A [(a_t, .inr (1, [.ref q32, .int 0, .int mL, .int (nI n)])), (a_v, .inl (cT 6, 34, .inl f)), (q32, .inl (cT 6, 70, .inl (va_cpy f (fun _ => 0) 0 0 34)))] := hD
      have hP := hP.sub (ws' := BW cT a_t n (q32, 70, va_cpy f (fun _ => 0) 0 0 34, mL)) [0, 2] rfl
      have hD := hD.sub (ws' := BW cT a_t n (q32, 70, va_cpy f (fun _ => 0) 0 0 34, mL)) [0, 2] (by decide) rfl
      refine W.widen (k := 1) (n := 70) (Nat.le_of_ble_eq_true rfl) (Nat.le_of_ble_eq_true rfl) ?_
      exact W.vret hx hb hr (fun t ht hW => ⟨⟨(q32, 70, va_cpy f (fun _ => 0) 0 0 34, mL), rfl, ⟨(show 35 ≤ 70 by decide), (show 34 ≤ 70 by decide), Or.inr (Or.inr rfl), fun j hj => (by show va_cpy f (fun _ => 0) 0 0 34 j = f j; exact sb_cpy0 hj), rfl, sb_fitC hff sb_fit0⟩, by rw [ht]; exact hP, hD⟩, hS.F ht⟩) hS.2.2 dJ5_ensureCapacityInternal_d00df_38
