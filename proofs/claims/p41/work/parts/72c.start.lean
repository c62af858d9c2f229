/-! THE LAW's own body (gen/start41.py) -/
section PLAW
variable {sn : Nat} {sg : Nat → Int32}
/-- what is to be so from where the book is drawn -/
def KL6 (sn : Nat) (sg : Nat → Int32) (σ : AB) : Prop := wp_L_undone (fun r _ => r = 1) sn sg σ
def KL5 (sn : Nat) (sg : Nat → Int32) (σ : AB) : Prop := wp_L_lines (fun r σ' => r = 1 ∧ KL6 sn sg σ') σ
def KL4 (sn : Nat) (sg : Nat → Int32) (σ : AB) : Prop := wp_L_ranks (fun r σ' => r = 1 ∧ KL5 sn sg σ') σ
def KL3 (sn : Nat) (sg : Nat → Int32) (σ : AB) : Prop := wp_L_thought (fun r σ' => r = 1 ∧ KL4 sn sg σ') σ
def KL2 (sn : Nat) (sg : Nat → Int32) (σ : AB) : Prop := wp_L_typed (fun r σ' => r = 1 ∧ KL3 sn sg σ') σ
def KL1 (sn : Nat) (sg : Nat → Int32) (σ : AB) : Prop := wp_L_tokens (fun r σ' => r = 1 ∧ (GOK σ' → KL2 sn sg σ')) σ
theorem pt_law (hn : sn < 2147483648) : wp_L_drawn (KL1 sn sg) sn sg σ0 := by
  refine pt_drawn hn (fun σ1 hD => ?_)
  obtain ⟨d1, d2, d3, d4⟩ := hD
  obtain ⟨⟨LS, SE, hB, -⟩, -⟩ := id d1
  refine pt_tokens hB d3 d4 (fun σ2 hL => ⟨rfl, fun hG2 => ?_⟩)
  have e2 : σ2.1 = σ1.1 := hL.1
  obtain ⟨⟨LS2, SE2, hB2, -⟩, -⟩ := id hG2
  refine pt_typed hB2 ⟨rfl, ?_⟩
  refine pt_thought hG2 (by rw [e2]; omega) (by rw [e2]; exact d3) (fun σ4 hG4 hbe => ⟨rfl, ?_⟩)
  obtain ⟨⟨LS4, SE4, hB4, -⟩, -⟩ := id hG4
  have e4 : σ4.1.2 = σ2.1.2 := hbe.2
  refine pr_ranks hB4 (by rw [show σ4.1.2.1 = σ2.1.2.1 by rw [e4], e2]; omega) ⟨rfl, ?_⟩
  refine pl_lines hB4 (fun σ5 hL5 => ⟨rfl, ?_⟩)
  exact pt_undone (fun _ => rfl) hn (hG4.gb.same hL5.same)
end PLAW
section COD
variable {p : Program} {l : Launch} {e : Env} {R : Room} {s : State} {m : MethodId} {args : Array Value} {below : List Frame} {meth : Method} {c : Code} {H : Heap} {locs : List Loc} {cells slots : Nat} {Q : State → Prop} {pc : Nat} {ls : Array Slot} {rest st0 : List Value} {a : Array Value} {A0 : Nat → Prop} {H0 : Heap} {mc ms : Nat} {dC : Nat → ClassId} {dI : Nat → Nat → Nat} {cT : Nat → ClassId}
theorem coD {K : AB → Prop} (hr : va_Run p l e R s m args below meth c H locs cells slots mc ms (F0 m pc ls st0) rest (va_Qr (S := va_W) (fun _ => True) (fun u b t => (∃ σ9, K σ9 ∧ OB cT b σ9 u) ∧ va_P (dC, dI) vwCl u t.heap ∧ va_D (va_A ([] : va_W) H.size) u) (va_A ([] : va_W) H.size) a) (va_A ([] : va_W) H.size)) (hS : va_S A0 H0 H locs) (hA : ∀ q, H0.size ≤ q → A0 q)
    (k : ∀ (σ9 : AB) (u : va_W) (b : Nat) H1 locs1, K σ9 → OB cT b σ9 u → va_P (dC, dI) vwCl (([] : va_W) ++ u) H1 → va_D A0 (([] : va_W) ++ u) → va_S A0 H0 H1 locs1 → W p l e R s m args below meth c H1 locs1 (cells + mc) (slots + ms) Q (F0 m (pc + 3) ls (.ref b :: rest))) : W p l e R s m args below meth c H locs cells slots Q (F0 m pc ls st0) := by
  refine va_callr hr hS (fun q _ h => frA hS hA q h) (frA hS hA) (fun u b t H1 locs1 ht hvm hw hB hz hk hS1 => ?_)
  obtain ⟨⟨σ9, g1, g2⟩, h1, h2⟩ := hB
  rw [ht] at h1
  exact k σ9 u b H1 locs1 g1 g2 h1 (h2.weaken (fun k q _ h => frA hS hA q.1 h)) hS1
end COD
set_option maxHeartbeats 4000000 in
set_option maxRecDepth 100000 in
theorem whole_start {p : Program} {e : Env} {s : State} {m : MethodId} {below : List Frame} {meth : Method} {c : Code} (l : Launch) (hflags : l.flags = flags0) {b L : Nat} {xs : Nat → Int32} (hL : L ≤ 260) (C0 : lw_At p s m meth c b L xs) : W p l e room_1 s m #[Value.ref b] below meth c s.heap [] 0 0 (lw_Z below #[Value.ref b] s) (entryFrame m ([Value.ref b] : List Value).toArray 2) := by
  obtain ⟨dC, dI, cT, hLC⟩ := en_LC l hflags C0
  have hret : meth.sig.returnType = ret := C0.2.2.1
  have hlocks : meth.locks = false := C0.2.2.2.2.2.2.2.2.1
  obtain ⟨hx, hb, hml, hown, hta, hl9, hK, hX, hN, hZ, hT, hC', hA⟩ := hLC
  have hS : va_S (fun q : Nat => s.heap.size ≤ q) s.heap s.heap [] := va_S.rf
  have hl := lv_entry ([.ref b]) (n := 2) (Nat.le_of_ble_eq_true rfl)
  rw [lg_entry_eq]
  generalize (lg_sl ([.ref b]) ++ List.replicate (2 - (lg_sl ([.ref b])).length) Slot.unset).toArray = ls at hl ⊢
  have hl : lv_has ls 2 [(0, .ref b)] := hl
  have h : wp_L_drawn (KL1 L xs) L xs σ0 := pt_law (by omega)
  refine lv_aload_n hx hb dL_law_0 rfl (lv_at hl 0 rfl) ?_
  refine coD (va_runS (As := [.ref b]) (rest := []) ⟨hx, hb, hml, hown, hta⟩ (lc_L_drawn l hl9 dC dI cT h) (cS hta lm_L_200 md_L_drawn ⟨(Nat.le_of_ble_eq_true rfl), (Nat.le_of_ble_eq_true rfl)⟩) ⟨fbUS, fun U hU hW => ⟨rfl, hU, va_K.moved hW.alike hK, XS.call hX hS hU hW (frA hS hA), hN.warm hW, ZS.call hZ hS hU hW (frA hS hA), LT.call hT hS hU hW (frA hS hA), SC.call hC' hS hU hW (frA hS hA)⟩⟩ rfl rfl hl.1 rfl (lv_room (Nat.le_of_ble_eq_true rfl)) dL_law_1 ⟨(Nat.le_of_ble_eq_true rfl), (Nat.le_of_ble_eq_true rfl)⟩) hS hA (fun σ1 wo a0 H locs h hO hP hD hS => ?_)
  refine lv_astore_n (lv' := [(1, .ref a0), (0, .ref b)]) hx hb dL_law_4 rfl hl (by decide) rfl (fun ls hl => ?_)
  refine lv_aload_n hx hb dL_law_5 rfl (lv_at hl 0 rfl) ?_
  refine lv_ifnull hx hb dL_law_6 ?_
  unfold KL1 at h
  refine lv_aload_n hx hb dL_law_9 rfl (lv_at hl 0 rfl) ?_
  refine coI (va_runS (As := [.ref a0]) (rest := []) ⟨hx, hb, hml, hown, hta⟩ (lc_L_tokens l hl9 dC dI cT h hO (P_r hP) ((D_r hD).weaken (fun _ _ _ _ => trivial))) (cS hta lm_L_204 md_L_tokens ⟨(Nat.le_of_ble_eq_true rfl), (Nat.le_of_ble_eq_true rfl)⟩) ⟨fbU, fun U hU hW => ⟨rfl, hU, va_K.moved hW.alike hK, XS.call hX hS hU hW (freeO hD hS hA), hN.warm hW, ZS.call hZ hS hU hW (freeO hD hS hA), LT.call hT hS hU hW (freeO hD hS hA)⟩⟩ rfl rfl hl.1 rfl (lv_room (Nat.le_of_ble_eq_true rfl)) dL_law_10 ⟨(Nat.le_of_ble_eq_true rfl), (Nat.le_of_ble_eq_true rfl)⟩) hS hA hP hD (fun r0 wo H locs hw hP hD hS => ?_)
  obtain ⟨σ2, ⟨rfl, h⟩, hO⟩ := hw
  have h := h (OB_gok hO)
  refine lv_if_eq (tgt := 56) hx hb dL_law_13 (by decide) (fun c0 => ?_) (fun c0 => ?_)
  · exact absurd c0 (by decide)
  clear c0
  unfold KL2 at h
  refine lv_aload_n hx hb dL_law_16 rfl (lv_at hl 0 rfl) ?_
  refine coI (va_runS (As := [.ref a0]) (rest := []) ⟨hx, hb, hml, hown, hta⟩ (lc_L_typed l hl9 dC dI cT h hO (P_r hP) ((D_r hD).weaken (fun _ _ _ _ => trivial))) (cS hta lm_L_208 md_L_typed ⟨(Nat.le_of_ble_eq_true rfl), (Nat.le_of_ble_eq_true rfl)⟩) ⟨fbU, fun U hU hW => ⟨rfl, hU, va_K.moved hW.alike hK, XS.call hX hS hU hW (freeO hD hS hA), hN.warm hW, ZS.call hZ hS hU hW (freeO hD hS hA), LT.call hT hS hU hW (freeO hD hS hA)⟩⟩ rfl rfl hl.1 rfl (lv_room (Nat.le_of_ble_eq_true rfl)) dL_law_17 ⟨(Nat.le_of_ble_eq_true rfl), (Nat.le_of_ble_eq_true rfl)⟩) hS hA hP hD (fun r1 wo H locs hw hP hD hS => ?_)
  obtain ⟨σ3, ⟨rfl, h⟩, hO⟩ := hw
  refine lv_if_eq (tgt := 56) hx hb dL_law_20 (by decide) (fun c0 => ?_) (fun c0 => ?_)
  · exact absurd c0 (by decide)
  clear c0
  unfold KL3 at h
  refine lv_aload_n hx hb dL_law_23 rfl (lv_at hl 0 rfl) ?_
  refine coI (va_runS (As := [.ref a0]) (rest := []) ⟨hx, hb, hml, hown, hta⟩ (lc_L_thought l hl9 dC dI cT h hO (P_r hP) ((D_r hD).weaken (fun _ _ _ _ => trivial))) (cS hta lm_L_211 md_L_thought ⟨(Nat.le_of_ble_eq_true rfl), (Nat.le_of_ble_eq_true rfl)⟩) ⟨fbU, fun U hU hW => ⟨rfl, hU, va_K.moved hW.alike hK, XS.call hX hS hU hW (freeO hD hS hA), hN.warm hW, ZS.call hZ hS hU hW (freeO hD hS hA), LT.call hT hS hU hW (freeO hD hS hA)⟩⟩ rfl rfl hl.1 rfl (lv_room (Nat.le_of_ble_eq_true rfl)) dL_law_24 ⟨(Nat.le_of_ble_eq_true rfl), (Nat.le_of_ble_eq_true rfl)⟩) hS hA hP hD (fun r2 wo H locs hw hP hD hS => ?_)
  obtain ⟨σ4, ⟨rfl, h⟩, hO⟩ := hw
  refine lv_if_eq (tgt := 56) hx hb dL_law_27 (by decide) (fun c0 => ?_) (fun c0 => ?_)
  · exact absurd c0 (by decide)
  clear c0
  unfold KL4 at h
  refine lv_aload_n hx hb dL_law_30 rfl (lv_at hl 0 rfl) ?_
  refine coI (va_runS (As := [.ref a0]) (rest := []) ⟨hx, hb, hml, hown, hta⟩ (lc_L_ranks l hl9 dC dI cT h hO (P_r hP) ((D_r hD).weaken (fun _ _ _ _ => trivial))) (cS hta lm_L_214 md_L_ranks ⟨(Nat.le_of_ble_eq_true rfl), (Nat.le_of_ble_eq_true rfl)⟩) ⟨fbU, fun U hU hW => ⟨rfl, hU, va_K.moved hW.alike hK, XS.call hX hS hU hW (freeO hD hS hA), hN.warm hW, ZS.call hZ hS hU hW (freeO hD hS hA), LT.call hT hS hU hW (freeO hD hS hA)⟩⟩ rfl rfl hl.1 rfl (lv_room (Nat.le_of_ble_eq_true rfl)) dL_law_31 ⟨(Nat.le_of_ble_eq_true rfl), (Nat.le_of_ble_eq_true rfl)⟩) hS hA hP hD (fun r3 wo H locs hw hP hD hS => ?_)
  obtain ⟨σ5, ⟨rfl, h⟩, hO⟩ := hw
  refine lv_if_eq (tgt := 56) hx hb dL_law_34 (by decide) (fun c0 => ?_) (fun c0 => ?_)
  · exact absurd c0 (by decide)
  clear c0
  unfold KL5 at h
  refine lv_aload_n hx hb dL_law_37 rfl (lv_at hl 0 rfl) ?_
  refine coI (va_runS (As := [.ref a0]) (rest := []) ⟨hx, hb, hml, hown, hta⟩ (lc_L_lines l hl9 dC dI cT h hO (P_r hP) ((D_r hD).weaken (fun _ _ _ _ => trivial))) (cS hta lm_L_217 md_L_lines ⟨(Nat.le_of_ble_eq_true rfl), (Nat.le_of_ble_eq_true rfl)⟩) ⟨fbU, fun U hU hW => ⟨rfl, hU, va_K.moved hW.alike hK, XS.call hX hS hU hW (freeO hD hS hA), hN.warm hW, ZS.call hZ hS hU hW (freeO hD hS hA), LT.call hT hS hU hW (freeO hD hS hA)⟩⟩ rfl rfl hl.1 rfl (lv_room (Nat.le_of_ble_eq_true rfl)) dL_law_38 ⟨(Nat.le_of_ble_eq_true rfl), (Nat.le_of_ble_eq_true rfl)⟩) hS hA hP hD (fun r4 wo H locs hw hP hD hS => ?_)
  obtain ⟨σ6, ⟨rfl, h⟩, hO⟩ := hw
  refine lv_if_eq (tgt := 56) hx hb dL_law_41 (by decide) (fun c0 => ?_) (fun c0 => ?_)
  · exact absurd c0 (by decide)
  clear c0
  unfold KL6 at h
  refine lv_aload_n hx hb dL_law_44 rfl (lv_at hl 1 rfl) ?_
  refine lv_aload_n hx hb dL_law_45 rfl (lv_at hl 0 rfl) ?_
  refine coI (va_runS (As := [.ref b, .ref a0]) (rest := []) ⟨hx, hb, hml, hown, hta⟩ (lc_L_undone l hl9 dC dI cT h hO (P_r hP) ((D_r hD).weaken (fun _ _ _ _ => trivial))) (cS hta lm_L_220 md_L_undone ⟨(Nat.le_of_ble_eq_true rfl), (Nat.le_of_ble_eq_true rfl)⟩) ⟨fbUS, fun U hU hW => ⟨rfl, hU, va_K.moved hW.alike hK, XS.call hX hS hU hW (freeO hD hS hA), hN.warm hW, ZS.call hZ hS hU hW (freeO hD hS hA), LT.call hT hS hU hW (freeO hD hS hA), SC.call hC' hS hU hW (freeO hD hS hA)⟩⟩ rfl rfl hl.1 rfl (lv_room (Nat.le_of_ble_eq_true rfl)) dL_law_46 ⟨(Nat.le_of_ble_eq_true rfl), (Nat.le_of_ble_eq_true rfl)⟩) hS hA hP hD (fun r5 wo H locs hw hP hD hS => ?_)
  obtain ⟨σ7, rfl, hO⟩ := hw
  refine lv_if_eq (tgt := 56) hx hb dL_law_49 (by decide) (fun c0 => ?_) (fun c0 => ?_)
  · exact absurd c0 (by decide)
  clear c0
  refine lv_iconst (v := 1) hx hb dL_law_52 (by decide) ?_
  refine lv_goto (tgt := 57) hx hb dL_law_53 (by decide) ?_
  refine va_forget (fun q hq => hS.2.2 q hq) ?_
  refine W.widen (k := 705255) (n := 6970883) (Nat.le_of_ble_eq_true rfl) (Nat.le_of_ble_eq_true rfl) ?_
  refine W.base ?_
  exact lw_ret (Drawn.sameBut.refl s.drawn lw_cs) hx hb hret hlocks dL_law_57
