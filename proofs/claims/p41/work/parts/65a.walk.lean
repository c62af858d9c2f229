/-! CALLS over the object, beside the law's own cells (gen/lwbase.py) -/
section LWB
variable {D : va_G} {cl : List vw_C} {A0 : Nat → Prop} {X wo Y u : va_W} {H H1 : Heap}
theorem P_mv (h : va_P D cl ((X ++ wo) ++ Y) H) : va_P D cl ((X ++ Y) ++ wo) H := ((P_l (P_l h)).app (P_r h)).app (P_r (P_l h))
theorem at_app {X Y : va_W} {i : Nat} {p : Nat × va_E} (h : (X ++ Y)[i]? = some p) : (∃ k : Nat, X[k]? = some p) ∨ ∃ k : Nat, Y[k]? = some p := by
  rcases List.mem_append.mp (List.mem_of_getElem? h) with z | z
  · exact Or.inl (List.getElem?_of_mem z)
  · exact Or.inr (List.getElem?_of_mem z)
theorem D_mv (h : va_D A0 ((X ++ wo) ++ Y)) : va_D A0 ((X ++ Y) ++ wo) := by
  have e1 : ∀ {i : Nat} {p : Nat × va_E}, X[i]? = some p → (X ++ wo)[i]? = some p := fun hi => by rw [List.getElem?_append_left (List.getElem?_eq_some_iff.mp hi).1]; exact hi
  have e2 : ∀ {j : Nat} {p : Nat × va_E}, wo[j]? = some p → (X ++ wo)[X.length + j]? = some p := fun hj => by rw [List.getElem?_append_right (Nat.le_add_right _ _), Nat.add_sub_cancel_left]; exact hj
  have hXY : va_D A0 (X ++ Y) := (D_l (D_l h)).app (D_r h) (fun i j p q hi hj => D_x h (e1 hi) hj)
  refine hXY.app (D_r (D_l h)) (fun i j p q hi hj => ?_)
  rcases at_app hi with ⟨k, hk⟩ | ⟨k, hk⟩
  · exact D_x (D_l h) hk hj
  · exact (D_x h (e2 hj) hk).symm
theorem freeO {locs : List Loc} {H0 : Heap} (hD : va_D A0 (X ++ wo)) (hS : va_S A0 H0 H locs) (hA : ∀ q, H0.size ≤ q → A0 q) : ∀ q, va_A wo H.size q → A0 q := fun q h => by
  rcases h with ⟨k, e, hk⟩ | h
  · exact (D_r hD).2 k (q, e) hk
  · exact hA q (Nat.le_trans hS.1 h)
theorem awayO (hP : va_P D cl (X ++ wo) H) (hD : va_D A0 (X ++ wo)) {k : Nat} {q : Nat × va_E} (hk : X[k]? = some q) : ¬ va_A wo H.size q.1 := fun z => by
  rcases z with ⟨j, e, hj⟩ | h
  · exact D_x hD hk hj rfl
  · exact absurd (P_l hP k q hk).lt (Nat.not_lt.mpr h)
theorem joinO (hP : va_P D cl (X ++ wo) H) (hD : va_D A0 (X ++ wo)) (hf : ∀ q, va_A wo H.size q → A0 q) (hk : ∀ q : Nat, q < H.size → ¬ va_A wo H.size q → H1[q]? = H[q]?) (hPu : va_P D cl u H1) (hDu : va_D (va_A wo H.size) u) : va_P D cl (X ++ u) H1 ∧ va_D A0 (X ++ u) := by
  refine ⟨((P_l hP).kept (fun k q hq => hk q.1 (P_l hP k q hq).lt (awayO hP hD hq))).app hPu, (D_l hD).app (hDu.weaken (fun k q _ h => hf q.1 h)) (fun i j p q hi hj e => ?_)⟩
  have := awayO hP hD hi
  rw [e] at this
  exact this (hDu.2 j q hj)
end LWB
section COX
variable {p : Program} {l : Launch} {e : Env} {R : Room} {s : State} {m : MethodId} {args : Array Value} {below : List Frame} {meth : Method} {c : Code} {H : Heap} {locs : List Loc} {cells slots : Nat} {Q : State → Prop} {pc : Nat} {ls : Array Slot} {rest st0 : List Value} {a : Array Value} {A0 : Nat → Prop} {H0 : Heap} {mc ms : Nat} {dC : Nat → ClassId} {dI : Nat → Nat → Nat} {X wo : va_W}
theorem coI {K : Int32 → va_W → Prop} (hr : va_Run p l e R s m args below meth c H locs cells slots mc ms (F0 m pc ls st0) rest (QEI dC dI K (va_A wo H.size) a) (va_A wo H.size)) (hS : va_S A0 H0 H locs) (hA : ∀ q, H0.size ≤ q → A0 q) (hP : va_P (dC, dI) vwCl (X ++ wo) H) (hD : va_D A0 (X ++ wo))
    (k : ∀ r u H1 locs1, K r u → va_P (dC, dI) vwCl (X ++ u) H1 → va_D A0 (X ++ u) → va_S A0 H0 H1 locs1 → W p l e R s m args below meth c H1 locs1 (cells + mc) (slots + ms) Q (F0 m (pc + 3) ls (.int r :: rest))) : W p l e R s m args below meth c H locs cells slots Q (F0 m pc ls st0) := by
  have hf := freeO hD hS hA
  refine va_calli hr hS (fun q _ h => hf q h) hf (fun r u t H1 locs1 ht hvm hw hB hz hk hS1 => ?_)
  obtain ⟨h1, h2⟩ := hB
  rw [ht] at h1
  obtain ⟨h3, h4⟩ := joinO hP hD hf hk h1 h2
  exact k r u H1 locs1 hw h3 h4 hS1
theorem coL {K : Int64 → va_W → Prop} (hr : va_Run p l e R s m args below meth c H locs cells slots mc ms (F0 m pc ls st0) rest (QEL dC dI K (va_A wo H.size) a) (va_A wo H.size)) (hS : va_S A0 H0 H locs) (hA : ∀ q, H0.size ≤ q → A0 q) (hP : va_P (dC, dI) vwCl (X ++ wo) H) (hD : va_D A0 (X ++ wo))
    (k : ∀ r u H1 locs1, K r u → va_P (dC, dI) vwCl (X ++ u) H1 → va_D A0 (X ++ u) → va_S A0 H0 H1 locs1 → W p l e R s m args below meth c H1 locs1 (cells + mc) (slots + ms) Q (F0 m (pc + 3) ls (.long r :: rest))) : W p l e R s m args below meth c H locs cells slots Q (F0 m pc ls st0) := by
  have hf := freeO hD hS hA
  refine va_calll hr hS (fun q _ h => hf q h) hf (fun r u t H1 locs1 ht hvm hw hB hz hk hS1 => ?_)
  obtain ⟨h1, h2⟩ := hB
  rw [ht] at h1
  obtain ⟨h3, h4⟩ := joinO hP hD hf hk h1 h2
  exact k r u H1 locs1 hw h3 h4 hS1
theorem coF {K : UInt32 → va_W → Prop} (hr : va_Run p l e R s m args below meth c H locs cells slots mc ms (F0 m pc ls st0) rest (QEF dC dI K (va_A wo H.size) a) (va_A wo H.size)) (hS : va_S A0 H0 H locs) (hA : ∀ q, H0.size ≤ q → A0 q) (hP : va_P (dC, dI) vwCl (X ++ wo) H) (hD : va_D A0 (X ++ wo))
    (k : ∀ r u H1 locs1, K r u → va_P (dC, dI) vwCl (X ++ u) H1 → va_D A0 (X ++ u) → va_S A0 H0 H1 locs1 → W p l e R s m args below meth c H1 locs1 (cells + mc) (slots + ms) Q (F0 m (pc + 3) ls (.float r :: rest))) : W p l e R s m args below meth c H locs cells slots Q (F0 m pc ls st0) := by
  have hf := freeO hD hS hA
  refine va_callf hr hS (fun q _ h => hf q h) hf (fun r u t H1 locs1 ht hvm hw hB hz hk hS1 => ?_)
  obtain ⟨h1, h2⟩ := hB
  rw [ht] at h1
  obtain ⟨h3, h4⟩ := joinO hP hD hf hk h1 h2
  exact k r u H1 locs1 hw h3 h4 hS1
end COX
section RCV
variable {s : State} {H : Heap} {dC : Nat → ClassId} {dI : Nat → Nat → Nat} {cT : Nat → ClassId} {a0 : Nat} {σ : AB} {wo : va_W}
theorem recvO (hK : va_K (dC, dI) vwCl (TYS cT) s) (hO : OB cT a0 σ wo) (hP : va_P (dC, dI) vwCl wo H) : ∃ cell : Cell, H[a0]? = some cell ∧ cell.vm.isStatics = false ∧ s.vm.findClass RX11 = some cell.cls := by
  obtain ⟨ad, RAd, LS, SE, sq, bB, bS, bR, bks, uU, nN, dD, x_isSaved, x_history_next, x_history_changes, x_refusal_isKept, x_refusal_reason, x_refusal_detail, x_refusal_hasCause, x_refusal_cause, x_refusal_causeDetail, x_reader_tokens, x_reader_stores, x_reader_mostSpoons, x_reader_firsts, x_reader_kinds, x_reader_values, x_reader_parts, x_reader_lastParts, x_reader_spoonPlaces, x_reader_spoons, x_reader_awaitsLetter, x_reader_awaitsDigit, x_typing_faultAt, x_typing_stores, x_typing_storeIsBroth, x_typing_storeLow, x_typing_storeHigh, x_typing_isBroth, x_typing_low, x_typing_high, x_typing_spoons, x_typingByStores_isBroth, x_typingByStores_low, x_typingByStores_high, x_cooking_now_many, x_cooking_now_much, x_cooking_storesIn, x_cooking_boilsAt, x_cooking_cause, x_cooking_causeDetail, x_cooking_before_many, x_cooking_before_much, x_cooking_isBroth, x_cooking_many, x_cooking_much, x_cooking_spoons, x_cookingByStores_isBroth, x_cookingByStores_many, x_cookingByStores_much, x_input, x_inputLength, x_keptError, x_boiledOver, hI, rfl, rfl⟩ := hO
  exact va_recv hK hP (ci := 14) (q0 := 0) rfl rfl
end RCV
