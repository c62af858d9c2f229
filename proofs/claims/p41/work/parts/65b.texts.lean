/-! TEXTS and arrays beside the object (gen/lwbase2.py) -/
/-- a made text's bytes -/
def TXT (t : List Nat) (g : Nat → Int32) : Prop := (∀ j, j < t.length → g j = nI (t.getD j 0)) ∧ (∀ x, x ∈ t → x < 128) ∧ BF g
/-- a builder that holds t -/
def LX (t : List Nat) (u : BU) : Prop := LN t.length t u ∧ ∀ x, x ∈ t → x < 128
theorem lx_0 {a : Nat} : LX [] (a, 16, (fun _ => 0), 0) := ⟨ln_0 ⟨Or.inl rfl, sb_fit0⟩, fun _ h => by cases h⟩
theorem lx_cap {t : List Nat} {u : BU} (h : LX t u) : t.length ≤ u.2.1 := h.1.2.1
theorem cap16 {k : Nat} (h : CAP k) : 16 ≤ k := by rcases h with h | h | h <;> omega
theorem lx_app {c : Nat} {t : List Nat} {u v : BU} (h : LX t u) (hu : APP t.length u.2.2.1 (nI c) v) (hc : c < 128) : LX (t ++ [c]) v := by
  refine ⟨?_, fun x hx => ?_⟩
  · have := ln_app h.1 hu hc
    rw [List.length_append]
    exact this
  · rcases List.mem_append.mp hx with hx | hx
    · exact h.2 x hx
    · rw [List.mem_singleton.mp hx]; exact hc
theorem lx_api {t es : List Nat} {u v : BU} (h : LX t u) (hu : API t.length es u.2.2.1 v) (he : ∀ x, x ∈ es → x < 128) : LX (t ++ es) v := by
  refine ⟨?_, fun x hx => ?_⟩
  · have := ln_api h.1 hu
    rw [List.length_append]
    exact this
  · rcases List.mem_append.mp hx with hx | hx
    · exact h.2 x hx
    · exact he x hx
theorem lx_aps {t s : List Nat} {g : Nat → Int32} {u v : BU} (h : LX t u) (hs : TXT s g) (hu : APS t.length s.length g u.2.2.1 v) : LX (t ++ s) v :=
  lx_api h ⟨hu.1, hu.2.1, hu.2.2.1, fun i hi => (hu.2.2.2.1 i hi).trans (hs.1 i hi), hu.2.2.2.2⟩ hs.2.1
theorem lx_txt {t : List Nat} {u : BU} {g : Nat → Int32} (h : LX t u) (hg : (∀ j, j < t.length → g j = u.2.2.1 j) ∧ BF g) : TXT t g := ⟨fun j hj => (hg.1 j hj).trans (h.1.2.2.2.1 j hj), h.2, hg.2⟩
theorem txt_lit {t : List Nat} (h : ∀ x, x ∈ t → x < 128) : TXT t (fun j => nI (t.getD j 0)) := ⟨fun _ _ => rfl, h, fun j => by
  by_cases hj : j < t.length
  · exact fit_byte _ (h _ (getD_mem hj))
  · dsimp only
    rw [show t.getD j 0 = 0 by rw [List.getD_eq_getElem?_getD, List.getElem?_eq_none (Nat.not_lt.mp hj)]; rfl]; exact fit_byte 0 (by decide)⟩
/-- what an object's state keeps -/
def GOK (σ : AB) : Prop := (∃ LS SE, BOK LS SE σ.1 ∧ ∀ r, r < σ.2.1 → BOK LS SE (σ.2.2.1 r)) ∧ σ.2.1 ≤ 6 ∧ σ.2.2.2.1.length ≤ 70 ∧ σ.2.2.2.2.1.length ≤ 60
theorem OB_gok {cT : Nat → ClassId} {a0 : Nat} {σ : AB} {W0 : va_W} (hO : OB cT a0 σ W0) : GOK σ := by
  obtain ⟨ad, RAd, LS, SE, sq, bB, bS, bR, bks, uU, nN, dD, x_isSaved, x_history_next, x_history_changes, x_refusal_isKept, x_refusal_reason, x_refusal_detail, x_refusal_hasCause, x_refusal_cause, x_refusal_causeDetail, x_reader_tokens, x_reader_stores, x_reader_mostSpoons, x_reader_firsts, x_reader_kinds, x_reader_values, x_reader_parts, x_reader_lastParts, x_reader_spoonPlaces, x_reader_spoons, x_reader_awaitsLetter, x_reader_awaitsDigit, x_typing_faultAt, x_typing_stores, x_typing_storeIsBroth, x_typing_storeLow, x_typing_storeHigh, x_typing_isBroth, x_typing_low, x_typing_high, x_typing_spoons, x_typingByStores_isBroth, x_typingByStores_low, x_typingByStores_high, x_cooking_now_many, x_cooking_now_much, x_cooking_storesIn, x_cooking_boilsAt, x_cooking_cause, x_cooking_causeDetail, x_cooking_before_many, x_cooking_before_much, x_cooking_isBroth, x_cooking_many, x_cooking_much, x_cooking_spoons, x_cookingByStores_isBroth, x_cookingByStores_many, x_cookingByStores_much, x_input, x_inputLength, x_keptError, x_boiledOver, hI, rfl, rfl⟩ := hO
  have eB := hI.1
  obtain ⟨eD, hLN, h70, -⟩ := hI.2.2.2.1
  refine ⟨⟨LS, SE, hI.2.1, fun r hr => (hI.2.2.1.2.2.2 r hr).2⟩, hI.2.2.1.2.1, ?_, hI.2.2.2.2.1.1⟩
  have := hLN.1
  rw [← eD]
  omega
theorem txt_at {t : List Nat} {g : Nat → Int32} (h : TXT t g) {k : Nat} (hk : k < t.length) (h9 : k < 2147483648) : ((g (nI k).toNatClampNeg &&& 255).toUInt32 % 65536).toInt32 = nI (t.getD k 0) := by
  rw [nI_clamp h9, h.1 k hk]
  exact and255 (h.2.1 _ (getD_mem hk))
theorem c255 {c : Nat} (h : c < 128) : (nI c : Int32) ≤ 255 := nI_le (show c ≤ 255 by omega) (by decide)
section JX
variable {D : va_G} {cl : List vw_C} {A0 : Nat → Prop} {X wc wr u wo Xr Xc : va_W} {H H1 : Heap}
theorem joinX (hP : va_P D cl (X ++ wo) H) (hD : va_D A0 (X ++ wo)) (isC isR : List Nat) (hC : isC.map (fun i => X[i]?) = wc.map some) (hR : isR.map (fun i => X[i]?) = wr.map some) (hn : va_nd isR = true) (hdis : ∀ i ∈ isR, i ∉ isC) (hf : ∀ q, va_A wc H.size q → A0 q) (hk : ∀ q : Nat, q < H.size → ¬ va_A wc H.size q → H1[q]? = H[q]?) (h1 : va_P D cl u H1) (h2 : va_D (va_A wc H.size) u) : va_P D cl ((wr ++ u) ++ wo) H1 ∧ va_D A0 ((wr ++ u) ++ wo) := by
  obtain ⟨h3, h4⟩ := va_join (P_l hP) (D_l hD) isC isR hC hR hn hdis hk hf h1 h2
  have aw : ∀ {k : Nat} {q : Nat × va_E}, wo[k]? = some q → ¬ va_A wc H.size q.1 := fun {k q} hq hA => na_r hP hD isC hC k q hq hA
  refine ⟨h3.app ((P_r hP).kept (fun k q hq => hk q.1 ((P_r hP) k q hq).lt (aw hq))), h4.app (D_r hD) (fun i j p q hi hj e9 => ?_)⟩
  rcases at_app hi with ⟨k, hk9⟩ | ⟨k, hk9⟩
  · obtain ⟨k3, hk3⟩ := at_sub hR hk9
    exact D_x hD hk3 hj e9
  · have := h2.2 k p hk9
    rw [e9] at this
    exact aw hj this
theorem P_xc (h : va_P D cl (X ++ wo) H) (is : List Nat) (hs : is.map (fun i => X[i]?) = (Xr ++ Xc).map some) : va_P D cl (Xr ++ (Xc ++ wo)) H := by
  have h1 := P_perm h is hs
  rwa [List.append_assoc] at h1
theorem D_xc (h : va_D A0 (X ++ wo)) (is : List Nat) (hn : va_nd is = true) (hs : is.map (fun i => X[i]?) = (Xr ++ Xc).map some) : va_D A0 (Xr ++ (Xc ++ wo)) := by
  have h1 := D_perm h is hn hs
  rwa [List.append_assoc] at h1
theorem P_as (h : va_P D cl (Xr ++ (Xc ++ wo)) H) : va_P D cl ((Xr ++ Xc) ++ wo) H := by rwa [List.append_assoc]
theorem D_as (h : va_D A0 (Xr ++ (Xc ++ wo))) : va_D A0 ((Xr ++ Xc) ++ wo) := by rwa [List.append_assoc]
end JX
/-- ends of which a text, an array is the answer -/
abbrev QES (dC : Nat → ClassId) (dI : Nat → Nat → Nat) (cT : Nat → ClassId) (K : List Nat → va_W → Prop) (A : Nat → Prop) : Array Value → State → Outcome → State → Prop := va_Qr (S := List Nat × Nat × (Nat → Int32) × va_W) (fun u => TXT u.1 u.2.2.1 ∧ K u.1 u.2.2.2) (fun u b t => va_P (dC, dI) vwCl (STW cT b u.2.1 u.1.length u.2.2.1 ++ u.2.2.2) t.heap ∧ va_D A (STW cT b u.2.1 u.1.length u.2.2.1 ++ u.2.2.2)) A
abbrev QEA (dC : Nat → ClassId) (dI : Nat → Nat → Nat) (cT : Nat → ClassId) (ti : Nat) (K : Nat → (Nat → Int32) → va_W → Prop) (A : Nat → Prop) : Array Value → State → Outcome → State → Prop := va_Qr (S := Nat × (Nat → Int32) × va_W) (fun u => K u.1 u.2.1 u.2.2) (fun u b t => va_P (dC, dI) vwCl ([(b, .inl (cT ti, u.1, .inl u.2.1))] ++ u.2.2) t.heap ∧ va_D A ([(b, .inl (cT ti, u.1, .inl u.2.1))] ++ u.2.2)) A
section COY
variable {p : Program} {l : Launch} {e : Env} {R : Room} {s : State} {m : MethodId} {args : Array Value} {below : List Frame} {meth : Method} {c : Code} {H : Heap} {locs : List Loc} {cells slots : Nat} {Q : State → Prop} {pc : Nat} {ls : Array Slot} {rest st0 : List Value} {a : Array Value} {A0 : Nat → Prop} {H0 : Heap} {mc ms : Nat} {dC : Nat → ClassId} {dI : Nat → Nat → Nat} {cT : Nat → ClassId} {S : Type} {X wo wc wr : va_W}
theorem coS {K : List Nat → va_W → Prop} (hr : va_Run p l e R s m args below meth c H locs cells slots mc ms (F0 m pc ls st0) rest (QES dC dI cT K (va_A wo H.size) a) (va_A wo H.size)) (hS : va_S A0 H0 H locs) (hA : ∀ q, H0.size ≤ q → A0 q) (hP : va_P (dC, dI) vwCl (X ++ wo) H) (hD : va_D A0 (X ++ wo))
    (k : ∀ (t : List Nat) (v : Nat) (g : Nat → Int32) u (b : Nat) H1 locs1, TXT t g → K t u → va_P (dC, dI) vwCl ((X ++ STW cT b v t.length g) ++ u) H1 → va_D A0 ((X ++ STW cT b v t.length g) ++ u) → va_S A0 H0 H1 locs1 → W p l e R s m args below meth c H1 locs1 (cells + mc) (slots + ms) Q (F0 m (pc + 3) ls (.ref b :: rest))) : W p l e R s m args below meth c H locs cells slots Q (F0 m pc ls st0) := by
  have hf := freeO hD hS hA
  refine va_callr hr hS (fun q _ h => hf q h) hf (fun u b t H1 locs1 ht hvm hw hB hz hk hS1 => ?_)
  obtain ⟨h1, h2⟩ := hB
  rw [ht] at h1
  obtain ⟨h3, h4⟩ := joinO hP hD hf hk h1 h2
  exact k u.1 u.2.1 u.2.2.1 u.2.2.2 b H1 locs1 hw.1 hw.2 (P_as h3) (D_as h4) hS1
theorem coA {ti : Nat} {K : Nat → (Nat → Int32) → va_W → Prop} (hr : va_Run p l e R s m args below meth c H locs cells slots mc ms (F0 m pc ls st0) rest (QEA dC dI cT ti K (va_A wo H.size) a) (va_A wo H.size)) (hS : va_S A0 H0 H locs) (hA : ∀ q, H0.size ≤ q → A0 q) (hP : va_P (dC, dI) vwCl (X ++ wo) H) (hD : va_D A0 (X ++ wo))
    (k : ∀ (n : Nat) (g : Nat → Int32) u (b : Nat) H1 locs1, K n g u → va_P (dC, dI) vwCl ((X ++ [(b, .inl (cT ti, n, .inl g))]) ++ u) H1 → va_D A0 ((X ++ [(b, .inl (cT ti, n, .inl g))]) ++ u) → va_S A0 H0 H1 locs1 → W p l e R s m args below meth c H1 locs1 (cells + mc) (slots + ms) Q (F0 m (pc + 3) ls (.ref b :: rest))) : W p l e R s m args below meth c H locs cells slots Q (F0 m pc ls st0) := by
  have hf := freeO hD hS hA
  refine va_callr hr hS (fun q _ h => hf q h) hf (fun u b t H1 locs1 ht hvm hw hB hz hk hS1 => ?_)
  obtain ⟨h1, h2⟩ := hB
  rw [ht] at h1
  obtain ⟨h3, h4⟩ := joinO hP hD hf hk h1 h2
  exact k u.1 u.2.1 u.2.2 b H1 locs1 hw (P_as h3) (D_as h4) hS1
theorem cvX {post : S → Prop} {w1 : S → va_W} (hr : va_Run p l e R s m args below meth c H locs cells slots mc ms (F0 m pc ls st0) rest (va_Qv post (fun u t => va_P (dC, dI) vwCl (w1 u) t.heap ∧ va_D (va_A wc H.size) (w1 u)) (va_A wc H.size) a) (va_A wc H.size)) (hS : va_S A0 H0 H locs) (hA : ∀ q, H0.size ≤ q → A0 q) (hP : va_P (dC, dI) vwCl (X ++ wo) H) (hD : va_D A0 (X ++ wo)) (isC isR : List Nat) (hC : isC.map (fun i => X[i]?) = wc.map some) (hR : isR.map (fun i => X[i]?) = wr.map some) (hn : va_nd isR = true) (hdis : ∀ i ∈ isR, i ∉ isC)
    (k : ∀ (u : S) H1 locs1, post u → va_P (dC, dI) vwCl ((wr ++ w1 u) ++ wo) H1 → va_D A0 ((wr ++ w1 u) ++ wo) → va_S A0 H0 H1 locs1 → W p l e R s m args below meth c H1 locs1 (cells + mc) (slots + ms) Q (F0 m (pc + 3) ls rest)) : W p l e R s m args below meth c H locs cells slots Q (F0 m pc ls st0) := by
  have hf := va_free (D_l hD) hS hA isC hC
  refine va_callv hr hS (fun q _ h => hf q h) hf (fun u t H1 locs1 ht hvm hw hB hz hk hS1 => ?_)
  obtain ⟨h1, h2⟩ := hB
  rw [ht] at h1
  obtain ⟨h3, h4⟩ := joinX hP hD isC isR hC hR hn hdis hf hk h1 h2
  exact k u H1 locs1 hw h3 h4 hS1
theorem cqX {post : Option Nat → S → Prop} {w1 : S → va_W} (hr : va_Run p l e R s m args below meth c H locs cells slots mc ms (F0 m pc ls st0) rest (va_Qq post (fun u t => va_P (dC, dI) vwCl (w1 u) t.heap ∧ va_D (va_A wc H.size) (w1 u)) (va_A wc H.size) a) (va_A wc H.size)) (hS : va_S A0 H0 H locs) (hA : ∀ q, H0.size ≤ q → A0 q) (hP : va_P (dC, dI) vwCl (X ++ wo) H) (hD : va_D A0 (X ++ wo)) (isC isR : List Nat) (hC : isC.map (fun i => X[i]?) = wc.map some) (hR : isR.map (fun i => X[i]?) = wr.map some) (hn : va_nd isR = true) (hdis : ∀ i ∈ isR, i ∉ isC)
    (k : ∀ (r : Option Nat) (u : S) H1 locs1, post r u → va_P (dC, dI) vwCl ((wr ++ w1 u) ++ wo) H1 → va_D A0 ((wr ++ w1 u) ++ wo) → va_S A0 H0 H1 locs1 → W p l e R s m args below meth c H1 locs1 (cells + mc) (slots + ms) Q (F0 m (pc + 3) ls (va_rf r :: rest))) : W p l e R s m args below meth c H locs cells slots Q (F0 m pc ls st0) := by
  have hf := va_free (D_l hD) hS hA isC hC
  refine va_callq hr hS (fun q _ h => hf q h) hf (fun r u t H1 locs1 ht hvm hw hB hz hk hS1 => ?_)
  obtain ⟨h1, h2⟩ := hB
  rw [ht] at h1
  obtain ⟨h3, h4⟩ := joinX hP hD isC isR hC hR hn hdis hf hk h1 h2
  exact k r u H1 locs1 hw h3 h4 hS1
theorem crX {post : S → Prop} {w1 : S → Nat → va_W} (hr : va_Run p l e R s m args below meth c H locs cells slots mc ms (F0 m pc ls st0) rest (va_Qr post (fun u b t => va_P (dC, dI) vwCl (w1 u b) t.heap ∧ va_D (va_A wc H.size) (w1 u b)) (va_A wc H.size) a) (va_A wc H.size)) (hS : va_S A0 H0 H locs) (hA : ∀ q, H0.size ≤ q → A0 q) (hP : va_P (dC, dI) vwCl (X ++ wo) H) (hD : va_D A0 (X ++ wo)) (isC isR : List Nat) (hC : isC.map (fun i => X[i]?) = wc.map some) (hR : isR.map (fun i => X[i]?) = wr.map some) (hn : va_nd isR = true) (hdis : ∀ i ∈ isR, i ∉ isC)
    (k : ∀ (u : S) (b : Nat) H1 locs1, post u → va_P (dC, dI) vwCl ((wr ++ w1 u b) ++ wo) H1 → va_D A0 ((wr ++ w1 u b) ++ wo) → va_S A0 H0 H1 locs1 → W p l e R s m args below meth c H1 locs1 (cells + mc) (slots + ms) Q (F0 m (pc + 3) ls (.ref b :: rest))) : W p l e R s m args below meth c H locs cells slots Q (F0 m pc ls st0) := by
  have hf := va_free (D_l hD) hS hA isC hC
  refine va_callr hr hS (fun q _ h => hf q h) hf (fun u b t H1 locs1 ht hvm hw hB hz hk hS1 => ?_)
  obtain ⟨h1, h2⟩ := hB
  rw [ht] at h1
  obtain ⟨h3, h4⟩ := joinX hP hD isC isR hC hR hn hdis hf hk h1 h2
  exact k u b H1 locs1 hw h3 h4 hS1
end COY
