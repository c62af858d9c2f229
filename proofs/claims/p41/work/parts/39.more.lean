theorem mth_maxint_s : Cond.static Lib.Math.max.name ∈ ALLW := am3 67
theorem mth_maxint_c : Cond.code Lib.Math.max.name Lib.Math.max.code 2 (some .int) ∈ ALLW := am3 68
theorem mth_minint_s : Cond.static Lib.Math.min.name ∈ ALLW := am3 59
theorem mth_minint_c : Cond.code Lib.Math.min.name Lib.Math.min.code 2 (some .int) ∈ ALLW := am3 60
theorem mth_maxlong_s : Cond.static Lib.MathLoose.max_long.x ∈ ALLW := am5 174
theorem mth_maxlong_c : Cond.code Lib.MathLoose.max_long.x Lib.MathLoose.max_long.code 4 (some .long) ∈ ALLW := am5 175
theorem mth_minlong_s : Cond.static Lib.MathLoose.min_long.x ∈ ALLW := am5 168
theorem mth_minlong_c : Cond.code Lib.MathLoose.min_long.x Lib.MathLoose.min_long.code 4 (some .long) ∈ ALLW := am5 169
theorem mth_i : Cond.initialized "java/lang/Math" ∈ ALLW := am1 19
theorem cp_n : Cond.native arraycopyName ∈ ALLW := am4 16
theorem cp_s : Cond.static arraycopyName ∈ ALLW := am4 15
theorem cp_i : Cond.initialized "java/lang/System" ∈ ALLW := am1 26
theorem ib_n : Cond.native ⟨"java/lang/Float", "intBitsToFloat", "(I)F"⟩ ∈ ALLW := am7 147
theorem ib_s : Cond.static ⟨"java/lang/Float", "intBitsToFloat", "(I)F"⟩ ∈ ALLW := am7 146
theorem ib_i : Cond.initialized "java/lang/Float" ∈ ALLW := am1 36
theorem dr_n : Cond.native ⟨"java/lang/Double", "doubleToRawLongBits", "(D)J"⟩ ∈ ALLW := am7 174
theorem dr_s : Cond.static ⟨"java/lang/Double", "doubleToRawLongBits", "(D)J"⟩ ∈ ALLW := am7 173
theorem dr_i : Cond.initialized "java/lang/Double" ∈ ALLW := am1 37
theorem MofWF {l : Launch} {y : MethodName} {ws ws' : List Cond} {rm : Room} {Pc : Array Value → State → Prop} {Qc : Array Value → State → Outcome → State → Prop} {mc ms : Nat} {free : Addr → Prop} {cc : ByteArray} {maxL : Nat} {ret : Option FieldType}
    (hy : plainFor y = true) (hw : ws = Cond.code y cc maxL ret :: ws')
    (body : ∀ p e s m args below meth c s₁, BodyLoose p l y (headSpec ws rm) cc maxL ret e s m args below meth c s₁ → c.maxLocals = maxL → Pc args s →
      W p l e (headSpec ws rm).room s m args below meth c s.heap [] 0 0 (MQ below Qc args s mc ms free) (entryFrame m args maxL)) : Met l y ws rm Pc Qc mc ms free := by
  refine MetFree.of_bodySF (code := cc) (maxLocals := maxL) (ret := ret) hy ?_ ?_
  · intro args s m h hn
    obtain ⟨meth, c, h1, h2, h3, h4, h5, h6, -, -⟩ := Cond.code_spec hn (atoms_spec (ws := ws) h _ (by rw [hw]; exact List.mem_cons_self))
    exact ⟨meth, c, h1, h2, h3, h4, h5, h6⟩
  · intro p e s m args below meth c s₁ B hml hP _
    have hh0 : s₁.heap = s.heap := by rw [B.state]; rfl
    obtain ⟨t, a1, o, b1, b2, b3⟩ := body p e s m args below meth c s₁ B hml hP s₁ hh0 (Stand.of_body B)
    exact ⟨t, o, a1, b1, b2, ⟨b3.1, b3.2⟩⟩
/-! spells: cells that are read, never written once they are made; what is known of them by their address -/
def spc (cT : Nat → ClassId) (sq : Nat → Nat → Nat) (SE : Nat → SV) (a : Nat) : va_W := [(a, .inr (11, [.ref (sq a 0), .int (SE a).2.2.1, .int (SE a).2.2.2.1, .int (SE a).2.2.2.2.1, .ref (sq a 1), .ref (sq a 2), .ref (sq a 3), .ref (sq a 4), .ref (sq a 5)])), (sq a 0, .inl (cT 2, (SE a).1, .inl (SE a).2.1)), (sq a 1, .inl (cT 2, 24, .inl (SE a).2.2.2.2.2.1)), (sq a 2, .inl (cT 0, 24, .inl (SE a).2.2.2.2.2.2.1)), (sq a 3, .inl (cT 0, 24, .inl (SE a).2.2.2.2.2.2.2.1)), (sq a 4, .inl (cT 0, 24, .inl (SE a).2.2.2.2.2.2.2.2.1)), (sq a 5, .inl (cT 0, 24, .inl (SE a).2.2.2.2.2.2.2.2.2))]
section SPO
variable {p : Program} {l : Launch} {e : Env} {R : Room} {s : State} {m : MethodId} {args : Array Value} {below : List Frame} {meth : Method} {c : Code} {H : Heap} {locs : List Loc} {cells slots : Nat} {Q : State → Prop} {pc : Nat} {ls : Array Slot} {rest : List Value} {cc : ByteArray}
theorem lv_splitO {r : Option Nat} (kn : r = none → W p l e R s m args below meth c H locs cells slots Q (F0 m pc ls (.null :: rest))) (ks : ∀ a, r = some a → W p l e R s m args below meth c H locs cells slots Q (F0 m pc ls (.ref a :: rest))) : W p l e R s m args below meth c H locs cells slots Q (F0 m pc ls (va_rf r :: rest)) := by
  cases r with
  | none => exact kn rfl
  | some a => exact ks a rfl
theorem any_of {D : va_G} {cl : List vw_C} {tys : List (ClassId × FieldType)} {ws : va_W} {ci q0 a : Nat} {r : vw_C} {vs : List Value} (hK : va_K D cl tys s) (hP : va_P D cl ws H) (he : ws[q0]? = some (a, .inr (ci, vs))) (hc : cl[ci]? = some r) : va_Any r.1 s H a := va_rAny hK hP he hc (fun comp c0 h1 h2 => by
  have hcls := (hK.1 ci r hc).2
  have e1 : comp = D.1 ci := Option.some.inj (h1.symm.trans hcls.1)
  have e2 : c0 = D.1 ci := Option.some.inj (h2.symm.trans hcls.1)
  rw [e1, e2]
  exact va_assign hcls)
theorem va_astR {D : va_G} {cl : List vw_C} {A : Nat → Prop} {a : Nat} {tys : List (ClassId × FieldType)} {ws : va_W} {H0 : Heap} (hexec : p.tables.exec = Jvm.exec) (hb : c.code = cc) (hK : va_K D cl tys s) (hP : va_P D cl ws H) (hD : va_D A ws) (hS : va_S A H0 H locs) (q0 t0 : Nat) {E : String} {cA : ClassId} {n : Nat} {v : Option Nat} {f : Nat → Option Nat} (ha : ws[q0]? = some (a, .inl (cA, n, .inr (.inr (.inr (.inr f)))))) (ht : tys[t0]? = some (cA, .object E)) (hr : ∀ v9, v = some v9 → va_Any E s H v9) {i : Int32} (hin : vp_in i n) (hdg : decode cc pc = .ok (.aastore, 1))
    (kk : ∀ (H1 : Heap) (locs1 : List Loc), va_P D cl (ws.set q0 (a, .inl (cA, n, .inr (.inr (.inr (.inr (va_up f i.toNatClampNeg v))))))) H1 → va_D A (ws.set q0 (a, .inl (cA, n, .inr (.inr (.inr (.inr (va_up f i.toNatClampNeg v))))))) → va_S A H0 H1 locs1 → W p l e R s m args below meth c H1 locs1 cells slots Q (F0 m (pc + 1) ls rest)) : W p l e R s m args below meth c H locs cells slots Q (F0 m pc ls (va_rf v :: .int i :: .ref a :: rest)) := by
  cases v with
  | none => exact va_astqN hexec hb hK hP hD hS q0 t0 ha ht hin hdg kk
  | some v => exact va_astqM hexec hb hK hP hD hS q0 t0 ha ht (hr v rfl) hin hdg kk
/-- what a callee only reads isn't what it writes -/
theorem nac {D : va_G} {cl : List vw_C} {A0 : Nat → Prop} {X wc ro Y : va_W} {H : Heap} (hP : va_P D cl X H) (hD : va_D A0 X) (isC : List Nat) (hC : isC.map (fun i => X[i]?) = wc.map some) (hF : ∀ q, va_A wc H.size q → A0 q) (hY : ∀ (k : Nat) (q : Nat × va_E), Y[k]? = some q → ¬ A0 q.1) (cd : List (Nat ⊕ Nat)) (hn : jok cd isC = true) (h2 : cd.map (jcode X Y) = ro.map some) : ∀ (k : Nat) (q : Nat × va_E), ro[k]? = some q → ¬ va_A wc H.size q.1 := by
  intro k q hq hA
  have h3 : (cd.map (jcode X Y))[k]? = some (some q) := by rw [h2, List.getElem?_map, hq]; rfl
  rw [List.getElem?_map] at h3
  cases hc : cd[k]? with
  | none => rw [hc] at h3; cases h3
  | some c =>
    rw [hc] at h3
    have h4 : jcode X Y c = some q := Option.some.inj h3
    cases c with
    | inl j => exact hY j q h4 (hF q.1 hA)
    | inr i =>
      have h5 : X[i]? = some q := h4
      have hi : i ∉ isC := of_decide_eq_true (List.all_eq_true.mp hn _ (List.mem_of_getElem? hc))
      rcases hA with ⟨j, e, hj⟩ | hlt
      · have h6 : (isC.map (fun i => X[i]?))[j]? = some (some (q.1, e)) := by rw [hC, List.getElem?_map, hj]; rfl
        rw [List.getElem?_map] at h6
        cases hx : isC[j]? with
        | none => rw [hx] at h6; cases h6
        | some i2 =>
          rw [hx] at h6
          have h7 : X[i2]? = some (q.1, e) := Option.some.inj h6
          have h8 := hD.1 i i2 q (q.1, e) h5 h7 rfl
          subst h8
          exact hi (List.mem_of_getElem? hx)
      · exact absurd (hP i q h5).lt (Nat.not_lt.mpr hlt)
theorem ds {A : Nat → Prop} {ws ws' : va_W} (hD : va_D A ws) (is : List Nat) (hn : va_nd is = true) (hs : is.map (fun i => ws[i]?) = ws'.map some) : va_D (fun _ => True) ws' := (hD.sub is hn hs).weaken (fun _ _ _ _ => trivial)
theorem na_nil {A0 : Nat → Prop} : ∀ (k : Nat) (q : Nat × va_E), ([] : va_W)[k]? = some q → ¬ A0 q.1 := fun _ _ h => by cases h
theorem na_app {A0 : Nat → Prop} {X Y : va_W} (h1 : ∀ (k : Nat) (q : Nat × va_E), X[k]? = some q → ¬ A0 q.1) (h2 : ∀ (k : Nat) (q : Nat × va_E), Y[k]? = some q → ¬ A0 q.1) : ∀ (k : Nat) (q : Nat × va_E), (X ++ Y)[k]? = some q → ¬ A0 q.1 := by
  intro k q hk
  rcases List.mem_append.mp (List.mem_of_getElem? hk) with h | h
  · obtain ⟨i, hi⟩ := List.getElem?_of_mem h
    exact h1 i q hi
  · obtain ⟨i, hi⟩ := List.getElem?_of_mem h
    exact h2 i q hi
end SPO

