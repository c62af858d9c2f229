/-! TEXT: Strings, the base (gen/strs.py) -/
def SP (U : State) : Prop := va_Nw (.privateMethod yJ5_putStringAt_47b60) U ∧ va_Nw (.privateMethod yJ5_inflateIfNeededFor_a7421) U
theorem SP.same {u U : State} (hv : U.vm = u.vm) (h : SP u) : SP U := by
  have ha : u.vm.Alike U.vm := by rw [hv]; exact Vm.Alike.refl _
  exact ⟨nw_priv ha h.1, nw_priv ha h.2⟩
theorem SP.warm {s U : State} (hW : s.WarmedH U.vm) (h : SP s) : SP U := ⟨nw_priv hW.alike h.1, nw_priv hW.alike h.2⟩
/-- a String that isn't written: its address, its value's, its length, its bytes -/
def KS (a v n : Nat) (g : Nat → Int32) (A : Nat → Prop) (U : State) : Prop := va_O "java/lang/String" a A U U.heap ∧ va_OF "java/lang/String" "coder" "B" (.int 0) a A U U.heap ∧ va_OF "java/lang/String" "value" "[B" (.ref v) a A U U.heap ∧ va_T .byte v n (fun j => .int (g j)) A U U.heap
section KSS
variable {a v n : Nat} {g : Nat → Int32}
theorem KS.same {A : Nat → Prop} {u U : State} (hv : U.vm = u.vm) (hh : U.heap = u.heap) (h : KS a v n g A u) : KS a v n g A U := by
  have ha : u.vm.Alike U.vm := by rw [hv]; exact Vm.Alike.refl _
  obtain ⟨h1, h2, h3, h4⟩ := h
  refine ⟨?_, ?_, ?_, ?_⟩ <;> rw [hh]
  · exact h1.moved ha
  · exact h2.moved ha
  · exact h3.moved ha
  · exact h4.moved ha
theorem KS.call {A Ac : Nat → Prop} {s U : State} {H : Heap} {locs : List Loc} (h : KS a v n g A s) (hS : va_S A s.heap H locs) (hU : U.heap = H) (hW : s.WarmedH U.vm) (hf : ∀ q, Ac q → A q) : KS a v n g Ac U := by
  obtain ⟨h1, h2, h3, h4⟩ := h
  refine ⟨?_, ?_, ?_, ?_⟩ <;> rw [hU]
  · exact ((h1.kept hS.2.1).moved hW.alike).narrow hf
  · exact ((h2.kept hS.2.1).moved hW.alike).narrow hf
  · exact ((h3.kept hS.2.1).moved hW.alike).narrow hf
  · exact ((h4.kept hS.2.1).moved hW.alike).narrow hf
theorem KS.recv {A : Nat → Prop} {s : State} {H : Heap} {locs : List Loc} (h : KS a v n g A s) (hS : va_S A s.heap H locs) : ∃ cell : Cell, H[a]? = some cell ∧ cell.vm.isStatics = false ∧ s.vm.findClass RJ0 = some cell.cls := by
  obtain ⟨cell, h1, h2, h3, -⟩ := h.1.kept hS.2.1
  exact ⟨cell, h1, h2, h3⟩
end KSS
abbrev PJM (dC : Nat → ClassId) (dI : Nat → Nat → Nat) (cT : Nat → ClassId) (av : List Value) (Hh : Heap) (A : Nat → Prop) : Array Value → State → Prop := va_Pc av (fun U => U.heap = Hh ∧ va_K (dC, dI) vwCl (TYS cT) U ∧ ZS A U ∧ SP U)
theorem fbJM {dC : Nat → ClassId} {dI : Nat → Nat → Nat} {cT : Nat → ClassId} {av : List Value} {Hh : Heap} {A : Nat → Prop} : FrameBlind (PJM dC dI cT av Hh A) := fun a U g mk q => ⟨q.1, q.2.1, va_K.moved (u := U) (U := U.calling g mk a) (Vm.Alike.refl U.vm) q.2.2.1, ZS.same (u := U) (U := U.calling g mk a) rfl rfl q.2.2.2.1, SP.same (u := U) (U := U.calling g mk a) rfl q.2.2.2.2⟩
abbrev PJK (ka kv kn : Nat) (kg : Nat → Int32) (dC : Nat → ClassId) (dI : Nat → Nat → Nat) (cT : Nat → ClassId) (av : List Value) (Hh : Heap) (A : Nat → Prop) : Array Value → State → Prop := va_Pc av (fun U => U.heap = Hh ∧ va_K (dC, dI) vwCl (TYS cT) U ∧ ZS A U ∧ SP U ∧ KS ka kv kn kg A U)
theorem fbJK {ka kv kn : Nat} {kg : Nat → Int32} {dC : Nat → ClassId} {dI : Nat → Nat → Nat} {cT : Nat → ClassId} {av : List Value} {Hh : Heap} {A : Nat → Prop} : FrameBlind (PJK ka kv kn kg dC dI cT av Hh A) := fun a U g mk q => ⟨q.1, q.2.1, va_K.moved (u := U) (U := U.calling g mk a) (Vm.Alike.refl U.vm) q.2.2.1, ZS.same (u := U) (U := U.calling g mk a) rfl rfl q.2.2.2.1, SP.same (u := U) (U := U.calling g mk a) rfl q.2.2.2.2.1, KS.same (u := U) (U := U.calling g mk a) rfl rfl q.2.2.2.2.2⟩
theorem mp_J5_putStringAt_47b60 : MdP yJ5_putStringAt_47b60 cJ5_putStringAt_47b60 3 none 2 := ⟨am4 59, trivial, am1 11, am4 60, ⟨by decide +kernel, by decide +kernel, by decide +kernel⟩, rfl⟩
theorem mp_J5_inflateIfNeededFor_a7421 : MdP yJ5_inflateIfNeededFor_a7421 cJ5_inflateIfNeededFor_a7421 2 none 1 := ⟨am4 63, trivial, am1 11, am4 64, ⟨by decide +kernel, by decide +kernel, by decide +kernel⟩, rfl⟩
theorem mv_J5_getValue_6d5f1 : MdV RJ4 yJ5_getValue_6d5f1 cJ5_getValue_6d5f1 1 (some (.array .byte)) 0 := ⟨am4 129, am4 131, am1 11, am4 132, ⟨by decide +kernel, by decide +kernel, by decide +kernel⟩⟩
theorem mu_J5_append_cf1ce : MdU yJ5_append_cf1ce cJ5_append_cf1ce 3 (some (.object "java/lang/AbstractStringBuilder")) 1 := ⟨am3 220, am7 233, am2 146, am1 11, am3 221, ⟨by decide +kernel, by decide +kernel⟩⟩
theorem inst_J0 : Cond.instantiable RJ0 4 ∈ ALLW := am3 119
theorem ini_J0 : Cond.initialized RJ0 ∈ ALLW := am1 13
theorem wsO_good {own C owner : String} {idx : Nat} {x y : MethodName} {cc : ByteArray} {n : Nat} {ret : Option FieldType} (h1 : Cond.methodLink own idx x ∈ ALLW) (h2 : Cond.sameMethod x.cls owner x.name x.desc ∈ ALLW) (h3 : Cond.instanceMethod ⟨owner, x.name, x.desc⟩ ∈ ALLW) (h4 : Cond.selects C x y ∈ ALLW) (h5 : Cond.instanceMethod y ∈ ALLW) (h6 : Cond.initialized y.cls ∈ ALLW) (h7 : Cond.code y cc n ret ∈ ALLW) : GoodIn ALLW (va_wsO own idx C owner x y (wA y cc n ret)) := by
  intro w hw
  rcases List.mem_append.mp hw with hw | hw
  · simp only [List.mem_cons, List.not_mem_nil, or_false] at hw
    rcases hw with rfl | rfl | rfl | rfl | rfl | rfl
    · exact ⟨h1, good_of_word (List.mem_filter.mp h1).2⟩
    · exact ⟨h2, good_of_word (List.mem_filter.mp h2).2⟩
    · exact ⟨h3, good_of_word (List.mem_filter.mp h3).2⟩
    · exact ⟨h4, good_of_word (List.mem_filter.mp h4).2⟩
    · exact ⟨h5, good_of_word (List.mem_filter.mp h5).2⟩
    · exact ⟨h6, good_of_word (List.mem_filter.mp h6).2⟩
  · exact wA_good h7 w hw
theorem gd_len : GoodIn ALLW (va_wsO RJ0 549 RJ4 RJ5 yJ5_length_8abf5 yJ4_length_8abf5 (wA yJ4_length_8abf5 cJ4_length_8abf5 1 (some .int))) := wsO_good (am4 133) (am4 135) (am4 134) (am4 136) (am4 137) (am1 12) (am4 138)
/-- the law's literals: place, text, letters -/
def LITS : List (Nat × String × List Nat) := [(147, "", []), (162, "=", [61]), (164, "+", [43]), (166, "-", [45]), (168, "*", [42]), (170, "~", [126]), (172, "!", [33]), (174, "~+", [126, 43]), (312, ":", [58]), (314, "[", [91]), (316, ",", [44]), (318, "]", [93])]
def LT (A : Nat → Prop) (U : State) : Prop := SP U ∧ ∀ x ∈ LITS, ∃ sa sv, vk_R RL x.1 x.2.1 sa U ∧ KS sa sv x.2.2.length (fun j => nI (x.2.2.getD j 0)) A U
theorem LT.same {A : Nat → Prop} {u U : State} (hv : U.vm = u.vm) (hh : U.heap = u.heap) (h : LT A u) : LT A U := ⟨h.1.same hv, fun x hx => by
  obtain ⟨sa, sv, h1, h2⟩ := h.2 x hx
  exact ⟨sa, sv, vk_R.same hv h1, h2.same hv hh⟩⟩
theorem LT.call {A Ac : Nat → Prop} {s U : State} {H : Heap} {locs : List Loc} (h : LT A s) (hS : va_S A s.heap H locs) (hU : U.heap = H) (hW : s.WarmedH U.vm) (hf : ∀ q, Ac q → A q) : LT Ac U := ⟨h.1.warm hW, fun x hx => by
  obtain ⟨sa, sv, h1, h2⟩ := h.2 x hx
  exact ⟨sa, sv, vk_R.warm hW h1, h2.call hS hU hW hf⟩⟩
/-- the script -/
def SC (b n : Nat) (g : Nat → Int32) (A : Nat → Prop) (U : State) : Prop := va_T .int b n (fun j => .int (g j)) A U U.heap
theorem SC.same {b n : Nat} {g : Nat → Int32} {A : Nat → Prop} {u U : State} (hv : U.vm = u.vm) (hh : U.heap = u.heap) (h : SC b n g A u) : SC b n g A U := by
  have ha : u.vm.Alike U.vm := by rw [hv]; exact Vm.Alike.refl _
  unfold SC
  rw [hh]
  exact va_T.moved ha h
theorem SC.call {b n : Nat} {g : Nat → Int32} {A Ac : Nat → Prop} {s U : State} {H : Heap} {locs : List Loc} (h : SC b n g A s) (hS : va_S A s.heap H locs) (hU : U.heap = H) (hW : s.WarmedH U.vm) (hf : ∀ q, Ac q → A q) : SC b n g Ac U := by
  unfold SC
  rw [hU]
  exact va_T.narrow (va_T.moved hW.alike (va_T.kept h hS.2.1)) hf
section VLW
variable {p : Program} {l : Launch} {e : Env} {R : Room} {s : State} {m : MethodId} {args : Array Value} {below : List Frame} {meth : Method} {c : Code} {H : Heap} {locs : List Loc} {cells slots : Nat} {Q : State → Prop} {cc : ByteArray} {pc : Nat} {ls : Array Slot} {rest : List Value}
theorem va_ldcSW (hexec : p.tables.exec = Jvm.exec) (hb : c.code = cc) {own tx : String} {index q : Nat} (hown : s.vm.findClass own = some m.cls) (hZ : vk_R own index tx q s) (hdg : decode cc pc = .ok (.ldc_w index, 3))
    (k : W p l e R s m args below meth c H locs cells slots Q (F0 m (pc + 3) ls (.ref q :: rest))) : W p l e R s m args below meth c H locs cells slots Q (F0 m pc ls rest) := by
  intro T hT X
  obtain ⟨t, a1, b1⟩ := k T hT X
  exact ⟨t, X.ldcStringW hexec hown (text := tx) (a := q) hZ.1 hZ.2 (g := F0 m pc ls rest) rfl (by rw [hb]; exact hdg) t a1, b1⟩
end VLW
