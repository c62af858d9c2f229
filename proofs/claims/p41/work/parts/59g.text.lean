/-! TEXT: StringBuilder, the base (gen/mkbase4.py) -/
def DO (j : Nat) : Value := .int (nI (48 + j % 10))
def DT (j : Nat) : Value := .int (nI (48 + j / 10))
/-- statics of the JDK that text needs -/
def ZS (A : Nat → Prop) (U : State) : Prop := va_Z "java/lang/String" "COMPACT_STRINGS" "Z" (.int 1) A U U.heap ∧ (∃ t, va_Z "java/lang/Integer" "DigitOnes" "[B" (.ref t) A U U.heap ∧ va_T .byte t 100 DO A U U.heap) ∧ (∃ t, va_Z "java/lang/Integer" "DigitTens" "[B" (.ref t) A U U.heap ∧ va_T .byte t 100 DT A U U.heap) ∧ va_Zq "jdk/internal/util/Preconditions" "SIOOBE_FORMATTER" "Ljava/util/function/BiFunction;" A U U.heap ∧ va_Nw (.privateMethod yJ5_ensureCapacityInternal_d00df) U ∧ va_Nw (.privateMethod yJ5_newCapacity_0f7a4) U
theorem nw_priv {y : MethodName} {s U : State} (hW : s.vm.Alike U.vm) (hZ : va_Nw (.privateMethod y) s) : va_Nw (.privateMethod y) U := va_tabs rfl (rfl : (s.setVm U.vm).vm = U.vm) (by rw [Cond.privateMethod_setVm hW]; exact hZ)
theorem ZS.same {A : Nat → Prop} {u U : State} (hv : U.vm = u.vm) (hh : U.heap = u.heap) (h : ZS A u) : ZS A U := by
  have ha : u.vm.Alike U.vm := by rw [hv]; exact Vm.Alike.refl _
  obtain ⟨h1, ⟨t, h2, h3⟩, ⟨t2, h4, h5⟩, h6, h7, h8⟩ := h
  refine ⟨?_, ⟨t, ?_, ?_⟩, ⟨t2, ?_, ?_⟩, ?_, nw_priv ha h7, nw_priv ha h8⟩ <;> rw [hh]
  · exact h1.moved ha
  · exact h2.moved ha
  · exact h3.moved ha
  · exact h4.moved ha
  · exact h5.moved ha
  · exact h6.moved ha
theorem ZS.call {A Ac : Nat → Prop} {s U : State} {H : Heap} {locs : List Loc} (h : ZS A s) (hS : va_S A s.heap H locs) (hU : U.heap = H) (hW : s.WarmedH U.vm) (hf : ∀ q, Ac q → A q) : ZS Ac U := by
  obtain ⟨h1, ⟨t, h2, h3⟩, ⟨t2, h4, h5⟩, h6, h7, h8⟩ := h
  refine ⟨?_, ⟨t, ?_, ?_⟩, ⟨t2, ?_, ?_⟩, ?_, nw_priv hW.alike h7, nw_priv hW.alike h8⟩ <;> rw [hU]
  · exact ((h1.kept hS.2.1).moved hW.alike).narrow hf
  · exact ((h2.kept hS.2.1).moved hW.alike).narrow hf
  · exact ((h3.kept hS.2.1).moved hW.alike).narrow hf
  · exact ((h4.kept hS.2.1).moved hW.alike).narrow hf
  · exact ((h5.kept hS.2.1).moved hW.alike).narrow hf
  · exact ((h6.kept hS.2.1).moved hW.alike).narrow hf
abbrev PJ (dC : Nat → ClassId) (dI : Nat → Nat → Nat) (cT : Nat → ClassId) (av : List Value) (Hh : Heap) (A : Nat → Prop) : Array Value → State → Prop := va_Pc av (fun U => U.heap = Hh ∧ va_K (dC, dI) vwCl (TYS cT) U ∧ ZS A U)
theorem fbJ {dC : Nat → ClassId} {dI : Nat → Nat → Nat} {cT : Nat → ClassId} {av : List Value} {Hh : Heap} {A : Nat → Prop} : FrameBlind (PJ dC dI cT av Hh A) := fun a U g mk q => ⟨q.1, q.2.1, va_K.moved (u := U) (U := U.calling g mk a) (Vm.Alike.refl U.vm) q.2.2.1, ZS.same (u := U) (U := U.calling g mk a) rfl rfl q.2.2.2⟩
/-- a private method of a superclass is selected whatever the receiver's class -/
theorem sel_priv {y z : MethodName} {C : String} {args : Array Value} {s : State} (hz : (Cond.selects C z z).before args s = true) (hzi : (Cond.instanceMethod z).before args s = true) (hcls : y.cls = z.cls) (hpriv : (Cond.privateMethod y).before args s = true) (hinst : (Cond.instanceMethod y).before args s = true) (hy : y.cls ≠ "java/lang/invoke/MethodHandle" ∧ y.cls ≠ "java/lang/invoke/VarHandle") : (Cond.selects C y y).before args s = true := by
  obtain ⟨c, r, mz, hc, hr, hm, hsel, kP, hkP, hni⟩ := Cond.selects_spec hz
  obtain ⟨mk, methM, hnamed, hmethM, -, -⟩ := Cond.instanceMethod_spec hinst
  have hfound : s.methodFound? y.cls y.name y.desc = some mk := State.methodFound?_of_named hnamed hy
  have h1 := findClass_of_methodNamed hnamed
  have h2 := findClass_of_methodNamed hm
  rw [hcls] at h1
  have hcls2 : mk.cls = mz.cls := Option.some.inj (h1.symm.trans h2)
  have hsel2 : selectMethod {} s.vm c mk = .method mk := selectMethod_private hmethM (Cond.privateMethod_at hpriv mk methM hnamed hmethM)
  simp only [Cond.before, Cond.holds, Cond.value, hc, hfound, hnamed, hsel2, hcls2, hkP]
  simp
  exact hni
def MdP (y : MethodName) (bytes : ByteArray) (maxL : Nat) (ret : Option FieldType) (n : Nat) : Prop :=
  Cond.instanceMethod y ∈ ALLW ∧ True ∧ Cond.initialized y.cls ∈ ALLW ∧ Cond.code y bytes maxL ret ∈ ALLW ∧ (y.cls ≠ "java/lang/invoke/MethodHandle" ∧ y.cls ≠ "java/lang/invoke/VarHandle" ∧ (parseMethodDescriptor y.desc).map (fun d => d.parameters.length) = some n) ∧ y.cls = RJ5
def MdU (y : MethodName) (bytes : ByteArray) (maxL : Nat) (ret : Option FieldType) (n : Nat) : Prop :=
  Cond.instanceMethod y ∈ ALLW ∧ Cond.sameMethod y.cls y.cls y.name y.desc ∈ ALLW ∧ Cond.superclass RJ4 y.cls ∈ ALLW ∧ Cond.initialized y.cls ∈ ALLW ∧ Cond.code y bytes maxL ret ∈ ALLW ∧ (y.name ≠ "<init>" ∧ (parseMethodDescriptor y.desc).map (fun d => d.parameters.length) = some n)
theorem lat_sel : Cond.selects RJ4 yJ5_isLatin1_aae02 yJ5_isLatin1_aae02 ∈ ALLW := am4 20
theorem lat_inst : Cond.instanceMethod yJ5_isLatin1_aae02 ∈ ALLW := am4 18
section CWJ
variable {own C : String} {index maxL n : Nat} {y : MethodName} {bytes : ByteArray} {ret : Option FieldType} {rm R : Room} {s : State} {args : Array Value}
theorem cVP (hpv : va_Nw (.privateMethod y) s) (hta : ∀ w ∈ ALLW, w.before args s = true) (hl : Cond.methodLink own index y ∈ ALLW) (M : MdP y bytes maxL ret n) (hR : rm.frames + 1 ≤ R.frames ∧ 8 + (maxL + 11) + rm.locals ≤ R.locals) : CallW R s args own RJ4 index y bytes maxL ret (wA y bytes maxL ret) rm rm.cells rm.slots n :=
  ⟨callB_of n hta (wA_good M.2.2.2.1) rfl rfl rfl (hta _ M.2.2.1) (hta _ hl) M.2.2.2.2.1 hR, hta _ M.1, sel_priv (hta _ lat_sel) (hta _ lat_inst) M.2.2.2.2.2 (va_Nw.use rfl hpv) (hta _ M.1) ⟨M.2.2.2.2.1.1, M.2.2.2.2.1.2.1⟩⟩
theorem cSU (hta : ∀ w ∈ ALLW, w.before args s = true) (hl : Cond.methodLink RJ4 index y ∈ ALLW) (M : MdU y bytes maxL ret n) (hR : rm.frames + 1 ≤ R.frames ∧ 8 + (maxL + 11) + rm.locals ≤ R.locals) : va_CS R s args RJ4 index y bytes maxL ret (wA y bytes maxL ret) rm rm.cells rm.slots n := by
  refine ⟨⟨rfl, rfl, hR.1, hR.2, pay_in hta (wA_good M.2.2.2.2.1), List.mem_cons_self⟩, hta _ hl, hta _ M.2.1, hta _ M.2.2.1, hta _ M.1, hta _ M.2.2.2.1, hta _ M.2.2.2.2.1, M.2.2.2.2.2.1, fun sig h => ?_⟩
  have h2 := M.2.2.2.2.2.2
  rw [h] at h2
  exact (Option.some.inj h2).symm
end CWJ
theorem mp_J5_ensureCapacityInternal_d00df : MdP yJ5_ensureCapacityInternal_d00df cJ5_ensureCapacityInternal_d00df 3 none 1 := ⟨am3 228, trivial, am1 11, am3 229, ⟨by decide +kernel, by decide +kernel, by decide +kernel⟩, rfl⟩
theorem mp_J5_newCapacity_0f7a4 : MdP yJ5_newCapacity_0f7a4 cJ5_newCapacity_0f7a4 6 (some .int) 1 := ⟨am3 232, trivial, am1 11, am3 233, ⟨by decide +kernel, by decide +kernel, by decide +kernel⟩, rfl⟩
theorem mv_J5_isLatin1_aae02 : MdV RJ4 yJ5_isLatin1_aae02 cJ5_isLatin1_aae02 1 (some .boolean) 0 := ⟨lat_inst, lat_sel, am1 11, am4 21, ⟨by decide +kernel, by decide +kernel, by decide +kernel⟩⟩
theorem mu_J5_setLength_d00df : MdU yJ5_setLength_d00df cJ5_setLength_d00df 2 none 1 := ⟨am5 210, am8 2, am2 146, am1 11, am5 211, ⟨by decide +kernel, by decide +kernel⟩⟩
theorem mu_J5_append_3fe6f : MdU yJ5_append_3fe6f cJ5_append_3fe6f 2 (some (.object "java/lang/AbstractStringBuilder")) 1 := ⟨am4 184, am8 1, am2 146, am1 11, am4 185, ⟨by decide +kernel, by decide +kernel⟩⟩
theorem mu_J5_append_c97b9 : MdU yJ5_append_c97b9 cJ5_append_c97b9 4 (some (.object "java/lang/AbstractStringBuilder")) 1 := ⟨am4 96, am8 0, am2 146, am1 11, am4 97, ⟨by decide +kernel, by decide +kernel⟩⟩
theorem mu_J5_length_8abf5 : MdU yJ5_length_8abf5 cJ5_length_8abf5 1 (some .int) 0 := ⟨am4 134, am4 135, am2 146, am1 11, am4 140, ⟨by decide +kernel, by decide +kernel⟩⟩
theorem mu_J5_charAt_5068e : MdU yJ5_charAt_5068e cJ5_charAt_5068e 5 (some .char) 1 := ⟨am6 48, am8 4, am2 146, am1 11, am6 49, ⟨by decide +kernel, by decide +kernel⟩⟩
