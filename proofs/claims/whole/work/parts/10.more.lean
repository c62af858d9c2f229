theorem mth_maxint_s : Cond.static Lib.Math.max.name ∈ ALLW := am3 58
theorem mth_maxint_c : Cond.code Lib.Math.max.name Lib.Math.max.code 2 (some .int) ∈ ALLW := am3 59
theorem mth_minint_s : Cond.static Lib.Math.min.name ∈ ALLW := am3 55
theorem mth_minint_c : Cond.code Lib.Math.min.name Lib.Math.min.code 2 (some .int) ∈ ALLW := am3 56
theorem mth_maxlong_s : Cond.static Lib.MathLoose.max_long.x ∈ ALLW := am3 4
theorem mth_maxlong_c : Cond.code Lib.MathLoose.max_long.x Lib.MathLoose.max_long.code 4 (some .long) ∈ ALLW := am3 5
theorem mth_minlong_s : Cond.static Lib.MathLoose.min_long.x ∈ ALLW := am2 238
theorem mth_minlong_c : Cond.code Lib.MathLoose.min_long.x Lib.MathLoose.min_long.code 4 (some .long) ∈ ALLW := am2 239
theorem mth_abslong_s : Cond.static Lib.MathLoose.abs_long.x ∈ ALLW := am9 176
theorem mth_abslong_c : Cond.code Lib.MathLoose.abs_long.x Lib.MathLoose.abs_long.code 2 (some .long) ∈ ALLW := am9 177
theorem mth_i : Cond.initialized "java/lang/Math" ∈ ALLW := am1 21
theorem cp_n : Cond.native arraycopyName ∈ ALLW := am4 111
theorem cp_s : Cond.static arraycopyName ∈ ALLW := am4 110
theorem cp_i : Cond.initialized "java/lang/System" ∈ ALLW := am1 22
theorem fr_n : Cond.native ⟨"java/lang/Float", "floatToRawIntBits", "(F)I"⟩ ∈ ALLW := am8 153
theorem fr_s : Cond.static ⟨"java/lang/Float", "floatToRawIntBits", "(F)I"⟩ ∈ ALLW := am8 152
theorem fr_i : Cond.initialized "java/lang/Float" ∈ ALLW := am1 27
theorem dr_n : Cond.native ⟨"java/lang/Double", "doubleToRawLongBits", "(D)J"⟩ ∈ ALLW := am9 196
theorem dr_s : Cond.static ⟨"java/lang/Double", "doubleToRawLongBits", "(D)J"⟩ ∈ ALLW := am9 195
theorem dr_i : Cond.initialized "java/lang/Double" ∈ ALLW := am1 37
theorem MofWF {l : Launch} {y : MethodName} {ws ws' : List Cond} {rm : Room} {Pc : Array Value → State → Prop} {Qc : Array Value → State → Outcome → State → Prop} {mc ms : Nat} {free : Addr → Prop} {cc : ByteArray} {maxL : Nat} {ret : Option FieldType}
    (hy : plainFor y = true) (hw : ws = Cond.code y cc maxL ret :: ws')
    (body : ∀ p e s m args below meth c s₁, BodyLoose p l y (headSpec ws rm) cc maxL ret e s m args below meth c s₁ → c.maxLocals = maxL → Pc args s →
      W p l e (headSpec ws rm).room s m args below meth c s.heap [] 0 0 (MQ below Qc args s mc ms free) (entryFrame m args maxL)) : Met l y ws rm Pc Qc mc ms free := by
  refine MetFree.of_bodySF (code := cc) (maxLocals := maxL) (ret := ret) hy ?_ ?_
  · intro args s m h hn
    obtain ⟨meth, c, h1, h2, h3, h4, h5, h6, -, -⟩ := Cond.code_spec hn (atoms_spec (ws := ws) h _ (by rw [hw]; exact List.mem_cons_self))
    exact ⟨meth, c, h1, h2, h3, h4, h5, h6⟩
  · intro p e s m args below meth c s₁ B hml hP _
    have hh0 : s₁.heap = s.heap := by rw [B.state]; rfl
    obtain ⟨t, a1, o, b1, b2, b3⟩ := body p e s m args below meth c s₁ B hml hP s₁ hh0 (Stand.of_body B)
    exact ⟨t, o, a1, b1, b2, ⟨b3.1, b3.2⟩⟩
def cpok (sp dp n : Int32) (n0 n1 : Nat) : Bool := decide (¬ sp < 0 ∧ ¬ dp < 0 ∧ ¬ n < 0 ∧ sp.toNatClampNeg + n.toNatClampNeg ≤ n0 ∧ dp.toNatClampNeg + n.toNatClampNeg ≤ n1)
theorem cpok_ok {sp dp n : Int32} {n0 n1 : Nat} (h : cpok sp dp n n0 n1 = true) : ¬ sp < 0 ∧ ¬ dp < 0 ∧ ¬ n < 0 ∧ sp.toNatClampNeg + n.toNatClampNeg ≤ n0 ∧ dp.toNatClampNeg + n.toNatClampNeg ≤ n1 := of_decide_eq_true h
