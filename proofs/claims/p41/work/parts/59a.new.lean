/-! MADE CELLS (gen/mkbase3.py) -/
theorem ac_boolean : Cond.arrayClass (newarray.typeOf .boolean) ∈ ALLW := am1 76
theorem ac_int : Cond.arrayClass (newarray.typeOf .int) ∈ ALLW := am1 77
theorem ac_char : Cond.arrayClass (newarray.typeOf .char) ∈ ALLW := am1 237
theorem ac_long : Cond.arrayClass (newarray.typeOf .long) ∈ ALLW := am2 37
theorem ac_float : Cond.arrayClass (newarray.typeOf .float) ∈ ALLW := am1 78
theorem ac_byte : Cond.arrayClass (newarray.typeOf .byte) ∈ ALLW := am2 147
theorem oi_i : Cond.instanceMethod Lib.objectInit ∈ ALLW := am1 47
theorem oi_c : Cond.code Lib.objectInit ⟨#[0xb1]⟩ 1 none ∈ ALLW := am1 48
theorem inst_X0 : Cond.instantiable RX0 11 ∈ ALLW := am1 50
theorem ini_X0 : Cond.initialized RX0 ∈ ALLW := am1 2
theorem inst_X1 : Cond.instantiable RX1 2 ∈ ALLW := am1 56
theorem ini_X1 : Cond.initialized RX1 ∈ ALLW := am1 3
theorem inst_X2 : Cond.instantiable RX2 10 ∈ ALLW := am2 55
theorem ini_X2 : Cond.initialized RX2 ∈ ALLW := am1 9
theorem inst_X3 : Cond.instantiable RX3 3 ∈ ALLW := am2 100
theorem ini_X3 : Cond.initialized RX3 ∈ ALLW := am1 10
theorem inst_X4 : Cond.instantiable RX4 3 ∈ ALLW := am1 136
theorem ini_X4 : Cond.initialized RX4 ∈ ALLW := am1 4
theorem inst_X6 : Cond.instantiable RX6 12 ∈ ALLW := am1 187
theorem ini_X6 : Cond.initialized RX6 ∈ ALLW := am1 6
theorem inst_X7 : Cond.instantiable RX7 6 ∈ ALLW := am1 156
theorem ini_X7 : Cond.initialized RX7 ∈ ALLW := am1 5
theorem inst_X8 : Cond.instantiable RX8 9 ∈ ALLW := am5 53
theorem ini_X8 : Cond.initialized RX8 ∈ ALLW := am1 32
theorem inst_X9 : Cond.instantiable RX9 9 ∈ ALLW := am1 239
theorem ini_X9 : Cond.initialized RX9 ∈ ALLW := am1 7
theorem inst_X10 : Cond.instantiable RX10 3 ∈ ALLW := am2 39
theorem ini_X10 : Cond.initialized RX10 ∈ ALLW := am1 8
theorem inst_X11 : Cond.instantiable RX11 15 ∈ ALLW := am1 42
theorem ini_X11 : Cond.initialized RX11 ∈ ALLW := am1 1
theorem inst_J4 : Cond.instantiable RJ4 4 ∈ ALLW := am2 116
theorem ini_J4 : Cond.initialized RJ4 ∈ ALLW := am1 12
theorem cl_n : Cond.native ⟨"java/lang/Object", "clone", "()Ljava/lang/Object;"⟩ ∈ ALLW := am4 8
theorem cl_i : Cond.instanceMethod ⟨"java/lang/Object", "clone", "()Ljava/lang/Object;"⟩ ∈ ALLW := am4 9
theorem cls_C : Cond.sameMethod "[C" "java/lang/Object" "clone" "()Ljava/lang/Object;" ∈ ALLW := am5 61
theorem cll_C : Cond.selects "[C" ⟨"[C", "clone", "()Ljava/lang/Object;"⟩ ⟨"java/lang/Object", "clone", "()Ljava/lang/Object;"⟩ ∈ ALLW := am5 62
theorem cls_I : Cond.sameMethod "[I" "java/lang/Object" "clone" "()Ljava/lang/Object;" ∈ ALLW := am5 66
theorem cll_I : Cond.selects "[I" ⟨"[I", "clone", "()Ljava/lang/Object;"⟩ ⟨"java/lang/Object", "clone", "()Ljava/lang/Object;"⟩ ∈ ALLW := am5 67
theorem cls_B : Cond.sameMethod "[B" "java/lang/Object" "clone" "()Ljava/lang/Object;" ∈ ALLW := am4 7
theorem cll_B : Cond.selects "[B" ⟨"[B", "clone", "()Ljava/lang/Object;"⟩ ⟨"java/lang/Object", "clone", "()Ljava/lang/Object;"⟩ ∈ ALLW := am4 10
def NXM : List (String × Nat × MethodName × String) := [("CauldronTypes", 9, yX0_init, "CauldronTypes"), ("CauldronTypes", 32, yX7_init, "CauldronTypes"), ("CauldronTypes", 39, yX6_init, "CauldronTypes"), ("CauldronTypes", 46, yX9_init, "CauldronTypes"), ("CauldronTypes", 53, yX10_init, "CauldronTypes"), ("CauldronTypes", 60, yX2_init, "CauldronTypes"), ("CauldronTypes", 67, yX3_init, "CauldronTypes"), ("CauldronTypes$Book", 24, yX1_init, "CauldronTypes"), ("CauldronTypes$Cooking", 11, yX1_init, "CauldronTypes"), ("CauldronTypes$History", 17, yX0_init, "CauldronTypes")]
/-- words that no table of good words holds: constructors of nest mates, clones of arrays -/
def NX (U : State) : Prop := (∀ x ∈ NXM, va_Nw (.methodLinkNest x.1 x.2.1 x.2.2.1 x.2.2.2) U) ∧ va_Nw (.castable "[C" "java/lang/Cloneable") U ∧ va_Nw (.castable "[I" "java/lang/Cloneable") U ∧ va_Nw (.castable "[B" "java/lang/Cloneable") U ∧ va_AO "CauldronTypes$Spell" U ∧ va_AO "CauldronTypes$Book" U
theorem NX.warm {s U : State} (hW : s.WarmedH U.vm) (h : NX s) : NX U := ⟨fun x hx => va_Nw.warmM hW (h.1 x hx), va_Nw.warmC hW h.2.1, va_Nw.warmC hW h.2.2.1, va_Nw.warmC hW h.2.2.2.1, h.2.2.2.2.1.moved hW.alike, h.2.2.2.2.2.moved hW.alike⟩
theorem NX.same {u U : State} (hv : u.vm = U.vm) (h : NX u) : NX U := ⟨fun x hx => va_Nw.same rfl hv (h.1 x hx), va_Nw.same rfl hv h.2.1, va_Nw.same rfl hv h.2.2.1, va_Nw.same rfl hv h.2.2.2.1, h.2.2.2.2.1.moved (by rw [hv]; exact Vm.Alike.refl _), h.2.2.2.2.2.moved (by rw [hv]; exact Vm.Alike.refl _)⟩
abbrev PN (dC : Nat → ClassId) (dI : Nat → Nat → Nat) (cT : Nat → ClassId) (av : List Value) (Hh : Heap) : Array Value → State → Prop := va_Pc av (fun U => U.heap = Hh ∧ va_K (dC, dI) vwCl (TYS cT) U ∧ NX U)
theorem fbN {dC : Nat → ClassId} {dI : Nat → Nat → Nat} {cT : Nat → ClassId} {av : List Value} {Hh : Heap} : FrameBlind (PN dC dI cT av Hh) := fun a U g mk q => ⟨q.1, q.2.1, va_K.moved (u := U) (U := U.calling g mk a) (Vm.Alike.refl U.vm) q.2.2.1, NX.same (u := U) (U := U.calling g mk a) rfl q.2.2.2⟩
abbrev PXN (dC : Nat → ClassId) (dI : Nat → Nat → Nat) (cT : Nat → ClassId) (av : List Value) (Hh : Heap) (A : Nat → Prop) : Array Value → State → Prop := va_Pc av (fun U => U.heap = Hh ∧ va_K (dC, dI) vwCl (TYS cT) U ∧ XS A U ∧ NX U)
theorem fbXN {dC : Nat → ClassId} {dI : Nat → Nat → Nat} {cT : Nat → ClassId} {av : List Value} {Hh : Heap} {A : Nat → Prop} : FrameBlind (PXN dC dI cT av Hh A) := fun a U g mk q => ⟨q.1, q.2.1, va_K.moved (u := U) (U := U.calling g mk a) (Vm.Alike.refl U.vm) q.2.2.1, XS.same (u := U) (U := U.calling g mk a) rfl rfl q.2.2.2.1, NX.same (u := U) (U := U.calling g mk a) rfl q.2.2.2.2⟩
/-- an end of which the caller learns the fresh addresses -/
abbrev QN (dC : Nat → ClassId) (dI : Nat → Nat → Nat) (w1 : (Nat → Nat) → va_W) (A : Nat → Prop) : Array Value → State → Outcome → State → Prop := va_Qv (S := Nat → Nat) (fun _ => True) (fun u t => va_P (dC, dI) vwCl (w1 u) t.heap ∧ va_D A (w1 u)) A
theorem nm_C {s : State} {cA : ClassId} (h : va_RA s cA .char) : s.vm.findClass "[C" = some cA := by
  have e : "[" ++ FieldType.char.toString = "[C" := by decide +kernel
  rw [← e]
  exact h
theorem nm_I {s : State} {cA : ClassId} (h : va_RA s cA .int) : s.vm.findClass "[I" = some cA := by
  have e : "[" ++ FieldType.int.toString = "[I" := by decide +kernel
  rw [← e]
  exact h
theorem nm_B {s : State} {cA : ClassId} (h : va_RA s cA .byte) : s.vm.findClass "[B" = some cA := by
  have e : "[" ++ FieldType.byte.toString = "[B" := by decide +kernel
  rw [← e]
  exact h
theorem mm60 {k : Nat} (hk : k ≤ 60) : (if (0 : Int32) < (if 60 < nI k then 60 else nI k) then (if 60 < nI k then 60 else nI k) else (0 : Int32)) = nI k := by
  have h1 : ¬ (60 : Int32) < nI k := fun h => by
    have h2 : nI 60 < nI k := h
    rw [nI_ltI (by omega) (by omega)] at h2
    omega
  rw [if_neg h1]
  by_cases h2 : (0 : Int32) < nI k
  · rw [if_pos h2]
  · rw [if_neg h2]
    have h3 : ¬ nI 0 < nI k := h2
    rw [nI_ltI (by omega) (by omega)] at h3
    have h4 : k = 0 := by omega
    subst h4; rfl
theorem cp60 {k : Nat} (hk : k ≤ 60) : cpok 0 0 (nI k) 60 k = true := by
  refine decide_eq_true ⟨by decide, by decide, nI_pos (by omega), ?_, ?_⟩ <;> rw [nI_clamp (by omega)] <;> show 0 + k ≤ _ <;> omega
theorem cpft {k : Nat} (hk : k ≤ 60) {f : Nat → Int32} (hf : ∀ j, j < 60 → fits .char (.int (f j)) = true) : ∀ i, i < (nI k).toNatClampNeg → fits .char (.int (f ((0 : Int32).toNatClampNeg + i))) = true := by
  intro i hi
  rw [nI_clamp (by omega)] at hi
  have e : (0 : Int32).toNatClampNeg + i = i := by rw [show (0 : Int32).toNatClampNeg = 0 from rfl]; omega
  rw [e]
  exact hf i (by omega)
section CIW
variable {own : String} {index maxL n : Nat} {y : MethodName} {host : String} {bytes : ByteArray} {rm R : Room} {s : State} {args : Array Value}
theorem cI (hta : ∀ w ∈ ALLW, w.before args s = true) (hl : Cond.methodLink own index y ∈ ALLW) (M : MdI y bytes maxL n) (hR : rm.frames + 1 ≤ R.frames ∧ 8 + (maxL + 11) + rm.locals ≤ R.locals) : CallB R s args own index y bytes maxL none (wA y bytes maxL none) rm rm.cells rm.slots n ∧ y.name = "<init>" ∧ (Cond.instanceMethod y).before args s = true :=
  ⟨callB_of n hta (wA_good M.2.2.1) rfl rfl rfl (hta _ M.2.1) (hta _ hl) M.2.2.2.1 hR, M.2.2.2.2, hta _ M.1⟩
theorem cIN (hta : ∀ w ∈ ALLW, w.before args s = true) (hl : va_Nw (.methodLinkNest own index y host) s) (M : MdI y bytes maxL n) (hR : rm.frames + 1 ≤ R.frames ∧ 8 + (maxL + 11) + rm.locals ≤ R.locals) : va_CN R s args own index y host bytes maxL none (wA y bytes maxL none) rm rm.cells rm.slots n ∧ y.name = "<init>" ∧ (Cond.instanceMethod y).before args s = true :=
  ⟨va_cnB n hta (wA_good M.2.2.1) rfl rfl rfl hl (hta _ M.2.1) M.2.2.2.1 hR, M.2.2.2.2, hta _ M.1⟩
end CIW
section NEWC
variable {p : Program} {l : Launch} {e : Env} {R : Room} {s : State} {m : MethodId} {args : Array Value} {below : List Frame} {meth : Method} {c : Code} {H : Heap} {locs : List Loc} {cells slots : Nat} {Q : State → Prop} {pc : Nat} {ls : Array Slot} {rest st0 : List Value} {a : Array Value} {A0 : Nat → Prop} {H0 : Heap} {mc ms : Nat} {dC : Nat → ClassId} {dI : Nat → Nat → Nat}
theorem cfV {X wc wr : va_W} {w1 : (Nat → Nat) → va_W} (hr : va_Run p l e R s m args below meth c H locs cells slots mc ms (F0 m pc ls st0) rest (QN dC dI w1 (va_A wc H.size) a) (va_A wc H.size)) (hS : va_S A0 H0 H locs) (hA : ∀ q, H0.size ≤ q → A0 q) (hP : va_P (dC, dI) vwCl X H) (hD : va_D A0 X) (isC isR : List Nat) (hC : isC.map (fun i => X[i]?) = wc.map some) (hR : isR.map (fun i => X[i]?) = wr.map some) (hn : va_nd isR = true) (hdis : ∀ i ∈ isR, i ∉ isC)
    (k : ∀ (u : Nat → Nat) H1 locs1, va_P (dC, dI) vwCl (wr ++ w1 u) H1 → va_D A0 (wr ++ w1 u) → va_S A0 H0 H1 locs1 → W p l e R s m args below meth c H1 locs1 (cells + mc) (slots + ms) Q (F0 m (pc + 3) ls rest)) : W p l e R s m args below meth c H locs cells slots Q (F0 m pc ls st0) := by
  have hf := va_free hD hS hA isC hC
  refine va_callv hr hS (fun q _ h => hf q h) hf (fun u t H1 locs1 ht hvm hw hB hz hk hS1 => ?_)
  obtain ⟨h1, h2⟩ := hB
  rw [ht] at h1
  obtain ⟨h3, h4⟩ := va_join hP hD isC isR hC hR hn hdis hk hf h1 h2
  exact k u H1 locs1 h3 h4 hS1
variable {D : va_G} {cl : List vw_C} {A : Nat → Prop} {tys : List (ClassId × FieldType)} {ws : va_W} {cc : ByteArray}
theorem va_newaT (hexec : p.tables.exec = Jvm.exec) (hb : c.code = cc) {atype : ArrayType} (harr : (Cond.arrayClass (newarray.typeOf atype)).before args s = true) {ty : FieldType} (hty : newarray.typeOf atype = ty) (hprim : ∀ C, ty ≠ .object C) (t0 : Nat) {cA : ClassId} (ht : tys[t0]? = some (cA, ty)) (hK : va_K D cl tys s) (hP : va_P D cl ws H) (hD : va_D A ws) (hS : va_S A H0 H locs) (hA : ∀ q, H0.size ≤ q → A q)
    {n : Int32} {N' : Nat} {a0 : vp_A} (ha : ∀ cA : ClassId, vp_cell cA a0 = arrV cA N' (fun _ => defaultValue ty)) (hn : ¬ n < 0) (hN : n.toNatClampNeg = N') (hbytes : N' * componentBytes ty ≤ 536870912) (hcells : cells + 1 ≤ R.cells) (hslots : slots + N' ≤ R.slots) (hdg : decode cc pc = .ok (.newarray atype, 2))
    (kk : ∀ (q : Nat) (H1 : Heap), va_P D cl (ws ++ [(q, .inl (cA, a0))]) H1 → va_D A (ws ++ [(q, .inl (cA, a0))]) → va_S A H0 H1 locs →
      W p l e R s m args below meth c H1 locs (cells + 1) (slots + N') Q (F0 m (pc + 2) ls (.ref q :: rest))) : W p l e R s m args below meth c H locs cells slots Q (F0 m pc ls (.int n :: rest)) := by
  refine va_newa hexec hb harr hty hK hP hD hS hA ha hn hN hbytes hcells hslots hdg (fun q c1 H1 hK1 hP1 hD1 hS1 => ?_)
  have h1 := (hK1.2 tys.length (c1, ty) (by rw [List.getElem?_append_right (Nat.le_refl _), Nat.sub_self]; rfl)).2
  have h2 := (hK.2 t0 _ ht).2
  have e1 : c1 = cA := by
    cases ty with
    | object C => exact absurd rfl (hprim C)
    | _ => exact Option.some.inj (h1.symm.trans h2)
  subst e1
  exact kk q H1 hP1 hD1 hS1
theorem va_newqT (hexec : p.tables.exec = Jvm.exec) (hb : c.code = cc) {own C : String} {index : Nat} (hown : s.vm.findClass own = some m.cls) (hclink : (Cond.classLink own index C).before args s = true) (hover : va_AO C s) (t0 : Nat) {cA : ClassId} (ht : tys[t0]? = some (cA, .object C)) (hK : va_K D cl tys s) (hP : va_P D cl ws H) (hD : va_D A ws) (hS : va_S A H0 H locs) (hA : ∀ q, H0.size ≤ q → A q)
    {n : Int32} {N' : Nat} (hn : ¬ n < 0) (hN : n.toNatClampNeg = N') (hbytes : N' * 4 ≤ 536870912) (hcells : cells + 1 ≤ R.cells) (hslots : slots + N' ≤ R.slots) (hdg : decode cc pc = .ok (.anewarray index, 3))
    (kk : ∀ (q : Nat) (H1 : Heap), va_P D cl (ws ++ [(q, .inl (cA, N', .inr (.inr (.inr (.inr (fun _ => none))))))]) H1 → va_D A (ws ++ [(q, .inl (cA, N', .inr (.inr (.inr (.inr (fun _ => none))))))]) → va_S A H0 H1 locs →
      W p l e R s m args below meth c H1 locs (cells + 1) (slots + N') Q (F0 m (pc + 3) ls (.ref q :: rest))) : W p l e R s m args below meth c H locs cells slots Q (F0 m pc ls (.int n :: rest)) := by
  refine va_newq hexec hb hown hclink hover hK hP hD hS hA hn hN hbytes hcells hslots hdg (fun q c1 H1 hK1 hP1 hD1 hS1 => ?_)
  obtain ⟨kA, comp, h1, h2, h3, h4⟩ := (hK1.2 tys.length (c1, .object C) (by rw [List.getElem?_append_right (Nat.le_refl _), Nat.sub_self]; rfl)).2
  obtain ⟨kA2, comp2, g1, g2, g3, g4⟩ := (hK.2 t0 _ ht).2
  have e1 : c1 = cA := Option.some.inj (h4.symm.trans g4)
  subst e1
  exact kk q H1 hP1 hD1 hS1
end NEWC
