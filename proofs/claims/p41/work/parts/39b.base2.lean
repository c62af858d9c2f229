def exn (k : Int32) : String := if k = 1 then "java/lang/IllegalArgumentException" else if k = 2 then "java/lang/IndexOutOfBoundsException" else if k = 3 then "java/util/NoSuchElementException" else if k = 4 then "java/lang/UnsupportedOperationException" else if k = 5 then "java/lang/IllegalStateException" else "java/lang/ArithmeticException"
theorem exn_1 : exn 1 = "java/lang/IllegalArgumentException" := rfl
theorem exn_2 : exn 2 = "java/lang/IndexOutOfBoundsException" := rfl
theorem exn_3 : exn 3 = "java/util/NoSuchElementException" := rfl
theorem exn_4 : exn 4 = "java/lang/UnsupportedOperationException" := rfl
theorem exn_5 : exn 5 = "java/lang/IllegalStateException" := rfl
theorem exn_6 : exn 6 = "java/lang/ArithmeticException" := rfl
/-- what is caught -/
def exl : List String := ["java/lang/IllegalArgumentException", "java/lang/IndexOutOfBoundsException", "java/util/NoSuchElementException", "java/lang/UnsupportedOperationException", "java/lang/IllegalStateException"]
/-- what is thrown -/
def exl6 : List String := exl ++ ["java/lang/ArithmeticException"]
theorem exl_6 {a : String} (h : a ∈ exl) : a ∈ exl6 := List.mem_append.mpr (Or.inl h)
def STRS : List (Nat × String) := [(424, "there are 6 cauldrons"), (422, "the bounds are not in order from -99 to 99"), (417, "there is no such cauldron"), (256, "what is not 0 to 6"), (141, "the hundredths are not from -9999 to 9999"), (148, "the cauldron is of drams"), (426, "the cauldron is of broth"), (124, "the cauldron does not hold so many drams"), (375, "the character code is not from 32 to 126"), (379, "the input has 60 characters"), (177, "the input is malformed"), (182, "there are 4 spells"), (191, "a letter tells a cauldron that there is not"), (373, "account is not 0 to 9"), (420, "there is no such spell"), (342, "there is no such character"), (275, "there is no such place"), (273, "what is not 0 to 4"), (281, "the spell types"), (286, "the spell does not type"), (289, "there is no such store"), (294, "the store is of broth"), (319, "the spell would not boil over"), (357, "there are no spells"), (303, "the spell would boil over"), (229, "the spell boils over"), (387, "no reason was kept"), (398, "the reason has no cause"), (402, "no change is remembered"), (324, "there is no cauldron of drams"), (350, "there are no cauldrons"), (161, "the cauldron would not hold what is in it"), (238, "no spell types")]
/-- what a throw needs of the world: two statics outside A, the texts, which classes are no others -/
def vz_Yc (C T : String) (U : State) : Prop := ∃ c t : ClassId, U.vm.findClass C = some c ∧ U.vm.findClass T = some t ∧ U.vm.assignable c t = true
theorem vz_Yc.moved {C T : String} {u U : State} (hvm : u.vm.Alike U.vm) (h : vz_Yc C T u) : vz_Yc C T U := by
  obtain ⟨c, t, h1, h2, h3⟩ := h
  exact ⟨c, t, by rw [hvm.findClass]; exact h1, by rw [hvm.findClass]; exact h2, by rw [hvm.assignable]; exact h3⟩
theorem vz_Yc.word {args : Array Value} {s : State} {C T : String} (h : vz_Yc C T s) : (Cond.castable C T).before args s = true := by
  obtain ⟨c, t, h1, h2, h3⟩ := h
  simp [Cond.before, Cond.holds, Cond.value, h1, h2, h3]
theorem vz_Yc.of {args : Array Value} {s : State} {C T : String} (h : (Cond.castable C T).before args s = true) : vz_Yc C T s := by
  simp only [Cond.before, Cond.holds, Cond.value] at h
  cases h1 : s.vm.findClass C with
  | none => simp [h1] at h
  | some c =>
    cases h2 : s.vm.findClass T with
    | none => simp [h1, h2] at h
    | some t =>
      simp [h1, h2] at h
      exact ⟨c, t, h1, h2, h⟩
def vz_Dc (x : MethodName) (U : State) : Prop := ∃ (m : MethodId) (meth : Method), U.methodNamed? x = some m ∧ U.vm.method? m = some meth ∧ meth.isStatic = false ∧ parseMethodDescriptor x.desc = some meth.sig
theorem vz_Dc.moved {x : MethodName} {u U : State} (hvm : u.vm.Alike U.vm) (h : vz_Dc x u) : vz_Dc x U := by
  obtain ⟨m, meth, h1, h2, h3, h4⟩ := h
  refine ⟨m, meth, ?_, ?_, h3, h4⟩
  · have := State.methodNamed?_setVm (s := u) hvm x
    rw [h1] at this
    exact this
  · rw [← Vm.method?_bare, hvm.bare_eq, Vm.method?_bare]
    exact h2
theorem vz_Dc.word {args : Array Value} {s : State} {x : MethodName} (h : vz_Dc x s) : (Cond.declares x).before args s = true := by
  obtain ⟨m, meth, h1, h2, h3, h4⟩ := h
  simp [Cond.before, Cond.holds, Cond.value, h1, h2, h3, h4]
theorem vz_Dc.of {args : Array Value} {s : State} {x : MethodName} (h : (Cond.declares x).before args s = true) : vz_Dc x s := Cond.declares_spec h
def DCS : List String := ["java/lang/RuntimeException", "java/lang/Exception", "java/lang/Throwable"]
def XS (A : Nat → Prop) (U : State) : Prop := vx_Zq Bundle.tN "UNASSIGNED_STACK" Bundle.steD A U U.heap ∧ vx_Zq Bundle.tN "SUPPRESSED_SENTINEL" Bundle.listD A U U.heap ∧ (∀ x ∈ STRS, ∃ sa, vk_R RX11 x.1 x.2 sa U) ∧ (∀ a ∈ exl, ∀ b ∈ exl, a ≠ b → va_Nc a b U) ∧ (∀ a ∈ exl6, vz_Yc a a U) ∧ ∀ a ∈ DCS, vz_Dc (Bundle.initS a) U
theorem XS.same {A : Nat → Prop} {u U : State} (hv : U.vm = u.vm) (hh : U.heap = u.heap) (h : XS A u) : XS A U := by
  have ha : u.vm.Alike U.vm := by rw [hv]; exact Vm.Alike.refl _
  refine ⟨?_, ?_, fun x hx => (h.2.2.1 x hx).imp (fun sa q => vk_R.same hv q), fun a h1 b h2 n => (h.2.2.2.1 a h1 b h2 n).moved ha, fun a h1 => (h.2.2.2.2.1 a h1).moved ha, fun a h1 => (h.2.2.2.2.2 a h1).moved ha⟩
  · rw [hh]; exact vx_Zq.moved ha h.1
  · rw [hh]; exact vx_Zq.moved ha h.2.1
theorem XS.call {A Ac : Nat → Prop} {s U : State} {H : Heap} {locs : List Loc} (h : XS A s) (hS : va_S A s.heap H locs) (hU : U.heap = H) (hW : s.WarmedH U.vm) (hf : ∀ q, Ac q → A q) : XS Ac U := by
  refine ⟨?_, ?_, fun x hx => (h.2.2.1 x hx).imp (fun sa q => vk_R.warm hW q), fun a h1 b h2 n => (h.2.2.2.1 a h1 b h2 n).moved hW.alike, fun a h1 => (h.2.2.2.2.1 a h1).moved hW.alike, fun a h1 => (h.2.2.2.2.2 a h1).moved hW.alike⟩
  · rw [hU]; exact (vx_Zq.moved hW.alike (h.1.kept hS.2.1)).narrow hf
  · rw [hU]; exact (vx_Zq.moved hW.alike (h.2.1.kept hS.2.1)).narrow hf
abbrev PX (dC : Nat → ClassId) (dI : Nat → Nat → Nat) (cT : Nat → ClassId) (av : List Value) (Hh : Heap) (A : Nat → Prop) : Array Value → State → Prop := va_Pc av (fun U => U.heap = Hh ∧ va_K (dC, dI) vwCl (TYS cT) U ∧ XS A U)
theorem fbX {dC : Nat → ClassId} {dI : Nat → Nat → Nat} {cT : Nat → ClassId} {av : List Value} {Hh : Heap} {A : Nat → Prop} : FrameBlind (PX dC dI cT av Hh A) := fun a U g mk q => ⟨q.1, q.2.1, va_K.moved (u := U) (U := U.calling g mk a) (Vm.Alike.refl U.vm) q.2.2.1, XS.same (u := U) (U := U.calling g mk a) rfl rfl q.2.2.2⟩
abbrev wH (y : MethodName) (cc : ByteArray) (n : Nat) (ret : Option FieldType) (hh : List (Nat × Nat × Nat × Nat)) : List Cond := Cond.codeWith y cc n ret hh :: ALLW
abbrev XX (dC : Nat → ClassId) (dI : Nat → Nat → Nat) (code : Int32) (w1 : va_W) (A : Nat → Prop) : String → State → State → Prop := vx_X (fun (_ : Unit) => code ≠ 0) (fun E _ t => E = exn code ∧ va_P (dC, dI) vwCl w1 t.heap) A
abbrev QXV (dC : Nat → ClassId) (dI : Nat → Nat → Nat) (code : Int32) (w1 : va_W) (A : Nat → Prop) : Array Value → State → Outcome → State → Prop := va_Qv (fun (_ : Unit) => code = 0) (fun _ t => va_P (dC, dI) vwCl w1 t.heap) A
abbrev QXI (dC : Nat → ClassId) (dI : Nat → Nat → Nat) (code : Int32) (r : Int32) (w1 : va_W) (A : Nat → Prop) : Array Value → State → Outcome → State → Prop := va_Qi (fun x (_ : Unit) => x = r ∧ code = 0) (fun _ t => va_P (dC, dI) vwCl w1 t.heap) A
abbrev QXL (dC : Nat → ClassId) (dI : Nat → Nat → Nat) (code : Int32) (r : Int64) (w1 : va_W) (A : Nat → Prop) : Array Value → State → Outcome → State → Prop := va_Ql (fun x (_ : Unit) => x = r ∧ code = 0) (fun _ t => va_P (dC, dI) vwCl w1 t.heap) A
abbrev QXF (dC : Nat → ClassId) (dI : Nat → Nat → Nat) (code : Int32) (r : UInt32) (w1 : va_W) (A : Nat → Prop) : Array Value → State → Outcome → State → Prop := va_Qf (fun x (_ : Unit) => x = r ∧ code = 0) (fun _ t => va_P (dC, dI) vwCl w1 t.heap) A
abbrev QXO (dC : Nat → ClassId) (dI : Nat → Nat → Nat) (code : Int32) (r : Option Nat) (w1 : va_W) (A : Nat → Prop) : Array Value → State → Outcome → State → Prop := va_Qq (fun x (_ : Unit) => x = r ∧ code = 0) (fun _ t => va_P (dC, dI) vwCl w1 t.heap) A
section VCX
variable {p : Program} {l : Launch} {e : Env} {R : Room} {s : State} {m : MethodId} {args : Array Value} {below : List Frame} {meth : Method} {c : Code} {H : Heap} {locs : List Loc} {cells slots : Nat} {Q : State → Prop} {pc : Nat} {ls : Array Slot} {rest st0 : List Value} {a : Array Value} {A0 A1 : Nat → Prop} {H0 : Heap} {mc ms : Nat} {dC : Nat → ClassId} {dI : Nat → Nat → Nat} {free : Addr → Prop}
theorem vx_callq9 {S SX : Type} {post : Option Nat → S → Prop} {px : SX → Prop} {B : S → State → Prop} {BX : String → SX → State → Prop} {AX : Nat → Prop} (hr : vx_Run p l e R s m args below meth c H locs cells slots mc ms (F0 m pc ls st0) rest (va_Qq post B A1 a) (vx_X px BX AX) free) (hS : va_S A0 H0 H locs) (hA : ∀ q, q < H.size → A1 q → A0 q) (hf : ∀ q, free q → A0 q) (hAX : ∀ q, q < H.size → AX q → A0 q)
    (kx : ∀ (E : String) (ce : Cell) (q9 : Addr) (u : SX) (t : State) (H1 : Heap) (locs1 : List Loc), t.heap = H1 → s.vm.Alike t.vm → px u → BX E u t → H.size ≤ H1.size → (∀ q : Nat, q < H.size → ¬ AX q → H1[q]? = H[q]?) → va_S A0 H0 H1 locs1 → H1[q9]? = some ce → ce.vm = .none → s.vm.findClass E = some ce.cls → vx_W p l e R s m args below meth c H1 locs1 (cells + mc) (slots + ms) Q (F0 m pc ls rest) q9)
    (kk : ∀ (r : Option Nat) (u : S) (t : State) (H1 : Heap) (locs1 : List Loc), t.heap = H1 → s.vm.Alike t.vm → post r u → B u t → H.size ≤ H1.size → (∀ q : Nat, q < H.size → ¬ A1 q → H1[q]? = H[q]?) → va_S A0 H0 H1 locs1 → W p l e R s m args below meth c H1 locs1 (cells + mc) (slots + ms) Q (F0 m (pc + 3) ls (va_rf r :: rest))) : W p l e R s m args below meth c H locs cells slots Q (F0 m pc ls st0) := by
  intro T hT X
  rcases hr T hT X with ⟨v, st₀, t, T', L, h0, X', hL, e1, e2, ⟨⟨r, u, hv, hp, hb⟩, hF⟩, st⟩ | ⟨q, st₀, t, T', L, E, ce, h0, X', hL, e1, e2, ⟨u, hp, hb, hF⟩, hce, hcv, hcl, st⟩
  · cases hv
    obtain ⟨k1, k2, k3⟩ := vx_keep h0 e1 hS hA hf hL hF
    obtain ⟨t2, a1, b1⟩ := kk r u t T'.heap (locs ++ L) e1.symm (by rw [← e2]; exact X'.warmed.alike) hp hb k1 k2 k3 T' rfl X'
    exact ⟨t2, st t2 a1, b1⟩
  · obtain ⟨k1, k2, k3⟩ := vx_keep h0 e1 hS hAX hf hL hF
    obtain ⟨t2, a1, b1⟩ := kx E ce q u t T'.heap (locs ++ L) e1.symm (by rw [← e2]; exact X'.warmed.alike) hp hb k1 k2 k3 (by rw [e1]; exact hce) hcv hcl T' rfl X'
    exact ⟨t2, st.trans a1, b1⟩
theorem cyI {code : Int32} {r : Int32} {X wc w1 X2 : va_W} (hr : vx_Run p l e R s m args below meth c H locs cells slots mc ms (F0 m pc ls st0) rest (QXI dC dI code r w1 (va_A wc H.size) a) (XX dC dI code w1 (va_A wc H.size)) (va_A wc H.size)) (hS : va_S A0 H0 H locs) (hA : ∀ q, H0.size ≤ q → A0 q) (hP : va_P (dC, dI) vwCl X H) (hD : va_D A0 X) (isC : List Nat) (hC : isC.map (fun i => X[i]?) = wc.map some) (cd : List (Nat ⊕ Nat)) (h2 : cd.map (jcode X w1) = X2.map some) (hn : jok cd isC = true) (hadr : X2.map Prod.fst = X.map Prod.fst)
    (kx : ∀ (E : String) (ce : Cell) (q9 : Addr) (H1 : Heap) (locs1 : List Loc), code ≠ 0 → E = exn code → va_P (dC, dI) vwCl X2 H1 → va_D A0 X2 → va_S A0 H0 H1 locs1 → H1[q9]? = some ce → ce.vm = .none → s.vm.findClass E = some ce.cls → vx_W p l e R s m args below meth c H1 locs1 (cells + mc) (slots + ms) Q (F0 m pc ls rest) q9)
    (kk : ∀ (H1 : Heap) (locs1 : List Loc), code = 0 → va_P (dC, dI) vwCl X2 H1 → va_D A0 X2 → va_S A0 H0 H1 locs1 → W p l e R s m args below meth c H1 locs1 (cells + mc) (slots + ms) Q (F0 m (pc + 3) ls (.int r :: rest))) : W p l e R s m args below meth c H locs cells slots Q (F0 m pc ls st0) := by
  have hf := va_free hD hS hA isC hC
  refine vx_calli hr hS (fun q _ h => hf q h) hf (fun q _ h => hf q h) (fun E ce q9 u t H1 locs1 ht hvm hne hB hz hk hS1 hce hcv hcl => ?_) (fun r1 u t H1 locs1 ht hvm hw hB hz hk hS1 => ?_)
  · have hB' : va_P (dC, dI) vwCl w1 H1 := by rw [← ht]; exact hB.2
    obtain ⟨h3, h4⟩ := jn hP hD isC hC cd h2 hn hadr hk hB'
    exact kx E ce q9 H1 locs1 hne hB.1 h3 h4 hS1 hce hcv hcl
  · have hB' : va_P (dC, dI) vwCl w1 H1 := by rw [← ht]; exact hB
    obtain ⟨h3, h4⟩ := jn hP hD isC hC cd h2 hn hadr hk hB'
    obtain ⟨e1, hz0⟩ := hw
    subst e1
    exact kk H1 locs1 hz0 h3 h4 hS1
theorem cyL {code : Int32} {r : Int64} {X wc w1 X2 : va_W} (hr : vx_Run p l e R s m args below meth c H locs cells slots mc ms (F0 m pc ls st0) rest (QXL dC dI code r w1 (va_A wc H.size) a) (XX dC dI code w1 (va_A wc H.size)) (va_A wc H.size)) (hS : va_S A0 H0 H locs) (hA : ∀ q, H0.size ≤ q → A0 q) (hP : va_P (dC, dI) vwCl X H) (hD : va_D A0 X) (isC : List Nat) (hC : isC.map (fun i => X[i]?) = wc.map some) (cd : List (Nat ⊕ Nat)) (h2 : cd.map (jcode X w1) = X2.map some) (hn : jok cd isC = true) (hadr : X2.map Prod.fst = X.map Prod.fst)
    (kx : ∀ (E : String) (ce : Cell) (q9 : Addr) (H1 : Heap) (locs1 : List Loc), code ≠ 0 → E = exn code → va_P (dC, dI) vwCl X2 H1 → va_D A0 X2 → va_S A0 H0 H1 locs1 → H1[q9]? = some ce → ce.vm = .none → s.vm.findClass E = some ce.cls → vx_W p l e R s m args below meth c H1 locs1 (cells + mc) (slots + ms) Q (F0 m pc ls rest) q9)
    (kk : ∀ (H1 : Heap) (locs1 : List Loc), code = 0 → va_P (dC, dI) vwCl X2 H1 → va_D A0 X2 → va_S A0 H0 H1 locs1 → W p l e R s m args below meth c H1 locs1 (cells + mc) (slots + ms) Q (F0 m (pc + 3) ls (.long r :: rest))) : W p l e R s m args below meth c H locs cells slots Q (F0 m pc ls st0) := by
  have hf := va_free hD hS hA isC hC
  refine vx_calll hr hS (fun q _ h => hf q h) hf (fun q _ h => hf q h) (fun E ce q9 u t H1 locs1 ht hvm hne hB hz hk hS1 hce hcv hcl => ?_) (fun r1 u t H1 locs1 ht hvm hw hB hz hk hS1 => ?_)
  · have hB' : va_P (dC, dI) vwCl w1 H1 := by rw [← ht]; exact hB.2
    obtain ⟨h3, h4⟩ := jn hP hD isC hC cd h2 hn hadr hk hB'
    exact kx E ce q9 H1 locs1 hne hB.1 h3 h4 hS1 hce hcv hcl
  · have hB' : va_P (dC, dI) vwCl w1 H1 := by rw [← ht]; exact hB
    obtain ⟨h3, h4⟩ := jn hP hD isC hC cd h2 hn hadr hk hB'
    obtain ⟨e1, hz0⟩ := hw
    subst e1
    exact kk H1 locs1 hz0 h3 h4 hS1
theorem cyF {code : Int32} {r : UInt32} {X wc w1 X2 : va_W} (hr : vx_Run p l e R s m args below meth c H locs cells slots mc ms (F0 m pc ls st0) rest (QXF dC dI code r w1 (va_A wc H.size) a) (XX dC dI code w1 (va_A wc H.size)) (va_A wc H.size)) (hS : va_S A0 H0 H locs) (hA : ∀ q, H0.size ≤ q → A0 q) (hP : va_P (dC, dI) vwCl X H) (hD : va_D A0 X) (isC : List Nat) (hC : isC.map (fun i => X[i]?) = wc.map some) (cd : List (Nat ⊕ Nat)) (h2 : cd.map (jcode X w1) = X2.map some) (hn : jok cd isC = true) (hadr : X2.map Prod.fst = X.map Prod.fst)
    (kx : ∀ (E : String) (ce : Cell) (q9 : Addr) (H1 : Heap) (locs1 : List Loc), code ≠ 0 → E = exn code → va_P (dC, dI) vwCl X2 H1 → va_D A0 X2 → va_S A0 H0 H1 locs1 → H1[q9]? = some ce → ce.vm = .none → s.vm.findClass E = some ce.cls → vx_W p l e R s m args below meth c H1 locs1 (cells + mc) (slots + ms) Q (F0 m pc ls rest) q9)
    (kk : ∀ (H1 : Heap) (locs1 : List Loc), code = 0 → va_P (dC, dI) vwCl X2 H1 → va_D A0 X2 → va_S A0 H0 H1 locs1 → W p l e R s m args below meth c H1 locs1 (cells + mc) (slots + ms) Q (F0 m (pc + 3) ls (.float r :: rest))) : W p l e R s m args below meth c H locs cells slots Q (F0 m pc ls st0) := by
  have hf := va_free hD hS hA isC hC
  refine vx_callf hr hS (fun q _ h => hf q h) hf (fun q _ h => hf q h) (fun E ce q9 u t H1 locs1 ht hvm hne hB hz hk hS1 hce hcv hcl => ?_) (fun r1 u t H1 locs1 ht hvm hw hB hz hk hS1 => ?_)
  · have hB' : va_P (dC, dI) vwCl w1 H1 := by rw [← ht]; exact hB.2
    obtain ⟨h3, h4⟩ := jn hP hD isC hC cd h2 hn hadr hk hB'
    exact kx E ce q9 H1 locs1 hne hB.1 h3 h4 hS1 hce hcv hcl
  · have hB' : va_P (dC, dI) vwCl w1 H1 := by rw [← ht]; exact hB
    obtain ⟨h3, h4⟩ := jn hP hD isC hC cd h2 hn hadr hk hB'
    obtain ⟨e1, hz0⟩ := hw
    subst e1
    exact kk H1 locs1 hz0 h3 h4 hS1
theorem cyO {code : Int32} {r : Option Nat} {X wc w1 X2 : va_W} (hr : vx_Run p l e R s m args below meth c H locs cells slots mc ms (F0 m pc ls st0) rest (QXO dC dI code r w1 (va_A wc H.size) a) (XX dC dI code w1 (va_A wc H.size)) (va_A wc H.size)) (hS : va_S A0 H0 H locs) (hA : ∀ q, H0.size ≤ q → A0 q) (hP : va_P (dC, dI) vwCl X H) (hD : va_D A0 X) (isC : List Nat) (hC : isC.map (fun i => X[i]?) = wc.map some) (cd : List (Nat ⊕ Nat)) (h2 : cd.map (jcode X w1) = X2.map some) (hn : jok cd isC = true) (hadr : X2.map Prod.fst = X.map Prod.fst)
    (kx : ∀ (E : String) (ce : Cell) (q9 : Addr) (H1 : Heap) (locs1 : List Loc), code ≠ 0 → E = exn code → va_P (dC, dI) vwCl X2 H1 → va_D A0 X2 → va_S A0 H0 H1 locs1 → H1[q9]? = some ce → ce.vm = .none → s.vm.findClass E = some ce.cls → vx_W p l e R s m args below meth c H1 locs1 (cells + mc) (slots + ms) Q (F0 m pc ls rest) q9)
    (kk : ∀ (H1 : Heap) (locs1 : List Loc), code = 0 → va_P (dC, dI) vwCl X2 H1 → va_D A0 X2 → va_S A0 H0 H1 locs1 → W p l e R s m args below meth c H1 locs1 (cells + mc) (slots + ms) Q (F0 m (pc + 3) ls (va_rf r :: rest))) : W p l e R s m args below meth c H locs cells slots Q (F0 m pc ls st0) := by
  have hf := va_free hD hS hA isC hC
  refine vx_callq9 hr hS (fun q _ h => hf q h) hf (fun q _ h => hf q h) (fun E ce q9 u t H1 locs1 ht hvm hne hB hz hk hS1 hce hcv hcl => ?_) (fun r1 u t H1 locs1 ht hvm hw hB hz hk hS1 => ?_)
  · have hB' : va_P (dC, dI) vwCl w1 H1 := by rw [← ht]; exact hB.2
    obtain ⟨h3, h4⟩ := jn hP hD isC hC cd h2 hn hadr hk hB'
    exact kx E ce q9 H1 locs1 hne hB.1 h3 h4 hS1 hce hcv hcl
  · have hB' : va_P (dC, dI) vwCl w1 H1 := by rw [← ht]; exact hB
    obtain ⟨h3, h4⟩ := jn hP hD isC hC cd h2 hn hadr hk hB'
    obtain ⟨e1, hz0⟩ := hw
    subst e1
    exact kk H1 locs1 hz0 h3 h4 hS1
theorem cyV {code : Int32} {X wc w1 X2 : va_W} (hr : vx_Run p l e R s m args below meth c H locs cells slots mc ms (F0 m pc ls st0) rest (QXV dC dI code w1 (va_A wc H.size) a) (XX dC dI code w1 (va_A wc H.size)) (va_A wc H.size)) (hS : va_S A0 H0 H locs) (hA : ∀ q, H0.size ≤ q → A0 q) (hP : va_P (dC, dI) vwCl X H) (hD : va_D A0 X) (isC : List Nat) (hC : isC.map (fun i => X[i]?) = wc.map some) (cd : List (Nat ⊕ Nat)) (h2 : cd.map (jcode X w1) = X2.map some) (hn : jok cd isC = true) (hadr : X2.map Prod.fst = X.map Prod.fst)
    (kx : ∀ (E : String) (ce : Cell) (q9 : Addr) (H1 : Heap) (locs1 : List Loc), code ≠ 0 → E = exn code → va_P (dC, dI) vwCl X2 H1 → va_D A0 X2 → va_S A0 H0 H1 locs1 → H1[q9]? = some ce → ce.vm = .none → s.vm.findClass E = some ce.cls → vx_W p l e R s m args below meth c H1 locs1 (cells + mc) (slots + ms) Q (F0 m pc ls rest) q9)
    (kk : ∀ (H1 : Heap) (locs1 : List Loc), code = 0 → va_P (dC, dI) vwCl X2 H1 → va_D A0 X2 → va_S A0 H0 H1 locs1 → W p l e R s m args below meth c H1 locs1 (cells + mc) (slots + ms) Q (F0 m (pc + 3) ls (rest))) : W p l e R s m args below meth c H locs cells slots Q (F0 m pc ls st0) := by
  have hf := va_free hD hS hA isC hC
  refine vx_callv hr hS (fun q _ h => hf q h) hf (fun q _ h => hf q h) (fun E ce q9 u t H1 locs1 ht hvm hne hB hz hk hS1 hce hcv hcl => ?_) (fun u t H1 locs1 ht hvm hw hB hz hk hS1 => ?_)
  · have hB' : va_P (dC, dI) vwCl w1 H1 := by rw [← ht]; exact hB.2
    obtain ⟨h3, h4⟩ := jn hP hD isC hC cd h2 hn hadr hk hB'
    exact kx E ce q9 H1 locs1 hne hB.1 h3 h4 hS1 hce hcv hcl
  · have hB' : va_P (dC, dI) vwCl w1 H1 := by rw [← ht]; exact hB
    obtain ⟨h3, h4⟩ := jn hP hD isC hC cd h2 hn hadr hk hB'
    exact kk H1 locs1 hw h3 h4 hS1
/-- what a class of exceptions needs to be thrown with a text -/
def XF (cls : String) (names : List String) (ik ic : Nat) : Prop := Bundle.fit cls = true ∧ (∀ n ∈ names, Bundle.fit n = true) ∧ Cond.classLink RX11 ik cls ∈ ALLW ∧ Cond.initialized cls ∈ ALLW ∧ (∀ w ∈ vx_atS RX11 ic cls names, (w ∈ lw_tbl ∧ goodWord w = true) ∨ w = Cond.castable cls cls ∨ ∃ n ∈ DCS, w = Cond.declares (Bundle.initS n)) ∧ cls ∈ exl6 ∧ (∀ w ∈ Cond.classLink RX11 ik cls :: Cond.initialized cls :: vx_atS RX11 ic cls names, vx_ot w = true)
theorem xthrow {cc : ByteArray} {XA : Nat → Prop} {Qc : Array Value → State → Outcome → State → Prop} {cls text : String} {names : List String} {ik is ic : Nat} {code : Int32} {w1 : va_W} (hexec : p.tables.exec = Jvm.exec) (hb : c.code = cc) (hl : l.stackTraces = false) (hown : s.vm.findClass RX11 = some m.cls) (hta : ∀ w ∈ ALLW, w.before args s = true) (hX : XS XA s) (F : XF cls names ik ic) (hstr : (is, text) ∈ STRS) (hS : va_S XA s.heap H locs) (hsize : ls.size = c.maxLocals)
    (d0 : decode cc pc = .ok (.new ik, 3)) (d3 : decode cc (pc + 3) = .ok (.dup, 1)) (d4 : decode cc (pc + 4) = .ok (.ldc is, 2)) (d6 : decode cc (pc + 6) = .ok (.invokespecial ic, 3)) (d9 : decode cc (pc + 9) = .ok (.athrow, 1))
    (hout : ∀ x ∈ c.exceptionTable.toList, False) (hRframes : names.length + 3 < R.frames) (hRlocals : (rest.map fun v => v.category).sum + (13 * (names.length + 1) + 43) ≤ R.locals) (hRcells : cells + 1 ≤ R.cells) (hRslots : slots + 6 ≤ R.slots) (hlocks : meth.locks = false)
    (hP : va_P (dC, dI) vwCl w1 H) (hne : code ≠ 0) (hE : cls = exn code) (hc : cells + 1 ≤ mc) (hs : slots + 6 ≤ ms) :
    W p l e R s m args below meth c H locs cells slots (vx_MQ below Qc (XX dC dI code w1 XA) args s mc ms XA) (F0 m pc ls rest) := by
  obtain ⟨f1, f2, f3, f4, f5, f7, f6⟩ := F
  obtain ⟨sa, hsa⟩ := hX.2.2.1 _ hstr
  refine vx_throwS hexec hb hl hown f1 f2 (hta _ f3) (hta _ f4) hsa (fun w hw => (f5 w hw).elim (fun q => hta w (List.mem_filter.mpr q)) (fun q => q.elim (fun q => by rw [q]; exact (hX.2.2.2.2.1 _ f7).word) (fun ⟨n, hn9, q⟩ => by rw [q]; exact (hX.2.2.2.2.2 _ hn9).word))) f6 hX.1 hX.2.1 hS hsize d0 d3 d4 d6 d9 (fun x hx => (hout x hx).elim) hRframes hRlocals hRcells hRslots hlocks (fun t hW hz hk => ?_) hS.2.2 hc hs
  exact ⟨(), hne, ⟨hE, hP.kept (fun k q hq => hk q.1 (hP k q hq).lt)⟩, ⟨Nat.le_trans hS.1 hz, fun q h1 h2 => by rw [hk q (Nat.lt_of_lt_of_le h1 hS.1)]; exact hS.2.1 q h1 h2⟩⟩
theorem xthrowW {cc : ByteArray} {XA : Nat → Prop} {Qc : Array Value → State → Outcome → State → Prop} {cls text : String} {names : List String} {ik is ic : Nat} {code : Int32} {w1 : va_W} (hexec : p.tables.exec = Jvm.exec) (hb : c.code = cc) (hl : l.stackTraces = false) (hown : s.vm.findClass RX11 = some m.cls) (hta : ∀ w ∈ ALLW, w.before args s = true) (hX : XS XA s) (F : XF cls names ik ic) (hstr : (is, text) ∈ STRS) (hS : va_S XA s.heap H locs) (hsize : ls.size = c.maxLocals)
    (d0 : decode cc pc = .ok (.new ik, 3)) (d3 : decode cc (pc + 3) = .ok (.dup, 1)) (d4 : decode cc (pc + 4) = .ok (.ldc_w is, 3)) (d6 : decode cc (pc + 7) = .ok (.invokespecial ic, 3)) (d9 : decode cc (pc + 10) = .ok (.athrow, 1))
    (hout : ∀ x ∈ c.exceptionTable.toList, False) (hRframes : names.length + 3 < R.frames) (hRlocals : (rest.map fun v => v.category).sum + (13 * (names.length + 1) + 43) ≤ R.locals) (hRcells : cells + 1 ≤ R.cells) (hRslots : slots + 6 ≤ R.slots) (hlocks : meth.locks = false)
    (hP : va_P (dC, dI) vwCl w1 H) (hne : code ≠ 0) (hE : cls = exn code) (hc : cells + 1 ≤ mc) (hs : slots + 6 ≤ ms) :
    W p l e R s m args below meth c H locs cells slots (vx_MQ below Qc (XX dC dI code w1 XA) args s mc ms XA) (F0 m pc ls rest) := by
  obtain ⟨f1, f2, f3, f4, f5, f7, f6⟩ := F
  obtain ⟨sa, hsa⟩ := hX.2.2.1 _ hstr
  refine vx_throwSW hexec hb hl hown f1 f2 (hta _ f3) (hta _ f4) hsa (fun w hw => (f5 w hw).elim (fun q => hta w (List.mem_filter.mpr q)) (fun q => q.elim (fun q => by rw [q]; exact (hX.2.2.2.2.1 _ f7).word) (fun ⟨n, hn9, q⟩ => by rw [q]; exact (hX.2.2.2.2.2 _ hn9).word))) f6 hX.1 hX.2.1 hS hsize d0 d3 d4 d6 d9 (fun x hx => (hout x hx).elim) hRframes hRlocals hRcells hRslots hlocks (fun t hW hz hk => ?_) hS.2.2 hc hs
  exact ⟨(), hne, ⟨hE, hP.kept (fun k q hq => hk q.1 (hP k q hq).lt)⟩, ⟨Nat.le_trans hS.1 hz, fun q h1 h2 => by rw [hk q (Nat.lt_of_lt_of_le h1 hS.1)]; exact hS.2.1 q h1 h2⟩⟩
def nseB : ByteArray := ⟨#[0x2a, 0x2b, 0xb7, 0x00, 0x0d, 0xb1]⟩
theorem nse_0 : decode nseB 0 = .ok (.aload_n 0, 1) := by decide +kernel
theorem nse_1 : decode nseB 1 = .ok (.aload_n 1, 1) := by decide +kernel
theorem nse_2 : decode nseB 2 = .ok (.invokespecial 13, 3) := by decide +kernel
theorem nse_5 : decode nseB 5 = .ok (.return_, 1) := by decide +kernel
/-- the same, of the class whose constructor links by an index of its own -/
def XFN (cls : String) (Y9 : String) (names : List String) (ik ic : Nat) : Prop := Bundle.fit cls = true ∧ (∀ n ∈ names, Bundle.fit n = true) ∧ Bundle.fit Y9 = true ∧ Cond.classLink RX11 ik cls ∈ ALLW ∧ Cond.initialized cls ∈ ALLW ∧ (∀ w ∈ vz_atN RX11 ic cls Y9 13 nseB names, (w ∈ lw_tbl ∧ goodWord w = true) ∨ w = Cond.castable cls cls ∨ ∃ n ∈ DCS, w = Cond.declares (Bundle.initS n)) ∧ cls ∈ exl6 ∧ (∀ w ∈ Cond.classLink RX11 ik cls :: Cond.initialized cls :: vz_atN RX11 ic cls Y9 13 nseB names, vx_ot w = true)
theorem xthrowN {cc : ByteArray} {XA : Nat → Prop} {Qc : Array Value → State → Outcome → State → Prop} {cls Y9 text : String} {names : List String} {ik is ic : Nat} {code : Int32} {w1 : va_W} (hexec : p.tables.exec = Jvm.exec) (hb : c.code = cc) (hl : l.stackTraces = false) (hown : s.vm.findClass RX11 = some m.cls) (hta : ∀ w ∈ ALLW, w.before args s = true) (hX : XS XA s) (F : XFN cls Y9 names ik ic) (hstr : (is, text) ∈ STRS) (hS : va_S XA s.heap H locs) (hsize : ls.size = c.maxLocals)
    (d0 : decode cc pc = .ok (.new ik, 3)) (d3 : decode cc (pc + 3) = .ok (.dup, 1)) (d4 : decode cc (pc + 4) = .ok (.ldc is, 2)) (d6 : decode cc (pc + 6) = .ok (.invokespecial ic, 3)) (d9 : decode cc (pc + 9) = .ok (.athrow, 1))
    (hout : ∀ x ∈ c.exceptionTable.toList, False) (hRframes : names.length + 4 < R.frames) (hRlocals : (rest.map fun v => v.category).sum + (13 * (names.length + 2) + 43) ≤ R.locals) (hRcells : cells + 1 ≤ R.cells) (hRslots : slots + 6 ≤ R.slots) (hlocks : meth.locks = false)
    (hP : va_P (dC, dI) vwCl w1 H) (hne : code ≠ 0) (hE : cls = exn code) (hc : cells + 1 ≤ mc) (hs : slots + 6 ≤ ms) :
    W p l e R s m args below meth c H locs cells slots (vx_MQ below Qc (XX dC dI code w1 XA) args s mc ms XA) (F0 m pc ls rest) := by
  obtain ⟨f1, f2, f8, f3, f4, f5, f7, f6⟩ := F
  obtain ⟨sa, hsa⟩ := hX.2.2.1 _ hstr
  refine vz_throwN hexec hb hl nse_0 nse_1 nse_2 nse_5 f8 hown f1 f2 (hta _ f3) (hta _ f4) hsa (fun w hw => (f5 w hw).elim (fun q => hta w (List.mem_filter.mpr q)) (fun q => q.elim (fun q => by rw [q]; exact (hX.2.2.2.2.1 _ f7).word) (fun ⟨n, hn9, q⟩ => by rw [q]; exact (hX.2.2.2.2.2 _ hn9).word))) f6 hX.1 hX.2.1 hS hsize d0 d3 d4 d6 d9 (fun x hx => (hout x hx).elim) hRframes hRlocals hRcells hRslots hlocks (fun t hW hz hk => ?_) hS.2.2 hc hs
  exact ⟨(), hne, ⟨hE, hP.kept (fun k q hq => hk q.1 (hP k q hq).lt)⟩, ⟨Nat.le_trans hS.1 hz, fun q h1 h2 => by rw [hk q (Nat.lt_of_lt_of_le h1 hS.1)]; exact hS.2.1 q h1 h2⟩⟩
theorem xthrowNW {cc : ByteArray} {XA : Nat → Prop} {Qc : Array Value → State → Outcome → State → Prop} {cls Y9 text : String} {names : List String} {ik is ic : Nat} {code : Int32} {w1 : va_W} (hexec : p.tables.exec = Jvm.exec) (hb : c.code = cc) (hl : l.stackTraces = false) (hown : s.vm.findClass RX11 = some m.cls) (hta : ∀ w ∈ ALLW, w.before args s = true) (hX : XS XA s) (F : XFN cls Y9 names ik ic) (hstr : (is, text) ∈ STRS) (hS : va_S XA s.heap H locs) (hsize : ls.size = c.maxLocals)
    (d0 : decode cc pc = .ok (.new ik, 3)) (d3 : decode cc (pc + 3) = .ok (.dup, 1)) (d4 : decode cc (pc + 4) = .ok (.ldc_w is, 3)) (d6 : decode cc (pc + 7) = .ok (.invokespecial ic, 3)) (d9 : decode cc (pc + 10) = .ok (.athrow, 1))
    (hout : ∀ x ∈ c.exceptionTable.toList, False) (hRframes : names.length + 4 < R.frames) (hRlocals : (rest.map fun v => v.category).sum + (13 * (names.length + 2) + 43) ≤ R.locals) (hRcells : cells + 1 ≤ R.cells) (hRslots : slots + 6 ≤ R.slots) (hlocks : meth.locks = false)
    (hP : va_P (dC, dI) vwCl w1 H) (hne : code ≠ 0) (hE : cls = exn code) (hc : cells + 1 ≤ mc) (hs : slots + 6 ≤ ms) :
    W p l e R s m args below meth c H locs cells slots (vx_MQ below Qc (XX dC dI code w1 XA) args s mc ms XA) (F0 m pc ls rest) := by
  obtain ⟨f1, f2, f8, f3, f4, f5, f7, f6⟩ := F
  obtain ⟨sa, hsa⟩ := hX.2.2.1 _ hstr
  refine vz_throwNW hexec hb hl nse_0 nse_1 nse_2 nse_5 f8 hown f1 f2 (hta _ f3) (hta _ f4) hsa (fun w hw => (f5 w hw).elim (fun q => hta w (List.mem_filter.mpr q)) (fun q => q.elim (fun q => by rw [q]; exact (hX.2.2.2.2.1 _ f7).word) (fun ⟨n, hn9, q⟩ => by rw [q]; exact (hX.2.2.2.2.2 _ hn9).word))) f6 hX.1 hX.2.1 hS hsize d0 d3 d4 d6 d9 (fun x hx => (hout x hx).elim) hRframes hRlocals hRcells hRslots hlocks (fun t hW hz hk => ?_) hS.2.2 hc hs
  exact ⟨(), hne, ⟨hE, hP.kept (fun k q hq => hk q.1 (hP k q hq).lt)⟩, ⟨Nat.le_trans hS.1 hz, fun q h1 h2 => by rw [hk q (Nat.lt_of_lt_of_le h1 hS.1)]; exact hS.2.1 q h1 h2⟩⟩
/-- out of this method, to its caller -/
theorem xout {XA : Nat → Prop} {Qc : Array Value → State → Outcome → State → Prop} {E : String} {ce : Cell} {q : Addr} {code : Int32} {w1 : va_W} (hout : ∀ x ∈ c.exceptionTable.toList, False) (hlocks : meth.locks = false) (hcell : H[q]? = some ce) (hv : ce.vm = .none) (hcl : s.vm.findClass E = some ce.cls) (hS : va_S XA s.heap H locs) (hP : va_P (dC, dI) vwCl w1 H) (hne : code ≠ 0) (hE : E = exn code) (hc : cells ≤ mc) (hs : slots ≤ ms) :
    vx_W p l e R s m args below meth c H locs cells slots (vx_MQ below Qc (XX dC dI code w1 XA) args s mc ms XA) (F0 m pc ls rest) q :=
  vx_out (fun x hx => (hout x hx).elim) hlocks hcell hv hcl (fun t ht hW => ⟨(), hne, ⟨hE, by rw [ht]; exact hP⟩, hS.F ht⟩) hS.2.2 hc hs
/-- caught: the rows ahead name other classes -/
theorem xcatch {own name : String} {E : String} {ce : Cell} {q : Addr} {hh : List (Nat × Nat × Nat × Nat)} {A9 : Nat → Prop} (hX : XS A9 s) (hta : ∀ w ∈ ALLW, w.before args s = true) (hown : s.vm.findClass own = some m.cls) (htab : c.exceptionTable.toList = tableOf hh) (pre : List ExceptionTableEntry) (x : ExceptionTableEntry) (suf : List ExceptionTableEntry) (hsplit : tableOf hh = pre ++ x :: suf)
    (hpass : ∀ z ∈ pre, z.catchType ≠ 0 ∧ ∃ nm : String, Cond.classLink own z.catchType nm ∈ ALLW ∧ nm ∈ exl ∧ name ≠ nm) (hx : covers x pc = true) (h0 : x.catchType ≠ 0)
    (hlink : Cond.classLink own x.catchType name ∈ ALLW) (hcast : name ∈ exl) (hnm : name ∈ exl) (hE : E = name) (hcell : H[q]? = some ce) (hv : ce.vm = .none) (hcl : s.vm.findClass E = some ce.cls)
    (kk : W p l e R s m args below meth c H locs cells slots Q (F0 m x.handlerPc ls [.ref q])) : vx_W p l e R s m args below meth c H locs cells slots Q (F0 m pc ls rest) q := by
  subst hE
  refine vx_catch hown pre x suf (htab.trans hsplit) (fun z hz => Or.inr ?_) hx h0 (hta _ hlink) (hX.2.2.2.2.1 _ (exl_6 hcast)).word hcell hv hcl kk
  obtain ⟨h1, nm, h2, h3, h4⟩ := hpass z hz
  exact ⟨h1, nm, hta _ h2, hX.2.2.2.1 _ hnm _ h3 h4⟩
end VCX
theorem xf_1 : XF "java/lang/IllegalArgumentException" ["java/lang/RuntimeException", "java/lang/Exception"] 139 143 := ⟨by decide +kernel, by decide +kernel, lc_X11_139, am1 20, by decide +kernel, by decide +kernel, by decide +kernel⟩
theorem ca_1 : "java/lang/IllegalArgumentException" ∈ exl := by decide
theorem xf_2 : XF "java/lang/IndexOutOfBoundsException" ["java/lang/RuntimeException", "java/lang/Exception"] 415 419 := ⟨by decide +kernel, by decide +kernel, lc_X11_415, am1 21, by decide +kernel, by decide +kernel, by decide +kernel⟩
theorem ca_2 : "java/lang/IndexOutOfBoundsException" ∈ exl := by decide
theorem xf_3 : XFN "java/util/NoSuchElementException" "java/lang/RuntimeException" ["java/lang/Exception"] 258 260 := ⟨by decide +kernel, by decide +kernel, by decide +kernel, lc_X11_258, am1 34, by decide +kernel, by decide +kernel, by decide +kernel⟩
theorem ca_3 : "java/util/NoSuchElementException" ∈ exl := by decide
theorem xf_4 : XF "java/lang/UnsupportedOperationException" ["java/lang/RuntimeException", "java/lang/Exception"] 122 126 := ⟨by decide +kernel, by decide +kernel, lc_X11_122, am1 18, by decide +kernel, by decide +kernel, by decide +kernel⟩
theorem ca_4 : "java/lang/UnsupportedOperationException" ∈ exl := by decide
theorem xf_5 : XF "java/lang/IllegalStateException" ["java/lang/RuntimeException", "java/lang/Exception"] 377 381 := ⟨by decide +kernel, by decide +kernel, lc_X11_377, am1 31, by decide +kernel, by decide +kernel, by decide +kernel⟩
theorem ca_5 : "java/lang/IllegalStateException" ∈ exl := by decide
theorem xf_6 : XF "java/lang/ArithmeticException" ["java/lang/RuntimeException", "java/lang/Exception"] 348 352 := ⟨by decide +kernel, by decide +kernel, lc_X11_348, am1 35, by decide +kernel, by decide +kernel, by decide +kernel⟩
