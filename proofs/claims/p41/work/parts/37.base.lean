/-! BASE: one list of words for all methods; the pure programs' combinators; calls of contracts that speak of a fixed heap. -/
def ALLW : List Cond := lw_tbl.filter goodWord
theorem sg0 {w : Cond} (h : w ∈ k2_sels lw_privs) : w ∈ lw_tbl := List.mem_append.mpr (Or.inl h)
theorem sgt {w : Cond} (h : w ∈ tables_1) : w ∈ lw_tbl := List.mem_append.mpr (Or.inr h)
theorem sg1 {w : Cond} (h : w ∈ tables_1_1) : w ∈ lw_tbl := sgt (List.mem_append.mpr (Or.inl h))
theorem sg2 {w : Cond} (h : w ∈ tables_1_2) : w ∈ lw_tbl := sgt (List.mem_append.mpr (Or.inr (List.mem_append.mpr (Or.inl h))))
theorem sg3 {w : Cond} (h : w ∈ tables_1_3) : w ∈ lw_tbl := sgt (List.mem_append.mpr (Or.inr (List.mem_append.mpr (Or.inr (List.mem_append.mpr (Or.inl h))))))
theorem sg4 {w : Cond} (h : w ∈ tables_1_4) : w ∈ lw_tbl := sgt (List.mem_append.mpr (Or.inr (List.mem_append.mpr (Or.inr (List.mem_append.mpr (Or.inr (List.mem_append.mpr (Or.inl h))))))))
theorem sg5 {w : Cond} (h : w ∈ tables_1_5) : w ∈ lw_tbl := sgt (List.mem_append.mpr (Or.inr (List.mem_append.mpr (Or.inr (List.mem_append.mpr (Or.inr (List.mem_append.mpr (Or.inr (List.mem_append.mpr (Or.inl h))))))))))
theorem sg6 {w : Cond} (h : w ∈ tables_1_6) : w ∈ lw_tbl := sgt (List.mem_append.mpr (Or.inr (List.mem_append.mpr (Or.inr (List.mem_append.mpr (Or.inr (List.mem_append.mpr (Or.inr (List.mem_append.mpr (Or.inr (List.mem_append.mpr (Or.inl h))))))))))))
theorem sg7 {w : Cond} (h : w ∈ tables_1_7) : w ∈ lw_tbl := sgt (List.mem_append.mpr (Or.inr (List.mem_append.mpr (Or.inr (List.mem_append.mpr (Or.inr (List.mem_append.mpr (Or.inr (List.mem_append.mpr (Or.inr (List.mem_append.mpr (Or.inr (List.mem_append.mpr (Or.inl h))))))))))))))
theorem sg8 {w : Cond} (h : w ∈ tables_1_8) : w ∈ lw_tbl := sgt (List.mem_append.mpr (Or.inr (List.mem_append.mpr (Or.inr (List.mem_append.mpr (Or.inr (List.mem_append.mpr (Or.inr (List.mem_append.mpr (Or.inr (List.mem_append.mpr (Or.inr (List.mem_append.mpr (Or.inr (h)))))))))))))))
theorem am0 {w : Cond} (i : Nat) (h : (k2_sels lw_privs)[i]? = some w := by decide +kernel) (g : goodWord w = true := by decide +kernel) : w ∈ ALLW := List.mem_filter.mpr ⟨sg0 (List.mem_of_getElem? h), g⟩
theorem am1 {w : Cond} (i : Nat) (h : tables_1_1[i]? = some w := by decide +kernel) (g : goodWord w = true := by decide +kernel) : w ∈ ALLW := List.mem_filter.mpr ⟨sg1 (List.mem_of_getElem? h), g⟩
theorem am2 {w : Cond} (i : Nat) (h : tables_1_2[i]? = some w := by decide +kernel) (g : goodWord w = true := by decide +kernel) : w ∈ ALLW := List.mem_filter.mpr ⟨sg2 (List.mem_of_getElem? h), g⟩
theorem am3 {w : Cond} (i : Nat) (h : tables_1_3[i]? = some w := by decide +kernel) (g : goodWord w = true := by decide +kernel) : w ∈ ALLW := List.mem_filter.mpr ⟨sg3 (List.mem_of_getElem? h), g⟩
theorem am4 {w : Cond} (i : Nat) (h : tables_1_4[i]? = some w := by decide +kernel) (g : goodWord w = true := by decide +kernel) : w ∈ ALLW := List.mem_filter.mpr ⟨sg4 (List.mem_of_getElem? h), g⟩
theorem am5 {w : Cond} (i : Nat) (h : tables_1_5[i]? = some w := by decide +kernel) (g : goodWord w = true := by decide +kernel) : w ∈ ALLW := List.mem_filter.mpr ⟨sg5 (List.mem_of_getElem? h), g⟩
theorem am6 {w : Cond} (i : Nat) (h : tables_1_6[i]? = some w := by decide +kernel) (g : goodWord w = true := by decide +kernel) : w ∈ ALLW := List.mem_filter.mpr ⟨sg6 (List.mem_of_getElem? h), g⟩
theorem am7 {w : Cond} (i : Nat) (h : tables_1_7[i]? = some w := by decide +kernel) (g : goodWord w = true := by decide +kernel) : w ∈ ALLW := List.mem_filter.mpr ⟨sg7 (List.mem_of_getElem? h), g⟩
theorem am8 {w : Cond} (i : Nat) (h : tables_1_8[i]? = some w := by decide +kernel) (g : goodWord w = true := by decide +kernel) : w ∈ ALLW := List.mem_filter.mpr ⟨sg8 (List.mem_of_getElem? h), g⟩
theorem am_all {ws : List Cond} (is : List Nat) (h : ws = is.filterMap (fun i => lw_tbl[i]?)) (g : ws.all goodWord = true) : ∀ w ∈ ws, w ∈ ALLW := by
  intro w hw
  have g1 := List.all_eq_true.mp g w hw
  rw [h] at hw
  obtain ⟨i, -, hi⟩ := List.mem_filterMap.mp hw
  exact List.mem_filter.mpr ⟨List.mem_of_getElem? hi, g1⟩
abbrev wA (y : MethodName) (cc : ByteArray) (n : Nat) (ret : Option FieldType) : List Cond := Cond.code y cc n ret :: ALLW
theorem wA_good {y : MethodName} {cc : ByteArray} {n : Nat} {ret : Option FieldType} (h : Cond.code y cc n ret ∈ ALLW) : GoodIn ALLW (wA y cc n ret) := by
  intro w hw
  have hm : w ∈ ALLW := (List.mem_cons.mp hw).elim (fun e => by rw [e]; exact h) id
  exact ⟨hm, good_of_word (List.mem_filter.mp hm).2⟩
/-- what a call asks of a callee: an instance method of C, selected in C -/
def MdV (C : String) (y : MethodName) (bytes : ByteArray) (maxL : Nat) (ret : Option FieldType) (n : Nat) : Prop :=
  Cond.instanceMethod y ∈ ALLW ∧ Cond.selects C y y ∈ ALLW ∧ Cond.initialized y.cls ∈ ALLW ∧ Cond.code y bytes maxL ret ∈ ALLW ∧ (y.cls ≠ "java/lang/invoke/MethodHandle" ∧ y.cls ≠ "java/lang/invoke/VarHandle" ∧ (parseMethodDescriptor y.desc).map (fun d => d.parameters.length) = some n)
def MdS (y : MethodName) (bytes : ByteArray) (maxL : Nat) (ret : Option FieldType) (n : Nat) : Prop :=
  Cond.static y ∈ ALLW ∧ Cond.initialized y.cls ∈ ALLW ∧ Cond.code y bytes maxL ret ∈ ALLW ∧ (y.cls ≠ "java/lang/invoke/MethodHandle" ∧ y.cls ≠ "java/lang/invoke/VarHandle" ∧ (parseMethodDescriptor y.desc).map (fun d => d.parameters.length) = some n)
def MdI (y : MethodName) (bytes : ByteArray) (maxL : Nat) (n : Nat) : Prop :=
  Cond.instanceMethod y ∈ ALLW ∧ Cond.initialized y.cls ∈ ALLW ∧ Cond.code y bytes maxL none ∈ ALLW ∧ (y.cls ≠ "java/lang/invoke/MethodHandle" ∧ y.cls ≠ "java/lang/invoke/VarHandle" ∧ (parseMethodDescriptor y.desc).map (fun d => d.parameters.length) = some n) ∧ y.name = "<init>"
section CW
variable {own C : String} {index maxL n : Nat} {y : MethodName} {bytes : ByteArray} {ret : Option FieldType} {rm R : Room} {s : State} {args : Array Value}
theorem cV (hta : ∀ w ∈ ALLW, w.before args s = true) (hl : Cond.methodLink own index y ∈ ALLW) (M : MdV C y bytes maxL ret n) (hR : rm.frames + 1 ≤ R.frames ∧ 8 + (maxL + 11) + rm.locals ≤ R.locals) : CallW R s args own C index y bytes maxL ret (wA y bytes maxL ret) rm rm.cells rm.slots n :=
  ⟨callB_of n hta (wA_good M.2.2.2.1) rfl rfl rfl (hta _ M.2.2.1) (hta _ hl) M.2.2.2.2 hR, hta _ M.1, hta _ M.2.1⟩
theorem cS (hta : ∀ w ∈ ALLW, w.before args s = true) (hl : Cond.methodLink own index y ∈ ALLW) (M : MdS y bytes maxL ret n) (hR : rm.frames + 1 ≤ R.frames ∧ 8 + (maxL + 11) + rm.locals ≤ R.locals) : CallB R s args own index y bytes maxL ret (wA y bytes maxL ret) rm rm.cells rm.slots n ∧ (Cond.static y).before args s = true :=
  ⟨callB_of n hta (wA_good M.2.2.1) rfl rfl rfl (hta _ M.2.1) (hta _ hl) M.2.2.2 hR, hta _ M.1⟩
end CW
/-- the array classes that the worlds speak of -/
abbrev TYS (cT : Nat → ClassId) : List (ClassId × FieldType) := [(cT 0, .int), (cT 1, .boolean), (cT 2, .char), (cT 3, .long), (cT 4, .float), (cT 5, .int), (cT 6, .byte), (cT 7, .object "CauldronTypes$Spell"), (cT 8, .object "CauldronTypes$Book")]
/-- a method's start: these arguments, this heap -/
abbrev PK (dC : Nat → ClassId) (dI : Nat → Nat → Nat) (cT : Nat → ClassId) (av : List Value) (Hh : Heap) : Array Value → State → Prop := va_Pc av (fun U => U.heap = Hh ∧ va_K (dC, dI) vwCl (TYS cT) U)
theorem fbK {dC : Nat → ClassId} {dI : Nat → Nat → Nat} {cT : Nat → ClassId} {av : List Value} {Hh : Heap} : FrameBlind (PK dC dI cT av Hh) := fun a U g mk q => ⟨q.1, q.2.1, va_K.moved (u := U) (U := U.calling g mk a) (Vm.Alike.refl U.vm) q.2.2⟩
/-! what a method's end says: its answer, and the cells that it may write -/
abbrev QI (dC : Nat → ClassId) (dI : Nat → Nat → Nat) (r : Int32) (w1 : va_W) (A : Nat → Prop) : Array Value → State → Outcome → State → Prop := va_Qi (fun x (_ : Unit) => x = r) (fun _ t => va_P (dC, dI) vwCl w1 t.heap) A
abbrev QL (dC : Nat → ClassId) (dI : Nat → Nat → Nat) (r : Int64) (w1 : va_W) (A : Nat → Prop) : Array Value → State → Outcome → State → Prop := va_Ql (fun x (_ : Unit) => x = r) (fun _ t => va_P (dC, dI) vwCl w1 t.heap) A
abbrev QF (dC : Nat → ClassId) (dI : Nat → Nat → Nat) (r : UInt32) (w1 : va_W) (A : Nat → Prop) : Array Value → State → Outcome → State → Prop := va_Qf (fun x (_ : Unit) => x = r) (fun _ t => va_P (dC, dI) vwCl w1 t.heap) A
abbrev QD (dC : Nat → ClassId) (dI : Nat → Nat → Nat) (r : UInt64) (w1 : va_W) (A : Nat → Prop) : Array Value → State → Outcome → State → Prop := va_Qd (fun x (_ : Unit) => x = r) (fun _ t => va_P (dC, dI) vwCl w1 t.heap) A
abbrev QV (dC : Nat → ClassId) (dI : Nat → Nat → Nat) (w1 : va_W) (A : Nat → Prop) : Array Value → State → Outcome → State → Prop := va_Qv (fun (_ : Unit) => True) (fun _ t => va_P (dC, dI) vwCl w1 t.heap) A
abbrev QO (dC : Nat → ClassId) (dI : Nat → Nat → Nat) (r : Option Nat) (w1 : va_W) (A : Nat → Prop) : Array Value → State → Outcome → State → Prop := va_Qq (fun x (_ : Unit) => x = r) (fun _ t => va_P (dC, dI) vwCl w1 t.heap) A
abbrev QIr (r : Int32) (Hh : Heap) : Array Value → State → Outcome → State → Prop := va_Qi (fun x (_ : Unit) => x = r) (fun _ t => t.heap = Hh) (va_A [] Hh.size)
abbrev QLr (r : Int64) (Hh : Heap) : Array Value → State → Outcome → State → Prop := va_Ql (fun x (_ : Unit) => x = r) (fun _ t => t.heap = Hh) (va_A [] Hh.size)
abbrev QFr (r : UInt32) (Hh : Heap) : Array Value → State → Outcome → State → Prop := va_Qf (fun x (_ : Unit) => x = r) (fun _ t => t.heap = Hh) (va_A [] Hh.size)
abbrev QDr (r : UInt64) (Hh : Heap) : Array Value → State → Outcome → State → Prop := va_Qd (fun x (_ : Unit) => x = r) (fun _ t => t.heap = Hh) (va_A [] Hh.size)
abbrev QVr (Hh : Heap) : Array Value → State → Outcome → State → Prop := va_Qv (fun (_ : Unit) => True) (fun _ t => t.heap = Hh) (va_A [] Hh.size)
abbrev QOr (r : Option Nat) (Hh : Heap) : Array Value → State → Outcome → State → Prop := va_Qq (fun x (_ : Unit) => x = r) (fun _ t => t.heap = Hh) (va_A [] Hh.size)
/-- addresses that are apart -/
def NDp (l : List Nat) : Prop := ∀ (i j x : Nat), l[i]? = some x → l[j]? = some x → i = j
theorem nd_sub {l l' : List Nat} (h : NDp l) (is : List Nat) (hn : va_nd is = true) (hs : is.map (fun i => l[i]?) = l'.map some) : NDp l' := by
  have key : ∀ (k x : Nat), l'[k]? = some x → ∃ i, is[k]? = some i ∧ l[i]? = some x := by
    intro k x hk
    have h1 : (is.map (fun i => l[i]?))[k]? = some (some x) := by rw [hs, List.getElem?_map, hk]; rfl
    rw [List.getElem?_map] at h1
    cases hi : is[k]? with
    | none => rw [hi] at h1; cases h1
    | some i => rw [hi] at h1; exact ⟨i, rfl, Option.some.inj h1⟩
  intro i j x hi hj
  obtain ⟨a, h1, h2⟩ := key i x hi
  obtain ⟨b, h3, h4⟩ := key j x hj
  have hab := h a b x h2 h4
  subst hab
  exact va_nd_inj is hn i j a h1 h3
theorem nd_D {l : List Nat} (h : NDp l) (ws : va_W) (n : Nat) (hw : ws.map Prod.fst = l.take n) : va_D (fun _ => True) ws := by
  refine ⟨fun i j p q hi hj hpq => ?_, fun _ _ _ => trivial⟩
  have key : ∀ (k : Nat) (q : Nat × va_E), ws[k]? = some q → l[k]? = some q.1 := by
    intro k q hk
    have h1 : (ws.map Prod.fst)[k]? = some q.1 := by rw [List.getElem?_map, hk]; rfl
    rw [hw, List.getElem?_take] at h1
    by_cases hkn : k < n
    · rw [if_pos hkn] at h1; exact h1
    · rw [if_neg hkn] at h1; cases h1
  exact h i j p.1 (key i p hi) (by rw [hpq]; exact key j q hj)
/-- read only cells aren't those that are written -/
theorem nd_R {l : List Nat} (h : NDp l) {D : va_G} {cl : List vw_C} {ws ro : va_W} {H : Heap} (n : Nat) (hw : ws.map Prod.fst = l.take n) (hn : ws.length = n) (hr : ro.map Prod.fst = l.drop n) (hR : va_P D cl ro H) : ∀ (k : Nat) (q : Nat × va_E), ro[k]? = some q → ¬ va_A ws H.size q.1 := by
  intro k q hk hA
  rcases hA with ⟨j, e, hj⟩ | hlt
  · have h1 : (ws.map Prod.fst)[j]? = some q.1 := by rw [List.getElem?_map, hj]; rfl
    have hjn : j < n := by rw [← hn]; exact (List.getElem?_eq_some_iff.mp hj).1
    rw [hw, List.getElem?_take, if_pos hjn] at h1
    have h2 : (ro.map Prod.fst)[k]? = some q.1 := by rw [List.getElem?_map, hk]; rfl
    rw [hr, List.getElem?_drop] at h2
    have := h j (n + k) q.1 h1 h2
    omega
  · exact absurd (hR k q hk).lt (Nat.not_lt.mpr hlt)
theorem rk {D : va_G} {cl : List vw_C} {ro : va_W} {A : Nat → Prop} {H0 H : Heap} {locs : List Loc} (hR : va_P D cl ro H0) (hN : ∀ (k : Nat) (q : Nat × va_E), ro[k]? = some q → ¬ A q.1) (hS : va_S A H0 H locs) : va_P D cl ro H := hR.kept (fun k q hk => hS.2.1 q.1 (hR k q hk).lt (hN k q hk))
theorem va_D_addr {A : Nat → Prop} {X X2 : va_W} (h : va_D A X) (he : X2.map Prod.fst = X.map Prod.fst) : va_D A X2 := by
  have key : ∀ (k : Nat) (q : Nat × va_E), X2[k]? = some q → ∃ p, X[k]? = some p ∧ p.1 = q.1 := by
    intro k q hk
    have h1 : (X2.map Prod.fst)[k]? = some q.1 := by rw [List.getElem?_map, hk]; rfl
    rw [he, List.getElem?_map] at h1
    cases hx : X[k]? with
    | none => rw [hx] at h1; cases h1
    | some p => rw [hx] at h1; exact ⟨p, rfl, Option.some.inj h1⟩
  refine ⟨fun i j p q hi hj hpq => ?_, fun k q hk => ?_⟩
  · obtain ⟨p', h1, e1⟩ := key i p hi
    obtain ⟨q', h2, e2⟩ := key j q hj
    exact h.1 i j p' q' h1 h2 (by rw [e1, e2, hpq])
  · obtain ⟨p', h1, e1⟩ := key k q hk
    rw [← e1]; exact h.2 k p' h1
def jcode (X w1 : va_W) : Nat ⊕ Nat → Option (Nat × va_E) := fun c => match c with
  | .inl j => w1[j]?
  | .inr i => X[i]?
def jok (cd : List (Nat ⊕ Nat)) (isC : List Nat) : Bool := cd.all (fun c => match c with
  | .inl _ => true
  | .inr i => decide (i ∉ isC))
/-- behind a call: the cells that the callee wrote are its own, the others are as they were; each in its place -/
theorem jn {D : va_G} {cl : List vw_C} {A0 : Nat → Prop} {X wc w1 X2 : va_W} {H H1 : Heap} (hP : va_P D cl X H) (hD : va_D A0 X) (isC : List Nat) (hC : isC.map (fun i => X[i]?) = wc.map some) (cd : List (Nat ⊕ Nat)) (h2 : cd.map (jcode X w1) = X2.map some) (hn : jok cd isC = true) (hadr : X2.map Prod.fst = X.map Prod.fst)
    (hk : ∀ q : Nat, q < H.size → ¬ va_A wc H.size q → H1[q]? = H[q]?) (hP1 : va_P D cl w1 H1) : va_P D cl X2 H1 ∧ va_D A0 X2 := by
  refine ⟨fun k q hq => ?_, va_D_addr hD hadr⟩
  have h3 : (cd.map (jcode X w1))[k]? = some (some q) := by rw [h2, List.getElem?_map, hq]; rfl
  rw [List.getElem?_map] at h3
  cases hc : cd[k]? with
  | none => rw [hc] at h3; cases h3
  | some c =>
    rw [hc] at h3
    have h4 : jcode X w1 c = some q := Option.some.inj h3
    cases c with
    | inl j => exact hP1 j q h4
    | inr i =>
      have h5 : X[i]? = some q := h4
      have hi : i ∉ isC := by
        have := List.all_eq_true.mp hn _ (List.mem_of_getElem? hc)
        exact of_decide_eq_true this
      refine (hP i q h5).kept (hk q.1 (hP i q h5).lt (fun hA => ?_))
      rcases hA with ⟨j, e, hj⟩ | hlt
      · have h6 : (isC.map (fun i => X[i]?))[j]? = some (some (q.1, e)) := by rw [hC, List.getElem?_map, hj]; rfl
        rw [List.getElem?_map] at h6
        cases hx : isC[j]? with
        | none => rw [hx] at h6; cases h6
        | some i2 =>
          rw [hx] at h6
          have h7 : X[i2]? = some (q.1, e) := Option.some.inj h6
          have h8 := hD.1 i i2 q (q.1, e) h5 h7 rfl
          subst h8
          exact hi (List.mem_of_getElem? hx)
      · exact absurd (hP i q h5).lt (Nat.not_lt.mpr hlt)
theorem frA {A0 : Nat → Prop} {H0 H : Heap} {locs : List Loc} (hS : va_S A0 H0 H locs) (hA : ∀ q, H0.size ≤ q → A0 q) : ∀ q, va_A [] H.size q → A0 q := by
  intro q h
  rcases h with ⟨k, e, h⟩ | h
  · cases h
  · exact hA q (Nat.le_trans hS.1 h)
section VCL
variable {p : Program} {l : Launch} {e : Env} {R : Room} {s : State} {m : MethodId} {args : Array Value} {below : List Frame} {meth : Method} {c : Code} {H : Heap} {locs : List Loc} {cells slots : Nat} {Q : State → Prop} {pc : Nat} {ls : Array Slot} {rest st0 : List Value} {a : Array Value} {A0 : Nat → Prop} {H0 : Heap} {mc ms : Nat} {dC : Nat → ClassId} {dI : Nat → Nat → Nat}
theorem crI {r : Int32} (hr : va_Run p l e R s m args below meth c H locs cells slots 0 0 (F0 m pc ls st0) rest (QIr r H a) (va_A [] H.size)) (hS : va_S A0 H0 H locs) (hA : ∀ q, H0.size ≤ q → A0 q) (k : ∀ locs1, va_S A0 H0 H locs1 → W p l e R s m args below meth c H locs1 cells slots Q (F0 m (pc + 3) ls (.int r :: rest))) : W p l e R s m args below meth c H locs cells slots Q (F0 m pc ls st0) := by
  refine va_calli hr hS (fun q _ h => frA hS hA q h) (frA hS hA) (fun r1 u t H1 locs1 ht hvm hw hB hz hk hS1 => ?_)
  have hH : H1 = H := ht.symm.trans hB
  subst hH
  subst hw
  exact k locs1 hS1
theorem cxI {r : Int32} {X wc w1 X2 : va_W} (hr : va_Run p l e R s m args below meth c H locs cells slots mc ms (F0 m pc ls st0) rest (QI dC dI r w1 (va_A wc H.size) a) (va_A wc H.size)) (hS : va_S A0 H0 H locs) (hA : ∀ q, H0.size ≤ q → A0 q) (hP : va_P (dC, dI) vwCl X H) (hD : va_D A0 X) (isC : List Nat) (hC : isC.map (fun i => X[i]?) = wc.map some) (cd : List (Nat ⊕ Nat)) (h2 : cd.map (jcode X w1) = X2.map some) (hn : jok cd isC = true) (hadr : X2.map Prod.fst = X.map Prod.fst)
    (k : ∀ H1 locs1, va_P (dC, dI) vwCl X2 H1 → va_D A0 X2 → va_S A0 H0 H1 locs1 → W p l e R s m args below meth c H1 locs1 (cells + mc) (slots + ms) Q (F0 m (pc + 3) ls (.int r :: rest))) : W p l e R s m args below meth c H locs cells slots Q (F0 m pc ls st0) := by
  have hf := va_free hD hS hA isC hC
  refine va_calli hr hS (fun q _ h => hf q h) hf (fun r1 u t H1 locs1 ht hvm hw hB hz hk hS1 => ?_)
  subst hw
  have hB' : va_P (dC, dI) vwCl w1 H1 := by rw [← ht]; exact hB
  obtain ⟨h3, h4⟩ := jn hP hD isC hC cd h2 hn hadr hk hB'
  exact k H1 locs1 h3 h4 hS1
theorem crL {r : Int64} (hr : va_Run p l e R s m args below meth c H locs cells slots 0 0 (F0 m pc ls st0) rest (QLr r H a) (va_A [] H.size)) (hS : va_S A0 H0 H locs) (hA : ∀ q, H0.size ≤ q → A0 q) (k : ∀ locs1, va_S A0 H0 H locs1 → W p l e R s m args below meth c H locs1 cells slots Q (F0 m (pc + 3) ls (.long r :: rest))) : W p l e R s m args below meth c H locs cells slots Q (F0 m pc ls st0) := by
  refine va_calll hr hS (fun q _ h => frA hS hA q h) (frA hS hA) (fun r1 u t H1 locs1 ht hvm hw hB hz hk hS1 => ?_)
  have hH : H1 = H := ht.symm.trans hB
  subst hH
  subst hw
  exact k locs1 hS1
theorem cxL {r : Int64} {X wc w1 X2 : va_W} (hr : va_Run p l e R s m args below meth c H locs cells slots mc ms (F0 m pc ls st0) rest (QL dC dI r w1 (va_A wc H.size) a) (va_A wc H.size)) (hS : va_S A0 H0 H locs) (hA : ∀ q, H0.size ≤ q → A0 q) (hP : va_P (dC, dI) vwCl X H) (hD : va_D A0 X) (isC : List Nat) (hC : isC.map (fun i => X[i]?) = wc.map some) (cd : List (Nat ⊕ Nat)) (h2 : cd.map (jcode X w1) = X2.map some) (hn : jok cd isC = true) (hadr : X2.map Prod.fst = X.map Prod.fst)
    (k : ∀ H1 locs1, va_P (dC, dI) vwCl X2 H1 → va_D A0 X2 → va_S A0 H0 H1 locs1 → W p l e R s m args below meth c H1 locs1 (cells + mc) (slots + ms) Q (F0 m (pc + 3) ls (.long r :: rest))) : W p l e R s m args below meth c H locs cells slots Q (F0 m pc ls st0) := by
  have hf := va_free hD hS hA isC hC
  refine va_calll hr hS (fun q _ h => hf q h) hf (fun r1 u t H1 locs1 ht hvm hw hB hz hk hS1 => ?_)
  subst hw
  have hB' : va_P (dC, dI) vwCl w1 H1 := by rw [← ht]; exact hB
  obtain ⟨h3, h4⟩ := jn hP hD isC hC cd h2 hn hadr hk hB'
  exact k H1 locs1 h3 h4 hS1
theorem crF {r : UInt32} (hr : va_Run p l e R s m args below meth c H locs cells slots 0 0 (F0 m pc ls st0) rest (QFr r H a) (va_A [] H.size)) (hS : va_S A0 H0 H locs) (hA : ∀ q, H0.size ≤ q → A0 q) (k : ∀ locs1, va_S A0 H0 H locs1 → W p l e R s m args below meth c H locs1 cells slots Q (F0 m (pc + 3) ls (.float r :: rest))) : W p l e R s m args below meth c H locs cells slots Q (F0 m pc ls st0) := by
  refine va_callf hr hS (fun q _ h => frA hS hA q h) (frA hS hA) (fun r1 u t H1 locs1 ht hvm hw hB hz hk hS1 => ?_)
  have hH : H1 = H := ht.symm.trans hB
  subst hH
  subst hw
  exact k locs1 hS1
theorem cxF {r : UInt32} {X wc w1 X2 : va_W} (hr : va_Run p l e R s m args below meth c H locs cells slots mc ms (F0 m pc ls st0) rest (QF dC dI r w1 (va_A wc H.size) a) (va_A wc H.size)) (hS : va_S A0 H0 H locs) (hA : ∀ q, H0.size ≤ q → A0 q) (hP : va_P (dC, dI) vwCl X H) (hD : va_D A0 X) (isC : List Nat) (hC : isC.map (fun i => X[i]?) = wc.map some) (cd : List (Nat ⊕ Nat)) (h2 : cd.map (jcode X w1) = X2.map some) (hn : jok cd isC = true) (hadr : X2.map Prod.fst = X.map Prod.fst)
    (k : ∀ H1 locs1, va_P (dC, dI) vwCl X2 H1 → va_D A0 X2 → va_S A0 H0 H1 locs1 → W p l e R s m args below meth c H1 locs1 (cells + mc) (slots + ms) Q (F0 m (pc + 3) ls (.float r :: rest))) : W p l e R s m args below meth c H locs cells slots Q (F0 m pc ls st0) := by
  have hf := va_free hD hS hA isC hC
  refine va_callf hr hS (fun q _ h => hf q h) hf (fun r1 u t H1 locs1 ht hvm hw hB hz hk hS1 => ?_)
  subst hw
  have hB' : va_P (dC, dI) vwCl w1 H1 := by rw [← ht]; exact hB
  obtain ⟨h3, h4⟩ := jn hP hD isC hC cd h2 hn hadr hk hB'
  exact k H1 locs1 h3 h4 hS1
theorem crD {r : UInt64} (hr : va_Run p l e R s m args below meth c H locs cells slots 0 0 (F0 m pc ls st0) rest (QDr r H a) (va_A [] H.size)) (hS : va_S A0 H0 H locs) (hA : ∀ q, H0.size ≤ q → A0 q) (k : ∀ locs1, va_S A0 H0 H locs1 → W p l e R s m args below meth c H locs1 cells slots Q (F0 m (pc + 3) ls (.double r :: rest))) : W p l e R s m args below meth c H locs cells slots Q (F0 m pc ls st0) := by
  refine va_calld hr hS (fun q _ h => frA hS hA q h) (frA hS hA) (fun r1 u t H1 locs1 ht hvm hw hB hz hk hS1 => ?_)
  have hH : H1 = H := ht.symm.trans hB
  subst hH
  subst hw
  exact k locs1 hS1
theorem cxD {r : UInt64} {X wc w1 X2 : va_W} (hr : va_Run p l e R s m args below meth c H locs cells slots mc ms (F0 m pc ls st0) rest (QD dC dI r w1 (va_A wc H.size) a) (va_A wc H.size)) (hS : va_S A0 H0 H locs) (hA : ∀ q, H0.size ≤ q → A0 q) (hP : va_P (dC, dI) vwCl X H) (hD : va_D A0 X) (isC : List Nat) (hC : isC.map (fun i => X[i]?) = wc.map some) (cd : List (Nat ⊕ Nat)) (h2 : cd.map (jcode X w1) = X2.map some) (hn : jok cd isC = true) (hadr : X2.map Prod.fst = X.map Prod.fst)
    (k : ∀ H1 locs1, va_P (dC, dI) vwCl X2 H1 → va_D A0 X2 → va_S A0 H0 H1 locs1 → W p l e R s m args below meth c H1 locs1 (cells + mc) (slots + ms) Q (F0 m (pc + 3) ls (.double r :: rest))) : W p l e R s m args below meth c H locs cells slots Q (F0 m pc ls st0) := by
  have hf := va_free hD hS hA isC hC
  refine va_calld hr hS (fun q _ h => hf q h) hf (fun r1 u t H1 locs1 ht hvm hw hB hz hk hS1 => ?_)
  subst hw
  have hB' : va_P (dC, dI) vwCl w1 H1 := by rw [← ht]; exact hB
  obtain ⟨h3, h4⟩ := jn hP hD isC hC cd h2 hn hadr hk hB'
  exact k H1 locs1 h3 h4 hS1
theorem crO {r : Option Nat} (hr : va_Run p l e R s m args below meth c H locs cells slots 0 0 (F0 m pc ls st0) rest (QOr r H a) (va_A [] H.size)) (hS : va_S A0 H0 H locs) (hA : ∀ q, H0.size ≤ q → A0 q) (k : ∀ locs1, va_S A0 H0 H locs1 → W p l e R s m args below meth c H locs1 cells slots Q (F0 m (pc + 3) ls (va_rf r :: rest))) : W p l e R s m args below meth c H locs cells slots Q (F0 m pc ls st0) := by
  refine va_callq hr hS (fun q _ h => frA hS hA q h) (frA hS hA) (fun r1 u t H1 locs1 ht hvm hw hB hz hk hS1 => ?_)
  have hH : H1 = H := ht.symm.trans hB
  subst hH
  subst hw
  exact k locs1 hS1
theorem cxO {r : Option Nat} {X wc w1 X2 : va_W} (hr : va_Run p l e R s m args below meth c H locs cells slots mc ms (F0 m pc ls st0) rest (QO dC dI r w1 (va_A wc H.size) a) (va_A wc H.size)) (hS : va_S A0 H0 H locs) (hA : ∀ q, H0.size ≤ q → A0 q) (hP : va_P (dC, dI) vwCl X H) (hD : va_D A0 X) (isC : List Nat) (hC : isC.map (fun i => X[i]?) = wc.map some) (cd : List (Nat ⊕ Nat)) (h2 : cd.map (jcode X w1) = X2.map some) (hn : jok cd isC = true) (hadr : X2.map Prod.fst = X.map Prod.fst)
    (k : ∀ H1 locs1, va_P (dC, dI) vwCl X2 H1 → va_D A0 X2 → va_S A0 H0 H1 locs1 → W p l e R s m args below meth c H1 locs1 (cells + mc) (slots + ms) Q (F0 m (pc + 3) ls (va_rf r :: rest))) : W p l e R s m args below meth c H locs cells slots Q (F0 m pc ls st0) := by
  have hf := va_free hD hS hA isC hC
  refine va_callq hr hS (fun q _ h => hf q h) hf (fun r1 u t H1 locs1 ht hvm hw hB hz hk hS1 => ?_)
  subst hw
  have hB' : va_P (dC, dI) vwCl w1 H1 := by rw [← ht]; exact hB
  obtain ⟨h3, h4⟩ := jn hP hD isC hC cd h2 hn hadr hk hB'
  exact k H1 locs1 h3 h4 hS1
theorem cxV {X wc w1 X2 : va_W} (hr : va_Run p l e R s m args below meth c H locs cells slots mc ms (F0 m pc ls st0) rest (QV dC dI w1 (va_A wc H.size) a) (va_A wc H.size)) (hS : va_S A0 H0 H locs) (hA : ∀ q, H0.size ≤ q → A0 q) (hP : va_P (dC, dI) vwCl X H) (hD : va_D A0 X) (isC : List Nat) (hC : isC.map (fun i => X[i]?) = wc.map some) (cd : List (Nat ⊕ Nat)) (h2 : cd.map (jcode X w1) = X2.map some) (hn : jok cd isC = true) (hadr : X2.map Prod.fst = X.map Prod.fst)
    (k : ∀ H1 locs1, va_P (dC, dI) vwCl X2 H1 → va_D A0 X2 → va_S A0 H0 H1 locs1 → W p l e R s m args below meth c H1 locs1 (cells + mc) (slots + ms) Q (F0 m (pc + 3) ls rest)) : W p l e R s m args below meth c H locs cells slots Q (F0 m pc ls st0) := by
  have hf := va_free hD hS hA isC hC
  refine va_callv hr hS (fun q _ h => hf q h) hf (fun u t H1 locs1 ht hvm hw hB hz hk hS1 => ?_)
  have hB' : va_P (dC, dI) vwCl w1 H1 := by rw [← ht]; exact hB
  obtain ⟨h3, h4⟩ := jn hP hD isC hC cd h2 hn hadr hk hB'
  exact k H1 locs1 h3 h4 hS1
end VCL
