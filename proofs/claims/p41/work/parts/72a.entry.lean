/-! THE CLAIM OUT OF ONE WALK: the kit's skeleton, its beginning -/
def R_law : String := "CauldronTypesLaw"
def lw_P (b : Addr) (xs : List Int32) (args : Array Value) (s : State) : Prop := args = #[.ref b] ∧ s.IntsAt b xs ∧ xs.length ≤ 260 ∧ (Jvm.Cond.and given_1 narrow_1).before args s = true
/-- what a walk over the start with the record d0 says of its end, said of the start itself -/
theorem lw_closed {s t : State} {o : Outcome} {d0 : Drawn} {L : List Loc} {k n : Nat} (hd0 : s.drawn.sameBut d0 lw_cs) (hv : ∃ v, o = .returned v) (hW : (s.setDrawn d0).WarmedH t.vm) (hs : (s.setDrawn d0).sameButNew ({ t with vm := s.vm } : State) L k n) : State.butDraws s t lw_cs (fun t1 => Framed s o t1 L k n) := by
  have h2 : t.drawn = d0 := congrArg State.drawn hs.1
  refine ⟨⟨hv, hW, State.sameButNew.setDrawn hs s.drawn⟩, ?_, by decide⟩
  rw [h2]
  exact hd0
def lw_Q (_ : Array Value) (s : State) (o : Outcome) (t : State) : Prop := o = .returned (some (.int 1)) ∧ State.butDraws s t lw_cs (fun t1 => Framed s o t1 [] 705255 6970883)
def lw_Z (below : List Frame) (a : Array Value) (s : State) : State → Prop := fun t => ∃ o, t.status = .running ∧ Ended t below o ∧ lw_Q a s o t
/-- the law's own end, with 1 on the stack, nothing written that was there before, its room as the claim has it; d0: the record of draws at this point (at the entry s.drawn: begin with 'refine W.base ?_' and 'have hd0 := Drawn.sameBut.refl s.drawn lw_cs') -/
theorem lw_ret {p : Program} {l : Launch} {e : Env} {s : State} {m : MethodId} {below : List Frame} {meth : Method} {c : Code} {b : Nat} {d0 : Drawn} (hd0 : s.drawn.sameBut d0 lw_cs) (hx : p.tables.exec = Jvm.exec) (hb : c.code = code) (hr : meth.sig.returnType = ret) (hlocks : meth.locks = false) {pc : Nat} {H : Heap} {ls : Array Slot} (hdg : decode code pc = .ok (.ireturn, 1)) : W p l e room_1 (s.setDrawn d0) m #[Value.ref b] below meth c H [] 705255 6970883 (lw_Z below #[Value.ref b] s) (F0 m pc ls [.int 1]) := by
  intro T hT X
  obtain ⟨fs, hret, hrun, hended, hW, hframe⟩ := X.leave (v := some (.int 1)) (hlocks := hlocks) (fun h => by rw [hr] at h; cases h)
  have hmeth' : T.vm.method? m = some meth := X.method'
  refine ⟨T.setFrames fs, ?_, .returned (some (.int 1)), hrun, hended, rfl, lw_closed hd0 ⟨_, rfl⟩ hW hframe⟩
  jvm_step X.here [X.here.top, hx, hb, hdg, hmeth', hr, ret, narrow_b1]
  (try refine ⟨rfl, ?_⟩); (try refine ⟨rfl, ?_⟩)
  first | (intro acts; rw [hret _ acts rfl rfl rfl]) | rw [hret _ _ rfl rfl rfl]
  exact Steps.refl _
/-- what holds at the law's entry: the machine, the code, the tables' words (any of lw_tbl by 'hts w (by decide +kernel)'), the script of L ints xs at the cell b, what the Statement gives of the start (any of its parts by flat_of_before) -/
def lw_At (p : Program) (s : State) (m : MethodId) (meth : Method) (c : Code) (b L : Nat) (xs : Nat → Int32) : Prop :=
  p.tables.exec = Jvm.exec ∧ c.code = code ∧ meth.sig.returnType = ret ∧ c.maxLocals = 2 ∧ s.vm.findClass R_law = some m.cls ∧ (∀ w ∈ lw_tbl, w.before #[Value.ref b] s = true) ∧ va_X b L xs s s.heap ∧ b < s.heap.size ∧ meth.locks = false ∧ (Jvm.Cond.and given_1 narrow_1).before #[Value.ref b] s = true
/-! THE ENTRY: what the start gives (gen/start41.py) -/
section ENTRY
variable {args : Array Value} {s : State}
theorem en_arr {ty : FieldType} (hp : ∀ C, ty ≠ .object C) (h : (Cond.arrayClass ty).before args s = true) : ∃ cA : ClassId, ArrOfT s cA ty ∧ va_RA s cA ty := by
  obtain ⟨cA, kA, comp, h1, h2, h3⟩ := Cond.arrayClass_spec h
  refine ⟨cA, fun n z => ⟨fun k h => (by cases h), kA, h2, comp, h3⟩, ?_⟩
  cases ty with
  | object C => exact absurd rfl (hp C)
  | _ => exact h1
theorem en_obj {C : String} (h : (Cond.arrayOver (.object C)).before args s = true) : ∃ cA : ClassId, ArrOfT s cA (.object C) ∧ va_RA s cA (.object C) := by
  obtain ⟨comp, c, k, h1, h2, h3, h4, h5⟩ := Cond.arrayOver_spec h
  exact ⟨c, fun n z => ⟨fun k h => (by cases h), k, h3, comp, h4⟩, k, comp, h3, h4, h1, h5⟩
theorem inst_Jx00060 : Cond.instantiable RJx00060 6 ∈ ALLW := am3 101
theorem inst_Jx7c733 : Cond.instantiable RJx7c733 6 ∈ ALLW := am5 213
theorem tm {ts : List Cond} {w : Cond} (i : Nat) (h : ts[i]? = some w) : w ∈ ts := List.mem_of_getElem? h
theorem ao_Spell : Cond.arrayOver (.object "CauldronTypes$Spell") ∈ lw_tbl := sg1 (tm 80 (by decide +kernel))
theorem ao_Book : Cond.arrayOver (.object "CauldronTypes$Book") ∈ lw_tbl := sg1 (tm 142 (by decide +kernel))
theorem en_K (hta : ∀ w ∈ ALLW, w.before args s = true) (hts : ∀ w ∈ lw_tbl, w.before args s = true) : ∃ (dC : Nat → ClassId) (dI : Nat → Nat → Nat) (cT : Nat → ClassId), va_K (dC, dI) vwCl (TYS cT) s := by
  obtain ⟨c0, i0, k0⟩ := u_known (C := RJ0) (T := TJ0) (N := 4) (n := 4) hta inJ0w (hta _ inst_J0)
  obtain ⟨c1, i1, k1⟩ := u_known (C := RJ4) (T := TJ4) (N := 4) (n := 4) hta inJ4w (hta _ inst_J4)
  obtain ⟨c2, i2, k2⟩ := u_known (C := RJx00060) (T := TJx00060) (N := 6) (n := 6) hta inJx00060w (hta _ inst_Jx00060)
  obtain ⟨c3, i3, k3⟩ := u_known (C := RJx7c733) (T := TJx7c733) (N := 6) (n := 6) hta inJx7c733w (hta _ inst_Jx7c733)
  obtain ⟨c4, i4, k4⟩ := u_known (C := RX0) (T := TX0) (N := 11) (n := 11) hta inX0w (hta _ inst_X0)
  obtain ⟨c5, i5, k5⟩ := u_known (C := RX1) (T := TX1) (N := 2) (n := 2) hta inX1w (hta _ inst_X1)
  obtain ⟨c6, i6, k6⟩ := u_known (C := RX2) (T := TX2) (N := 10) (n := 10) hta inX2w (hta _ inst_X2)
  obtain ⟨c7, i7, k7⟩ := u_known (C := RX3) (T := TX3) (N := 3) (n := 3) hta inX3w (hta _ inst_X3)
  obtain ⟨c8, i8, k8⟩ := u_known (C := RX4) (T := TX4) (N := 3) (n := 3) hta inX4w (hta _ inst_X4)
  obtain ⟨c9, i9, k9⟩ := u_known (C := RX6) (T := TX6) (N := 12) (n := 12) hta inX6w (hta _ inst_X6)
  obtain ⟨c10, i10, k10⟩ := u_known (C := RX7) (T := TX7) (N := 6) (n := 6) hta inX7w (hta _ inst_X7)
  obtain ⟨c11, i11, k11⟩ := u_known (C := RX8) (T := TX8) (N := 9) (n := 9) hta inX8w (hta _ inst_X8)
  obtain ⟨c12, i12, k12⟩ := u_known (C := RX9) (T := TX9) (N := 9) (n := 9) hta inX9w (hta _ inst_X9)
  obtain ⟨c13, i13, k13⟩ := u_known (C := RX10) (T := TX10) (N := 3) (n := 3) hta inX10w (hta _ inst_X10)
  obtain ⟨c14, i14, k14⟩ := u_known (C := RX11) (T := TX11) (N := 15) (n := 15) hta inX11w (hta _ inst_X11)
  obtain ⟨t0, a0⟩ := en_arr (ty := .int) (fun _ h9 => by cases h9) (hta _ ac_int)
  obtain ⟨t1, a1⟩ := en_arr (ty := .boolean) (fun _ h9 => by cases h9) (hta _ ac_boolean)
  obtain ⟨t2, a2⟩ := en_arr (ty := .char) (fun _ h9 => by cases h9) (hta _ ac_char)
  obtain ⟨t3, a3⟩ := en_arr (ty := .long) (fun _ h9 => by cases h9) (hta _ ac_long)
  obtain ⟨t4, a4⟩ := en_arr (ty := .float) (fun _ h9 => by cases h9) (hta _ ac_float)
  obtain ⟨t6, a6⟩ := en_arr (ty := .byte) (fun _ h9 => by cases h9) (hta _ ac_byte)
  obtain ⟨t7, a7⟩ := en_obj (hts _ ao_Spell)
  obtain ⟨t8, a8⟩ := en_obj (hts _ ao_Book)
  refine ⟨fun k => [c0, c1, c2, c3, c4, c5, c6, c7, c8, c9, c10, c11, c12, c13, c14].getD k c0, fun k => [i0, i1, i2, i3, i4, i5, i6, i7, i8, i9, i10, i11, i12, i13, i14].getD k i0, fun k => [t0, t1, t2, t3, t4, t0, t6, t7, t8].getD k t0, fun k q hq => ?_, fun k q hq => ?_⟩
  · match k, hq with
    | 0, hq => cases (hq : some (RJ0, TJ0, 4) = some q); exact k0
    | 1, hq => cases (hq : some (RJ4, TJ4, 4) = some q); exact k1
    | 2, hq => cases (hq : some (RJx00060, TJx00060, 6) = some q); exact k2
    | 3, hq => cases (hq : some (RJx7c733, TJx7c733, 6) = some q); exact k3
    | 4, hq => cases (hq : some (RX0, TX0, 11) = some q); exact k4
    | 5, hq => cases (hq : some (RX1, TX1, 2) = some q); exact k5
    | 6, hq => cases (hq : some (RX2, TX2, 10) = some q); exact k6
    | 7, hq => cases (hq : some (RX3, TX3, 3) = some q); exact k7
    | 8, hq => cases (hq : some (RX4, TX4, 3) = some q); exact k8
    | 9, hq => cases (hq : some (RX6, TX6, 12) = some q); exact k9
    | 10, hq => cases (hq : some (RX7, TX7, 6) = some q); exact k10
    | 11, hq => cases (hq : some (RX8, TX8, 9) = some q); exact k11
    | 12, hq => cases (hq : some (RX9, TX9, 9) = some q); exact k12
    | 13, hq => cases (hq : some (RX10, TX10, 3) = some q); exact k13
    | 14, hq => cases (hq : some (RX11, TX11, 15) = some q); exact k14
    | k + 15, hq => simp [vwCl] at hq
  · match k, hq with
    | 0, hq => cases (hq : some (t0, .int) = some q); exact a0
    | 1, hq => cases (hq : some (t1, .boolean) = some q); exact a1
    | 2, hq => cases (hq : some (t2, .char) = some q); exact a2
    | 3, hq => cases (hq : some (t3, .long) = some q); exact a3
    | 4, hq => cases (hq : some (t4, .float) = some q); exact a4
    | 5, hq => cases (hq : some (t0, .int) = some q); exact a0
    | 6, hq => cases (hq : some (t6, .byte) = some q); exact a6
    | 7, hq => cases (hq : some (t7, .object "CauldronTypes$Spell") = some q); exact a7
    | 8, hq => cases (hq : some (t8, .object "CauldronTypes$Book") = some q); exact a8
    | k + 9, hq => simp [TYS] at hq
end ENTRY
theorem m_str : ∀ x ∈ STRS, Cond.stringRef RX11 x.1 x.2 ∈ lw_tbl := by decide +kernel
theorem m_exs : ∀ x ∈ STRS, Cond.exactly (.string RX11 x.1) "java/lang/String" ∈ flatC (Jvm.Cond.and given_1 narrow_1) := by decide +kernel
