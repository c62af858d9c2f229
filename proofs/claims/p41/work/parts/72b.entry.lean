/-! THE ENTRY: statics, literals, the script (gen/start41.py) -/
section ENTRY2
variable {b : Nat} {s : State}
theorem en_out : ∀ a : Nat, a < s.heap.size → ¬ (fun q : Nat => s.heap.size ≤ q) a := fun a h => Nat.not_le.mpr h
theorem en_L {C n d : String} {args : Array Value} (h : (Cond.laysStatic C n d).before args s = true) : vx_L C n d (fun q : Nat => s.heap.size ≤ q) s s.heap := by
  obtain ⟨c, k, i, f, a, cell, h1, h2, h3, h4, h5, h6, h7, h8, h9⟩ := Cond.laysStatic_spec h
  exact ⟨c, k, i, f, a, cell, h1, h2, h3, h4, h5, h6, h7, h8, h9, en_out a (Array.getElem?_eq_some_iff.mp h5).1⟩
theorem m_nc : ∀ a ∈ exl, ∀ b ∈ exl, a ≠ b → Cond.not (.castable a b) ∈ flatC narrow_1_1 := by decide +kernel
theorem m_yc : ∀ a ∈ exl6, Cond.castable a a ∈ lw_tbl := by decide +kernel
theorem m_dc : ∀ a ∈ DCS, Cond.declares (Bundle.initS a) ∈ lw_tbl := by decide +kernel
theorem m_nx : ∀ x ∈ NXM, Cond.methodLinkNest x.1 x.2.1 x.2.2.1 x.2.2.2 ∈ lw_tbl := by decide +kernel
theorem d9_o : ((flatC narrow_1_1).drop 12).take 100 = (List.range 100).map (fun j => Cond.eq (.elem (.static "java/lang/Integer" "DigitOnes" "[B") (.int (Int32.ofNat j))) (.int (nI (48 + j % 10)))) := by rfl
theorem d9_t : ((flatC narrow_1_1).drop 115).take 100 = (List.range 100).map (fun j => Cond.eq (.elem (.static "java/lang/Integer" "DigitTens" "[B") (.int (Int32.ofNat j))) (.int (nI (48 + j / 10)))) := by rfl
theorem m_do {j : Nat} (hj : j < 100) : Cond.eq (.elem (.static "java/lang/Integer" "DigitOnes" "[B") (.int (Int32.ofNat j))) (.int (nI (48 + j % 10))) ∈ flatC narrow_1_1 := List.mem_of_mem_drop (List.mem_of_mem_take (by rw [d9_o]; exact List.mem_map.mpr ⟨j, List.mem_range.mpr hj, rfl⟩))
theorem m_dt {j : Nat} (hj : j < 100) : Cond.eq (.elem (.static "java/lang/Integer" "DigitTens" "[B") (.int (Int32.ofNat j))) (.int (nI (48 + j / 10))) ∈ flatC narrow_1_1 := List.mem_of_mem_drop (List.mem_of_mem_take (by rw [d9_t]; exact List.mem_map.mpr ⟨j, List.mem_range.mpr hj, rfl⟩))
theorem en_XS (hts : ∀ w ∈ lw_tbl, w.before #[Value.ref b] s = true) (h1 : narrow_1_1.before #[Value.ref b] s = true) (hgv : (Jvm.Cond.and given_1 narrow_1).before #[Value.ref b] s = true) : XS (fun q : Nat => s.heap.size ≤ q) s := by
  have f1 := flat_of_before _ h1
  have fg := flat_of_before _ hgv
  refine ⟨⟨va_Zqof (hts _ (sg3 (tm 1 (by decide +kernel)))) (hts _ (sg1 (tm 15 (by decide +kernel)))) (f1 _ (tm 3 (by decide +kernel))) en_out, en_L (hts _ (sg3 (tm 1 (by decide +kernel))))⟩, ⟨va_Zqof (hts _ (sg3 (tm 3 (by decide +kernel)))) (hts _ (sg1 (tm 15 (by decide +kernel)))) (f1 _ (tm 4 (by decide +kernel))) en_out, en_L (hts _ (sg3 (tm 3 (by decide +kernel))))⟩, fun x hx => ?_, fun a ha b' hb' n => va_Nc.of (f1 _ (m_nc a ha b' hb' n)), fun a ha => vz_Yc.of (hts _ (m_yc a ha)), fun a ha => vz_Dc.of (hts _ (m_dc a ha))⟩
  have hex := fg _ (m_exs x hx)
  obtain ⟨a, c, cell, k, q1, q2⟩ := Cond.exactly_spec (args := #[Value.ref b]) (first := s) (o := none) (s := s) (idx := []) (t := .string RX11 x.1) (cls := "java/lang/String") hex
  exact ⟨a, vk_R.of (hts _ (m_str x hx)) q1⟩
theorem en_Nw {w : Cond} (hc : w.onTables = true) (h : w.before #[Value.ref b] s = true) : va_Nw w s := va_tabs hc rfl h
theorem en_NX (hts : ∀ w ∈ lw_tbl, w.before #[Value.ref b] s = true) : NX s :=
  ⟨fun x hx => en_Nw rfl (hts _ (m_nx x hx)), en_Nw rfl (hts _ (sg5 (tm 63 (by decide +kernel)))), en_Nw rfl (hts _ (sg5 (tm 68 (by decide +kernel)))), en_Nw rfl (hts _ (sg4 (tm 11 (by decide +kernel)))), va_AO.of (hts _ ao_Spell), va_AO.of (hts _ ao_Book)⟩
theorem en_ZS (hts : ∀ w ∈ lw_tbl, w.before #[Value.ref b] s = true) (h1 : narrow_1_1.before #[Value.ref b] s = true) : ZS (fun q : Nat => s.heap.size ≤ q) s := by
  have f1 := flat_of_before _ h1
  obtain ⟨t1, g1, g2⟩ := va_Tof (args := #[Value.ref b]) (s := s) (tm := .static "java/lang/Integer" "DigitOnes" "[B") (ty := .byte) (N := 100) (f := DO) (A := fun q : Nat => s.heap.size ≤ q) (by decide) (f1 _ (tm 10 (by decide +kernel))) (va_eqt (z := 100) (f1 _ (tm 11 (by decide +kernel)))) (fun j hj => va_eqt (f1 _ (m_do hj))) en_out
  obtain ⟨t2, g3, g4⟩ := va_Tof (args := #[Value.ref b]) (s := s) (tm := .static "java/lang/Integer" "DigitTens" "[B") (ty := .byte) (N := 100) (f := DT) (A := fun q : Nat => s.heap.size ≤ q) (by decide) (f1 _ (tm 113 (by decide +kernel))) (va_eqt (z := 100) (f1 _ (tm 114 (by decide +kernel)))) (fun j hj => va_eqt (f1 _ (m_dt hj))) en_out
  exact ⟨va_Zof (hts _ (sg2 (tm 125 (by decide +kernel)))) (hts _ (sg1 (tm 13 (by decide +kernel)))) (va_eqi (f1 _ (tm 2 (by decide +kernel)))) en_out, ⟨t1, va_Zof (hts _ (sg4 (tm 105 (by decide +kernel)))) (hts _ (sg1 (tm 30 (by decide +kernel)))) g1 en_out, g2⟩, ⟨t2, va_Zof (hts _ (sg4 (tm 107 (by decide +kernel)))) (hts _ (sg1 (tm 30 (by decide +kernel)))) g3 en_out, g4⟩, va_Zqof (hts _ (sg4 (tm 35 (by decide +kernel)))) (hts _ (sg1 (tm 27 (by decide +kernel)))) (f1 _ (tm 5 (by decide +kernel))) en_out, en_Nw rfl (hts _ (sg3 (tm 227 (by decide +kernel)))), en_Nw rfl (hts _ (sg3 (tm 231 (by decide +kernel))))⟩
theorem en_lit {k : Nat} {tx : String} {t : List Nat} (hn : t.length < 2 ^ 31) (h1 : (Cond.stringRef RL k tx).before #[Value.ref b] s = true) (h2 : (Cond.exactly (.string RL k) "java/lang/String").before #[Value.ref b] s = true) (h3 : (Cond.eq (.field (.string RL k) "java/lang/String" "coder" "B") (.int 0)).before #[Value.ref b] s = true) (h4 : (Cond.arrayOf (.field (.string RL k) "java/lang/String" "value" "[B") .byte).before #[Value.ref b] s = true) (h5 : (Cond.eq (.length (.field (.string RL k) "java/lang/String" "value" "[B")) (.int (Int32.ofNat t.length))).before #[Value.ref b] s = true) (h6 : ∀ j : Nat, j < t.length → (Cond.eq (.elem (.field (.string RL k) "java/lang/String" "value" "[B") (.int (Int32.ofNat j))) (.int (nI (t.getD j 0)))).before #[Value.ref b] s = true) : ∃ sa sv, vk_R RL k tx sa s ∧ KS sa sv t.length (fun j => nI (t.getD j 0)) (fun q : Nat => s.heap.size ≤ q) s := by
  obtain ⟨a, c, cA, kA, q1, q2, q3, q4, q5, q6, -⟩ := Cond.exactly_spec (args := #[Value.ref b]) (first := s) (o := none) (s := s) (idx := []) (t := .string RL k) (cls := "java/lang/String") h2
  obtain ⟨tv, ht, hT⟩ := va_Tof (f := fun j => .int (nI (t.getD j 0))) (A := fun q : Nat => s.heap.size ≤ q) hn h4 (va_eqt h5) (fun j hj => va_eqt (h6 j hj)) en_out
  exact ⟨a, tv, vk_R.of h1 q1, ⟨cA, q3, q5, by rw [q6]; exact q2, en_out a (Array.getElem?_eq_some_iff.mp q3).1⟩, vk_OFof q1 (va_eqt h3) en_out, vk_OFof q1 ht en_out, hT⟩
theorem en_LT (hts : ∀ w ∈ lw_tbl, w.before #[Value.ref b] s = true) (h2 : narrow_1_2.before #[Value.ref b] s = true) (h4 : narrow_1_4.before #[Value.ref b] s = true) : LT (fun q : Nat => s.heap.size ≤ q) s := by
  have f2 := flat_of_before _ h2
  have f4 := flat_of_before _ h4
  refine ⟨⟨en_Nw rfl (hts _ (sg4 (tm 58 (by decide +kernel)))), en_Nw rfl (hts _ (sg4 (tm 62 (by decide +kernel))))⟩, fun x hx => ?_⟩
  simp only [LITS, List.mem_cons, List.not_mem_nil, or_false] at hx
  rcases hx with rfl | rfl | rfl | rfl | rfl | rfl | rfl | rfl | rfl | rfl | rfl | rfl
  · exact en_lit (k := 147) (tx := "") (t := []) (by decide) (hts _ (sg3 (tm 214 (by decide +kernel)))) (f2 _ (tm 222 (by decide +kernel))) (f2 _ (tm 223 (by decide +kernel))) (f2 _ (tm 224 (by decide +kernel))) (f2 _ (tm 225 (by decide +kernel))) (fun j hj => absurd hj (Nat.not_lt_zero j))
  · exact en_lit (k := 162) (tx := "=") (t := [61]) (by decide) (hts _ (sg4 (tm 201 (by decide +kernel)))) (f2 _ (tm 233 (by decide +kernel))) (f2 _ (tm 234 (by decide +kernel))) (f2 _ (tm 235 (by decide +kernel))) (f2 _ (tm 236 (by decide +kernel))) (fun j hj => by
      obtain rfl : j = 0 := Nat.lt_one_iff.mp hj
      exact f2 _ (tm 237 (by decide +kernel)))
  · exact en_lit (k := 164) (tx := "+") (t := [43]) (by decide) (hts _ (sg4 (tm 202 (by decide +kernel)))) (f2 _ (tm 238 (by decide +kernel))) (f2 _ (tm 239 (by decide +kernel))) (f2 _ (tm 240 (by decide +kernel))) (f2 _ (tm 241 (by decide +kernel))) (fun j hj => by
      obtain rfl : j = 0 := Nat.lt_one_iff.mp hj
      exact f2 _ (tm 242 (by decide +kernel)))
  · exact en_lit (k := 166) (tx := "-") (t := [45]) (by decide) (hts _ (sg4 (tm 203 (by decide +kernel)))) (f2 _ (tm 243 (by decide +kernel))) (f2 _ (tm 244 (by decide +kernel))) (f2 _ (tm 245 (by decide +kernel))) (f2 _ (tm 246 (by decide +kernel))) (fun j hj => by
      obtain rfl : j = 0 := Nat.lt_one_iff.mp hj
      exact f2 _ (tm 247 (by decide +kernel)))
  · exact en_lit (k := 168) (tx := "*") (t := [42]) (by decide) (hts _ (sg4 (tm 204 (by decide +kernel)))) (f2 _ (tm 248 (by decide +kernel))) (f2 _ (tm 249 (by decide +kernel))) (f2 _ (tm 250 (by decide +kernel))) (f2 _ (tm 251 (by decide +kernel))) (fun j hj => by
      obtain rfl : j = 0 := Nat.lt_one_iff.mp hj
      exact f2 _ (tm 252 (by decide +kernel)))
  · exact en_lit (k := 170) (tx := "~") (t := [126]) (by decide) (hts _ (sg4 (tm 205 (by decide +kernel)))) (f2 _ (tm 253 (by decide +kernel))) (f2 _ (tm 254 (by decide +kernel))) (f2 _ (tm 255 (by decide +kernel))) (f2 _ (tm 256 (by decide +kernel))) (fun j hj => by
      obtain rfl : j = 0 := Nat.lt_one_iff.mp hj
      exact f2 _ (tm 257 (by decide +kernel)))
  · exact en_lit (k := 172) (tx := "!") (t := [33]) (by decide) (hts _ (sg4 (tm 206 (by decide +kernel)))) (f2 _ (tm 258 (by decide +kernel))) (f2 _ (tm 259 (by decide +kernel))) (f2 _ (tm 260 (by decide +kernel))) (f2 _ (tm 261 (by decide +kernel))) (fun j hj => by
      obtain rfl : j = 0 := Nat.lt_one_iff.mp hj
      exact f2 _ (tm 262 (by decide +kernel)))
  · exact en_lit (k := 174) (tx := "~+") (t := [126, 43]) (by decide) (hts _ (sg4 (tm 207 (by decide +kernel)))) (f2 _ (tm 263 (by decide +kernel))) (f2 _ (tm 264 (by decide +kernel))) (f2 _ (tm 265 (by decide +kernel))) (f2 _ (tm 266 (by decide +kernel))) (fun j hj => by
      rcases (show j = 0 ∨ j = 1 by have : j < 2 := hj; omega) with rfl | rfl
      · exact f2 _ (tm 267 (by decide +kernel))
      · exact f2 _ (tm 268 (by decide +kernel)))
  · exact en_lit (k := 312) (tx := ":") (t := [58]) (by decide) (hts _ (sg7 (tm 179 (by decide +kernel)))) (f4 _ (tm 205 (by decide +kernel))) (f4 _ (tm 206 (by decide +kernel))) (f4 _ (tm 207 (by decide +kernel))) (f4 _ (tm 208 (by decide +kernel))) (fun j hj => by
      obtain rfl : j = 0 := Nat.lt_one_iff.mp hj
      exact f4 _ (tm 209 (by decide +kernel)))
  · exact en_lit (k := 314) (tx := "[") (t := [91]) (by decide) (hts _ (sg7 (tm 180 (by decide +kernel)))) (f4 _ (tm 210 (by decide +kernel))) (f4 _ (tm 211 (by decide +kernel))) (f4 _ (tm 212 (by decide +kernel))) (f4 _ (tm 213 (by decide +kernel))) (fun j hj => by
      obtain rfl : j = 0 := Nat.lt_one_iff.mp hj
      exact f4 _ (tm 214 (by decide +kernel)))
  · exact en_lit (k := 316) (tx := ",") (t := [44]) (by decide) (hts _ (sg7 (tm 181 (by decide +kernel)))) (f4 _ (tm 215 (by decide +kernel))) (f4 _ (tm 216 (by decide +kernel))) (f4 _ (tm 217 (by decide +kernel))) (f4 _ (tm 218 (by decide +kernel))) (fun j hj => by
      obtain rfl : j = 0 := Nat.lt_one_iff.mp hj
      exact f4 _ (tm 219 (by decide +kernel)))
  · exact en_lit (k := 318) (tx := "]") (t := [93]) (by decide) (hts _ (sg7 (tm 182 (by decide +kernel)))) (f4 _ (tm 220 (by decide +kernel))) (f4 _ (tm 221 (by decide +kernel))) (f4 _ (tm 222 (by decide +kernel))) (f4 _ (tm 223 (by decide +kernel))) (fun j hj => by
      obtain rfl : j = 0 := Nat.lt_one_iff.mp hj
      exact f4 _ (tm 224 (by decide +kernel)))
theorem en_SC {L : Nat} {xs : Nat → Int32} (hX : va_X b L xs s s.heap) (hbl : b < s.heap.size) : SC b L xs (fun q : Nat => s.heap.size ≤ q) s := by
  obtain ⟨scr, h1, h2, h3, h4, h5⟩ := hX
  exact ⟨scr, h1, h2, h3, Nat.le_of_eq h4.symm, by rw [h4], h5, en_out b hbl⟩
/-- all that the entry gives -/
def LC9 (p : Program) (l : Launch) (s : State) (m : MethodId) (c : Code) (dC : Nat → ClassId) (dI : Nat → Nat → Nat) (cT : Nat → ClassId) (A : Nat → Prop) (b9 L : Nat) (xs : Nat → Int32) : Prop :=
  p.tables.exec = Jvm.exec ∧ c.code = cL_law ∧ c.maxLocals = 2 ∧ s.vm.findClass RL = some m.cls ∧ (∀ w ∈ ALLW, w.before #[Value.ref b9] s = true) ∧ l.stackTraces = false ∧ va_K (dC, dI) vwCl (TYS cT) s ∧ XS A s ∧ NX s ∧ ZS A s ∧ LT A s ∧ SC b9 L xs A s ∧ ∀ q, s.heap.size ≤ q → A q
theorem en_LC {p : Program} {m : MethodId} {meth : Method} {c : Code} {L : Nat} {xs : Nat → Int32} (l : Launch) (hflags : l.flags = flags0) (C0 : lw_At p s m meth c b L xs) : ∃ (dC : Nat → ClassId) (dI : Nat → Nat → Nat) (cT : Nat → ClassId), LC9 p l s m c dC dI cT (fun q : Nat => s.heap.size ≤ q) b L xs := by
  obtain ⟨hx, hb, hr, hml, hown, hts, hX, hbl, hlocks, hgv⟩ := C0
  have hta : ∀ w ∈ ALLW, w.before #[Value.ref b] s = true := fun w hw => hts w (List.mem_filter.mp hw).1
  obtain ⟨dC, dI, cT, hK⟩ := en_K hta hts
  have h9 := hgv
  rw [Cond.before_and, Bool.and_eq_true] at h9
  have h8 := h9.2
  unfold narrow_1 at h8
  rw [Cond.before_and, Bool.and_eq_true, Cond.before_and, Bool.and_eq_true, Cond.before_and, Bool.and_eq_true] at h8
  refine ⟨dC, dI, cT, hx, hb, hml, hown, hta, ?_, hK, en_XS hts h8.1.1 hgv, en_NX hts, en_ZS hts h8.1.1, en_LT hts h8.1.2 h8.2.2, en_SC hX hbl, fun q h => h⟩
  unfold Launch.stackTraces
  rw [hflags]
  decide +kernel
end ENTRY2
