/-! THE ENTRY: statics (gen/loops.py) -/
section ENTRY2
variable {b : Nat} {s : State}
theorem en_out : ∀ a : Nat, a < s.heap.size → ¬ (fun q : Nat => s.heap.size ≤ q) a := fun a h => Nat.not_le.mpr h
theorem en_L {C n d : String} {args : Array Value} (h : (Cond.laysStatic C n d).before args s = true) : vx_L C n d (fun q : Nat => s.heap.size ≤ q) s s.heap := by
  obtain ⟨c, k, i, f, a, cell, h1, h2, h3, h4, h5, h6, h7, h8, h9⟩ := Cond.laysStatic_spec h
  exact ⟨c, k, i, f, a, cell, h1, h2, h3, h4, h5, h6, h7, h8, h9, en_out a (Array.getElem?_eq_some_iff.mp h5).1⟩
theorem m_nc : ∀ a ∈ exl, ∀ b ∈ exl, a ≠ b → Cond.not (.castable a b) ∈ flatC narrow_1_1 := by decide +kernel
theorem m_yc : ∀ a ∈ exl, Cond.castable a a ∈ lw_tbl := by decide +kernel
theorem m_dc : ∀ a ∈ DCS, Cond.declares (Bundle.initS a) ∈ lw_tbl := by decide +kernel
theorem m_nx : ∀ x ∈ NXM, Cond.methodLinkNest x.1 x.2.1 x.2.2.1 x.2.2.2 ∈ lw_tbl := by decide +kernel
theorem d9_o : ((flatC narrow_1_1).drop 12).take 100 = (List.range 100).map (fun j => Cond.eq (.elem (.static "java/lang/Integer" "DigitOnes" "[B") (.int (Int32.ofNat j))) (.int (nI (48 + j % 10)))) := by rfl
theorem d9_t : ((flatC narrow_1_1).drop 115).take 100 = (List.range 100).map (fun j => Cond.eq (.elem (.static "java/lang/Integer" "DigitTens" "[B") (.int (Int32.ofNat j))) (.int (nI (48 + j / 10)))) := by rfl
theorem m_do {j : Nat} (hj : j < 100) : Cond.eq (.elem (.static "java/lang/Integer" "DigitOnes" "[B") (.int (Int32.ofNat j))) (.int (nI (48 + j % 10))) ∈ flatC narrow_1_1 := List.mem_of_mem_drop (List.mem_of_mem_take (by rw [d9_o]; exact List.mem_map.mpr ⟨j, List.mem_range.mpr hj, rfl⟩))
theorem m_dt {j : Nat} (hj : j < 100) : Cond.eq (.elem (.static "java/lang/Integer" "DigitTens" "[B") (.int (Int32.ofNat j))) (.int (nI (48 + j / 10))) ∈ flatC narrow_1_1 := List.mem_of_mem_drop (List.mem_of_mem_take (by rw [d9_t]; exact List.mem_map.mpr ⟨j, List.mem_range.mpr hj, rfl⟩))
theorem en_XS (hts : ∀ w ∈ lw_tbl, w.before #[Value.ref b] s = true) (h1 : narrow_1_1.before #[Value.ref b] s = true) (hgv : (Jvm.Cond.and given_1 narrow_1).before #[Value.ref b] s = true) : XS (fun q : Nat => s.heap.size ≤ q) s := by
  have f1 := flat_of_before _ h1
  have fg := flat_of_before _ hgv
  refine ⟨⟨va_Zqof (hts _ (sg3 (tm 125 (by decide +kernel)))) (hts _ (sg1 (tm 16 (by decide +kernel)))) (f1 _ (tm 3 (by decide +kernel))) en_out, en_L (hts _ (sg3 (tm 125 (by decide +kernel))))⟩, ⟨va_Zqof (hts _ (sg3 (tm 127 (by decide +kernel)))) (hts _ (sg1 (tm 16 (by decide +kernel)))) (f1 _ (tm 4 (by decide +kernel))) en_out, en_L (hts _ (sg3 (tm 127 (by decide +kernel))))⟩, fun x hx => ?_, fun a ha b' hb' n => va_Nc.of (f1 _ (m_nc a ha b' hb' n)), fun a ha => vz_Yc.of (hts _ (m_yc a ha)), fun a ha => vz_Dc.of (hts _ (m_dc a ha))⟩
  have hex := fg _ (m_exs x hx)
  obtain ⟨a, c, cell, k, q1, q2⟩ := Cond.exactly_spec (args := #[Value.ref b]) (first := s) (o := none) (s := s) (idx := []) (t := .string RX11 x.1) (cls := "java/lang/String") hex
  exact ⟨a, vk_R.of (hts _ (m_str x hx)) q1⟩
theorem en_Nw {w : Cond} (hc : w.onTables = true) (h : w.before #[Value.ref b] s = true) : va_Nw w s := va_tabs hc rfl h
theorem en_NX (hts : ∀ w ∈ lw_tbl, w.before #[Value.ref b] s = true) : NX s :=
  ⟨fun x hx => en_Nw rfl (hts _ (m_nx x hx)), en_Nw rfl (hts _ (sg4 (tm 117 (by decide +kernel)))), en_Nw rfl (hts _ (sg4 (tm 122 (by decide +kernel)))), en_Nw rfl (hts _ (sg6 (tm 45 (by decide +kernel)))), va_AO.of (hts _ ao_Spell), va_AO.of (hts _ ao_Book)⟩
theorem en_ZS (hts : ∀ w ∈ lw_tbl, w.before #[Value.ref b] s = true) (h1 : narrow_1_1.before #[Value.ref b] s = true) : ZS (fun q : Nat => s.heap.size ≤ q) s := by
  have f1 := flat_of_before _ h1
  obtain ⟨t1, g1, g2⟩ := va_Tof (args := #[Value.ref b]) (s := s) (tm := .static "java/lang/Integer" "DigitOnes" "[B") (ty := .byte) (N := 100) (f := DO) (A := fun q : Nat => s.heap.size ≤ q) (by decide) (f1 _ (tm 10 (by decide +kernel))) (va_eqt (z := 100) (f1 _ (tm 11 (by decide +kernel)))) (fun j hj => va_eqt (f1 _ (m_do hj))) en_out
  obtain ⟨t2, g3, g4⟩ := va_Tof (args := #[Value.ref b]) (s := s) (tm := .static "java/lang/Integer" "DigitTens" "[B") (ty := .byte) (N := 100) (f := DT) (A := fun q : Nat => s.heap.size ≤ q) (by decide) (f1 _ (tm 113 (by decide +kernel))) (va_eqt (z := 100) (f1 _ (tm 114 (by decide +kernel)))) (fun j hj => va_eqt (f1 _ (m_dt hj))) en_out
  exact ⟨va_Zof (hts _ (sg2 (tm 123 (by decide +kernel)))) (hts _ (sg1 (tm 13 (by decide +kernel)))) (va_eqi (f1 _ (tm 2 (by decide +kernel)))) en_out, ⟨t1, va_Zof (hts _ (sg6 (tm 137 (by decide +kernel)))) (hts _ (sg1 (tm 35 (by decide +kernel)))) g1 en_out, g2⟩, ⟨t2, va_Zof (hts _ (sg6 (tm 139 (by decide +kernel)))) (hts _ (sg1 (tm 35 (by decide +kernel)))) g3 en_out, g4⟩, va_Zqof (hts _ (sg6 (tm 67 (by decide +kernel)))) (hts _ (sg1 (tm 33 (by decide +kernel)))) (f1 _ (tm 5 (by decide +kernel))) en_out, en_Nw rfl (hts _ (sg6 (tm 23 (by decide +kernel)))), en_Nw rfl (hts _ (sg6 (tm 27 (by decide +kernel))))⟩
theorem en_LC {p : Program} {m : MethodId} {meth : Method} {c : Code} {L : Nat} {xs : Nat → Int32} (l : Launch) (hflags : l.flags = flags0) (C0 : lw_At p s m meth c b L xs) : ∃ (dC : Nat → ClassId) (dI : Nat → Nat → Nat) (cT : Nat → ClassId), LC p l s m c dC dI cT (fun q : Nat => s.heap.size ≤ q) b L xs := by
  obtain ⟨hx, hb, hr, hml, hown, hts, hX, hbl, hlocks, hgv⟩ := C0
  have hta : ∀ w ∈ ALLW, w.before #[Value.ref b] s = true := fun w hw => hts w (List.mem_filter.mp hw).1
  obtain ⟨dC, dI, cT, hK⟩ := en_K hta hts
  have h1 : narrow_1_1.before #[Value.ref b] s = true := by
    have h := hgv
    rw [Cond.before_and, Bool.and_eq_true] at h
    have h2 := h.2
    unfold narrow_1 at h2
    rw [Cond.before_and, Bool.and_eq_true, Cond.before_and, Bool.and_eq_true] at h2
    exact h2.1.1
  refine ⟨dC, dI, cT, hx, hb, hml, hown, hta, hX, hbl, en_out b hbl, ?_, hK, en_XS hts h1 hgv, en_NX hts, en_ZS hts h1, fun q h => h⟩
  unfold Launch.stackTraces
  rw [hflags]
  decide +kernel
end ENTRY2
