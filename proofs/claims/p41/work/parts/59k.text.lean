/-! TEXT: numbers (gen/texts.py) -/
def SG : Bool → Nat → Int32
  | true, w => -(nI w)
  | false, w => nI w
/-- the signs that tell a whole number of at most four digits -/
def dl (neg : Bool) (w : Nat) : List Nat := (if neg then [45] else []) ++ (if w < 10 then [48 + w % 10] else if w < 100 then [48 + w / 10, 48 + w % 10] else if w < 1000 then [48 + w / 100 % 10, 48 + w % 100 / 10, 48 + w % 100 % 10] else [48 + w / 100 / 10, 48 + w / 100 % 10, 48 + w % 100 / 10, 48 + w % 100 % 10])
theorem dl_0_1 {w : Nat} (_ : 0 ≤ w) (h : w < 10) : dl false w = [48 + w % 10] := by simp [dl, h]
theorem dl_0_2 {w : Nat} (h0 : 10 ≤ w) (h : w < 100) : dl false w = [48 + w / 10, 48 + w % 10] := by simp [dl, Nat.not_lt.mpr h0, h]
theorem dl_0_3 {w : Nat} (h0 : 100 ≤ w) (h : w < 1000) : dl false w = [48 + w / 100 % 10, 48 + w % 100 / 10, 48 + w % 100 % 10] := by simp [dl, show ¬ w < 10 by omega, show ¬ w < 100 by omega, h]
theorem dl_0_4 {w : Nat} (h0 : 1000 ≤ w) (_ : w < 10000) : dl false w = [48 + w / 100 / 10, 48 + w / 100 % 10, 48 + w % 100 / 10, 48 + w % 100 % 10] := by simp [dl, show ¬ w < 10 by omega, show ¬ w < 100 by omega, show ¬ w < 1000 by omega]
theorem dl_1_1 {w : Nat} (_ : 1 ≤ w) (h : w < 10) : dl true w = [45, 48 + w % 10] := by simp [dl, h]
theorem dl_1_2 {w : Nat} (h0 : 10 ≤ w) (h : w < 100) : dl true w = [45, 48 + w / 10, 48 + w % 10] := by simp [dl, Nat.not_lt.mpr h0, h]
theorem dl_1_3 {w : Nat} (h0 : 100 ≤ w) (h : w < 1000) : dl true w = [45, 48 + w / 100 % 10, 48 + w % 100 / 10, 48 + w % 100 % 10] := by simp [dl, show ¬ w < 10 by omega, show ¬ w < 100 by omega, h]
theorem dl_1_4 {w : Nat} (h0 : 1000 ≤ w) (_ : w < 10000) : dl true w = [45, 48 + w / 100 / 10, 48 + w / 100 % 10, 48 + w % 100 / 10, 48 + w % 100 % 10] := by simp [dl, show ¬ w < 10 by omega, show ¬ w < 100 by omega, show ¬ w < 1000 by omega]
theorem dl_cases {neg : Bool} {w : Nat} (hw : w < 10000) (hn : neg = true → 0 < w) : (neg = false ∧ 0 ≤ w ∧ w < 10) ∨ (neg = false ∧ 10 ≤ w ∧ w < 100) ∨ (neg = false ∧ 100 ≤ w ∧ w < 1000) ∨ (neg = false ∧ 1000 ≤ w ∧ w < 10000) ∨ (neg = true ∧ 1 ≤ w ∧ w < 10) ∨ (neg = true ∧ 10 ≤ w ∧ w < 100) ∨ (neg = true ∧ 100 ≤ w ∧ w < 1000) ∨ (neg = true ∧ 1000 ≤ w ∧ w < 10000) := by
  cases neg with
  | false => simp; omega
  | true => have := hn rfl; simp; omega
theorem sg_neg {w : Nat} (h0 : 0 < w) (h : w < 10000) : -(nI w) < 0 := by
  rw [Int32.lt_iff_toInt_lt, sb_negT (by omega), Int32.toInt_zero]; omega
theorem sg_nge {w : Nat} (h0 : 0 < w) (h : w < 10000) : ¬ (0 : Int32) ≤ -(nI w) := by
  rw [Int32.le_iff_toInt_le, sb_negT (by omega), Int32.toInt_zero]; omega
theorem sg_le {w c : Nat} (h : c ≤ w) (hw : w < 10000) : -(nI w) ≤ -(nI c) := (sb_nle (by omega) (by omega)).mpr h
theorem sg_nle {w c : Nat} (h : w < c) (hc : c < 100000) : ¬ -(nI w) ≤ -(nI c) := fun h2 => absurd ((sb_nle (by omega) (by omega)).mp h2) (by omega)
theorem sg_lt {w c : Nat} (h : w < c) (hc : c < 100000) : -(nI c) < -(nI w) := (sb_nlt (by omega) (by omega)).mpr h
theorem sg_nlt {w c : Nat} (h : c ≤ w) (hw : w < 10000) : ¬ -(nI c) < -(nI w) := fun h2 => absurd ((sb_nlt (by omega) (by omega)).mp h2) (by omega)
theorem iinc_m1 (m : Nat) : nI (m + 1) + Int32.ofInt (-1) = nI m := pk_m1 m
theorem do_at {e : Nat} (h : e < 2 ^ 31) : DO (nI e).toNatClampNeg = .int (nI (48 + e % 10)) := by rw [nI_clamp h]; rfl
theorem dt_at {e : Nat} (h : e < 2 ^ 31) : DT (nI e).toNatClampNeg = .int (nI (48 + e / 10)) := by rw [nI_clamp h]; rfl
def GD (n k : Nat) (ds : List Nat) (f g : Nat → Int32) : Prop := (∀ j, j < n → g j = f j) ∧ (∀ i, k ≤ i → i < ds.length → g (n + i) = nI (ds.getD i 0)) ∧ BF g
theorem gd_0 {n : Nat} {ds : List Nat} {f : Nat → Int32} {k : Nat} (hf : BF f) (hk : ds.length ≤ k) : GD n k ds f f := ⟨fun _ _ => rfl, fun i h1 h2 => by omega, hf⟩
theorem nar_byte : ∀ c, c < 128 → vp_nar .byte (nI c) = nI c := by decide +kernel
theorem fit_byte : ∀ c, c < 128 → fits .byte (.int (nI c)) = true := by decide +kernel
theorem gc_step {n k c : Nat} {ds : List Nat} {f g : Nat → Int32} (h : GD n (k + 1) ds f g) (hk : k < ds.length) (hv : ds.getD k 0 = c) (hc : c < 128) (hN : n + k < 2 ^ 31) : GD n k ds f (upd g (nI (n + k)).toNatClampNeg (vp_nar .byte (nI c))) := by
  rw [nI_clamp hN, nar_byte c hc]
  refine ⟨fun j hj => ?_, fun i h1 h2 => ?_, sb_fitU h.2.2 (fit_byte c hc)⟩
  · rw [pk_un (by omega)]; exact h.1 j hj
  · by_cases e : i = k
    · subst e; rw [pk_us, hv]
    · rw [pk_un (by omega)]; exact h.2.1 i (by omega) h2
set_option maxHeartbeats 4000000 in
set_option maxRecDepth 100000 in
theorem cJ_size (l : Launch) (dC : Nat → ClassId) (dI : Nat → Nat → Nat) (cT : Nat → ClassId) {Hh : Heap} {neg : Bool} {w : Nat} (hw : w < 10000) (hn : neg = true → 0 < w) : Met l yJ6_stringSize_0f7a4 (wA yJ6_stringSize_0f7a4 cJ6_stringSize_0f7a4 4 (some .int)) ({ frames := 0, cells := 0, slots := 0, locals := 0 } : Room) (PJ dC dI cT [.int (SG neg w)] Hh (va_A [] Hh.size)) (va_Qi (fun x (_ : Unit) => x = (nI (dl neg w).length)) (fun _ t => t.heap = Hh) (va_A [] Hh.size)) 0 0 (va_A [] Hh.size) := by
  refine MofWF (cc := cJ6_stringSize_0f7a4) (maxL := 4) (ret := (some .int)) (by decide +kernel) rfl ?_
  intro p e s m args below meth c s₁ B hml hv
  obtain ⟨rfl, hH, hK, hZ⟩ := hv
  subst hH
  have hx := B.exec
  have hb := B.bytes
  have hr := B.returns
  have hta : ∀ w9 ∈ ALLW, w9.before [.int (SG neg w)].toArray s = true := fun w9 hw9 => atoms_spec (ws := wA yJ6_stringSize_0f7a4 cJ6_stringSize_0f7a4 4 (some .int)) B.pre w9 (List.mem_cons_of_mem _ hw9)
  have hown : s.vm.findClass RJ6 = some m.cls := findClass_of_methodNamed B.named
  have hlocks := B.notSynchronized
  have hin : meth.name = "stringSize" := (name_of_methodNamed B.named B.method).1
  generalize hAe : va_A [] s.heap.size = A at hZ ⊢
  have hA : ∀ q : Nat, s.heap.size ≤ q → A q := fun q h => by rw [← hAe]; exact Or.inr h
  have hS : va_S A s.heap s.heap [] := va_S.rf
  have hl := lv_entry [.int (SG neg w)] (n := 4) (Nat.le_of_ble_eq_true rfl)
  rw [lg_entry_eq]
  generalize (lg_sl [.int (SG neg w)] ++ List.replicate (4 - (lg_sl [.int (SG neg w)]).length) Slot.unset).toArray = ls at hl ⊢
  have hl : lv_has ls 4 [(0, .int (SG neg w))] := hl
  rcases dl_cases hw hn with h9 | h9 | h9 | h9 | h9 | h9 | h9 | h9
  · obtain ⟨rfl, ha, hb9⟩ := h9
    have hl : lv_has ls 4 [(0, .int (nI w))] := hl
    have hdl := dl_0_1 ha hb9
    refine lv_iconst (v := 1) hx hb dJ6_stringSize_0f7a4_0 (by decide) ?_
    refine lv_istore_n (lv' := [(1, .int 1), (0, .int (nI w))]) hx hb dJ6_stringSize_0f7a4_1 rfl hl (by decide) rfl (fun ls hl => ?_)
    refine lv_iload_n hx hb dJ6_stringSize_0f7a4_2 rfl (lv_at hl 1 rfl) ?_
    refine lv_if_lt (tgt := 11) hx hb dJ6_stringSize_0f7a4_3 (by decide) (fun c0 => ?_) (fun c0 => ?_)
    · exact absurd c0 (nI_pos (by omega))
    · clear c0
      refine lv_iconst (v := 0) hx hb dJ6_stringSize_0f7a4_6 (by decide) ?_
      refine lv_istore_n (lv' := [(1, .int 0), (0, .int (nI w))]) hx hb dJ6_stringSize_0f7a4_7 rfl hl (by decide) rfl (fun ls hl => ?_)
      refine lv_iload_n hx hb dJ6_stringSize_0f7a4_8 rfl (lv_at hl 1 rfl) ?_
      refine lv_ineg hx hb dJ6_stringSize_0f7a4_9 ?_
      refine lv_istore_n (lv' := [(0, .int (-(nI w))), (1, .int 0)]) hx hb dJ6_stringSize_0f7a4_10 rfl hl (by decide) rfl (fun ls hl => ?_)
      refine lv_bipush (v := -10) hx hb dJ6_stringSize_0f7a4_11 (by decide) ?_
      refine lv_istore_n (lv' := [(2, .int (-10)), (0, .int (-(nI w))), (1, .int 0)]) hx hb dJ6_stringSize_0f7a4_13 rfl hl (by decide) rfl (fun ls hl => ?_)
      refine lv_iconst (v := 1) hx hb dJ6_stringSize_0f7a4_14 (by decide) ?_
      refine lv_istore_n (lv' := [(3, .int 1), (2, .int (-10)), (0, .int (-(nI w))), (1, .int 0)]) hx hb dJ6_stringSize_0f7a4_15 rfl hl (by decide) rfl (fun ls hl => ?_)
      refine lv_iload_n hx hb dJ6_stringSize_0f7a4_16 rfl (lv_at hl 0 rfl) ?_
      refine lv_bipush (v := 10) hx hb dJ6_stringSize_0f7a4_17 (by decide) ?_
      refine lv_icmp_ge (tgt := 42) hx hb dJ6_stringSize_0f7a4_19 (by decide) (fun c0 => ?_) (fun c0 => ?_)
      · exact absurd c0 (by decide)
      · clear c0
        refine lv_iload_n hx hb dJ6_stringSize_0f7a4_22 rfl (lv_at hl 2 rfl) ?_
        refine lv_iload_n hx hb dJ6_stringSize_0f7a4_23 rfl (lv_at hl 1 rfl) ?_
        refine lv_icmp_le (tgt := 31) hx hb dJ6_stringSize_0f7a4_24 (by decide) (fun c0 => ?_) (fun c0 => ?_)
        · exact absurd c0 (sg_nle (c := 10) hb9 (by decide))
        · clear c0
          refine lv_iload_n hx hb dJ6_stringSize_0f7a4_27 rfl (lv_at hl 0 rfl) ?_
          refine lv_iload_n hx hb dJ6_stringSize_0f7a4_28 rfl (lv_at hl 3 rfl) ?_
          refine lv_iadd hx hb dJ6_stringSize_0f7a4_29 ?_
          refine lv_topi (fun v1 e_v1 => ?_)
          have e9 : v1 = 1 := e_v1.trans (by decide)
          subst e9
          exact W.iret (v := 1) hx hb hr (fun t ht hW => ⟨⟨1, (), rfl, (by rw [hdl]; rfl), ht⟩, hS.F ht⟩) hS.2.2 dJ6_stringSize_0f7a4_30
  · obtain ⟨rfl, ha, hb9⟩ := h9
    have hl : lv_has ls 4 [(0, .int (nI w))] := hl
    have hdl := dl_0_2 ha hb9
    refine lv_iconst (v := 1) hx hb dJ6_stringSize_0f7a4_0 (by decide) ?_
    refine lv_istore_n (lv' := [(1, .int 1), (0, .int (nI w))]) hx hb dJ6_stringSize_0f7a4_1 rfl hl (by decide) rfl (fun ls hl => ?_)
    refine lv_iload_n hx hb dJ6_stringSize_0f7a4_2 rfl (lv_at hl 1 rfl) ?_
    refine lv_if_lt (tgt := 11) hx hb dJ6_stringSize_0f7a4_3 (by decide) (fun c0 => ?_) (fun c0 => ?_)
    · exact absurd c0 (nI_pos (by omega))
    · clear c0
      refine lv_iconst (v := 0) hx hb dJ6_stringSize_0f7a4_6 (by decide) ?_
      refine lv_istore_n (lv' := [(1, .int 0), (0, .int (nI w))]) hx hb dJ6_stringSize_0f7a4_7 rfl hl (by decide) rfl (fun ls hl => ?_)
      refine lv_iload_n hx hb dJ6_stringSize_0f7a4_8 rfl (lv_at hl 1 rfl) ?_
      refine lv_ineg hx hb dJ6_stringSize_0f7a4_9 ?_
      refine lv_istore_n (lv' := [(0, .int (-(nI w))), (1, .int 0)]) hx hb dJ6_stringSize_0f7a4_10 rfl hl (by decide) rfl (fun ls hl => ?_)
      refine lv_bipush (v := -10) hx hb dJ6_stringSize_0f7a4_11 (by decide) ?_
      refine lv_istore_n (lv' := [(2, .int (-10)), (0, .int (-(nI w))), (1, .int 0)]) hx hb dJ6_stringSize_0f7a4_13 rfl hl (by decide) rfl (fun ls hl => ?_)
      refine lv_iconst (v := 1) hx hb dJ6_stringSize_0f7a4_14 (by decide) ?_
      refine lv_istore_n (lv' := [(3, .int 1), (2, .int (-10)), (0, .int (-(nI w))), (1, .int 0)]) hx hb dJ6_stringSize_0f7a4_15 rfl hl (by decide) rfl (fun ls hl => ?_)
      refine lv_iload_n hx hb dJ6_stringSize_0f7a4_16 rfl (lv_at hl 0 rfl) ?_
      refine lv_bipush (v := 10) hx hb dJ6_stringSize_0f7a4_17 (by decide) ?_
      refine lv_icmp_ge (tgt := 42) hx hb dJ6_stringSize_0f7a4_19 (by decide) (fun c0 => ?_) (fun c0 => ?_)
      · exact absurd c0 (by decide)
      · clear c0
        refine lv_iload_n hx hb dJ6_stringSize_0f7a4_22 rfl (lv_at hl 2 rfl) ?_
        refine lv_iload_n hx hb dJ6_stringSize_0f7a4_23 rfl (lv_at hl 1 rfl) ?_
        refine lv_icmp_le (tgt := 31) hx hb dJ6_stringSize_0f7a4_24 (by decide) (fun c0 => ?_) (fun c0 => ?_)
        · clear c0
          refine lv_bipush (v := 10) hx hb dJ6_stringSize_0f7a4_31 (by decide) ?_
          refine lv_iload_n hx hb dJ6_stringSize_0f7a4_33 rfl (lv_at hl 1 rfl) ?_
          refine lv_imul hx hb dJ6_stringSize_0f7a4_34 ?_
          refine lv_topi (fun v1 e_v1 => ?_)
          have e9 : v1 = (-100) := e_v1.trans (by decide)
          subst e9
          refine lv_istore_n (lv' := [(2, .int (-100)), (3, .int 1), (0, .int (-(nI w))), (1, .int 0)]) hx hb dJ6_stringSize_0f7a4_35 rfl hl (by decide) rfl (fun ls hl => ?_)
          refine lv_iinc (v := 2) (lv' := [(3, .int 2), (2, .int (-100)), (0, .int (-(nI w))), (1, .int 0)]) hx hb dJ6_stringSize_0f7a4_36 hl (k := 1) rfl rfl (by decide) rfl (fun ls hl => ?_)
          refine lv_goto (tgt := 16) hx hb dJ6_stringSize_0f7a4_39 (by decide) ?_
          refine lv_iload_n hx hb dJ6_stringSize_0f7a4_16 rfl (lv_at hl 0 rfl) ?_
          refine lv_bipush (v := 10) hx hb dJ6_stringSize_0f7a4_17 (by decide) ?_
          refine lv_icmp_ge (tgt := 42) hx hb dJ6_stringSize_0f7a4_19 (by decide) (fun c0 => ?_) (fun c0 => ?_)
          · exact absurd c0 (by decide)
          · clear c0
            refine lv_iload_n hx hb dJ6_stringSize_0f7a4_22 rfl (lv_at hl 2 rfl) ?_
            refine lv_iload_n hx hb dJ6_stringSize_0f7a4_23 rfl (lv_at hl 1 rfl) ?_
            refine lv_icmp_le (tgt := 31) hx hb dJ6_stringSize_0f7a4_24 (by decide) (fun c0 => ?_) (fun c0 => ?_)
            · exact absurd c0 (sg_nle (c := 100) hb9 (by decide))
            · clear c0
              refine lv_iload_n hx hb dJ6_stringSize_0f7a4_27 rfl (lv_at hl 0 rfl) ?_
              refine lv_iload_n hx hb dJ6_stringSize_0f7a4_28 rfl (lv_at hl 3 rfl) ?_
              refine lv_iadd hx hb dJ6_stringSize_0f7a4_29 ?_
              refine lv_topi (fun v2 e_v2 => ?_)
              have e9 : v2 = 2 := e_v2.trans (by decide)
              subst e9
              exact W.iret (v := 2) hx hb hr (fun t ht hW => ⟨⟨2, (), rfl, (by rw [hdl]; rfl), ht⟩, hS.F ht⟩) hS.2.2 dJ6_stringSize_0f7a4_30
        · exact absurd (sg_le (c := 10) (by omega) (by omega)) c0
  · obtain ⟨rfl, ha, hb9⟩ := h9
    have hl : lv_has ls 4 [(0, .int (nI w))] := hl
    have hdl := dl_0_3 ha hb9
    refine lv_iconst (v := 1) hx hb dJ6_stringSize_0f7a4_0 (by decide) ?_
    refine lv_istore_n (lv' := [(1, .int 1), (0, .int (nI w))]) hx hb dJ6_stringSize_0f7a4_1 rfl hl (by decide) rfl (fun ls hl => ?_)
    refine lv_iload_n hx hb dJ6_stringSize_0f7a4_2 rfl (lv_at hl 1 rfl) ?_
    refine lv_if_lt (tgt := 11) hx hb dJ6_stringSize_0f7a4_3 (by decide) (fun c0 => ?_) (fun c0 => ?_)
    · exact absurd c0 (nI_pos (by omega))
    · clear c0
      refine lv_iconst (v := 0) hx hb dJ6_stringSize_0f7a4_6 (by decide) ?_
      refine lv_istore_n (lv' := [(1, .int 0), (0, .int (nI w))]) hx hb dJ6_stringSize_0f7a4_7 rfl hl (by decide) rfl (fun ls hl => ?_)
      refine lv_iload_n hx hb dJ6_stringSize_0f7a4_8 rfl (lv_at hl 1 rfl) ?_
      refine lv_ineg hx hb dJ6_stringSize_0f7a4_9 ?_
      refine lv_istore_n (lv' := [(0, .int (-(nI w))), (1, .int 0)]) hx hb dJ6_stringSize_0f7a4_10 rfl hl (by decide) rfl (fun ls hl => ?_)
      refine lv_bipush (v := -10) hx hb dJ6_stringSize_0f7a4_11 (by decide) ?_
      refine lv_istore_n (lv' := [(2, .int (-10)), (0, .int (-(nI w))), (1, .int 0)]) hx hb dJ6_stringSize_0f7a4_13 rfl hl (by decide) rfl (fun ls hl => ?_)
      refine lv_iconst (v := 1) hx hb dJ6_stringSize_0f7a4_14 (by decide) ?_
      refine lv_istore_n (lv' := [(3, .int 1), (2, .int (-10)), (0, .int (-(nI w))), (1, .int 0)]) hx hb dJ6_stringSize_0f7a4_15 rfl hl (by decide) rfl (fun ls hl => ?_)
      refine lv_iload_n hx hb dJ6_stringSize_0f7a4_16 rfl (lv_at hl 0 rfl) ?_
      refine lv_bipush (v := 10) hx hb dJ6_stringSize_0f7a4_17 (by decide) ?_
      refine lv_icmp_ge (tgt := 42) hx hb dJ6_stringSize_0f7a4_19 (by decide) (fun c0 => ?_) (fun c0 => ?_)
      · exact absurd c0 (by decide)
      · clear c0
        refine lv_iload_n hx hb dJ6_stringSize_0f7a4_22 rfl (lv_at hl 2 rfl) ?_
        refine lv_iload_n hx hb dJ6_stringSize_0f7a4_23 rfl (lv_at hl 1 rfl) ?_
        refine lv_icmp_le (tgt := 31) hx hb dJ6_stringSize_0f7a4_24 (by decide) (fun c0 => ?_) (fun c0 => ?_)
        · clear c0
          refine lv_bipush (v := 10) hx hb dJ6_stringSize_0f7a4_31 (by decide) ?_
          refine lv_iload_n hx hb dJ6_stringSize_0f7a4_33 rfl (lv_at hl 1 rfl) ?_
          refine lv_imul hx hb dJ6_stringSize_0f7a4_34 ?_
          refine lv_topi (fun v1 e_v1 => ?_)
          have e9 : v1 = (-100) := e_v1.trans (by decide)
          subst e9
          refine lv_istore_n (lv' := [(2, .int (-100)), (3, .int 1), (0, .int (-(nI w))), (1, .int 0)]) hx hb dJ6_stringSize_0f7a4_35 rfl hl (by decide) rfl (fun ls hl => ?_)
          refine lv_iinc (v := 2) (lv' := [(3, .int 2), (2, .int (-100)), (0, .int (-(nI w))), (1, .int 0)]) hx hb dJ6_stringSize_0f7a4_36 hl (k := 1) rfl rfl (by decide) rfl (fun ls hl => ?_)
          refine lv_goto (tgt := 16) hx hb dJ6_stringSize_0f7a4_39 (by decide) ?_
          refine lv_iload_n hx hb dJ6_stringSize_0f7a4_16 rfl (lv_at hl 0 rfl) ?_
          refine lv_bipush (v := 10) hx hb dJ6_stringSize_0f7a4_17 (by decide) ?_
          refine lv_icmp_ge (tgt := 42) hx hb dJ6_stringSize_0f7a4_19 (by decide) (fun c0 => ?_) (fun c0 => ?_)
          · exact absurd c0 (by decide)
          · clear c0
            refine lv_iload_n hx hb dJ6_stringSize_0f7a4_22 rfl (lv_at hl 2 rfl) ?_
            refine lv_iload_n hx hb dJ6_stringSize_0f7a4_23 rfl (lv_at hl 1 rfl) ?_
            refine lv_icmp_le (tgt := 31) hx hb dJ6_stringSize_0f7a4_24 (by decide) (fun c0 => ?_) (fun c0 => ?_)
            · clear c0
              refine lv_bipush (v := 10) hx hb dJ6_stringSize_0f7a4_31 (by decide) ?_
              refine lv_iload_n hx hb dJ6_stringSize_0f7a4_33 rfl (lv_at hl 1 rfl) ?_
              refine lv_imul hx hb dJ6_stringSize_0f7a4_34 ?_
              refine lv_topi (fun v2 e_v2 => ?_)
              have e9 : v2 = (-1000) := e_v2.trans (by decide)
              subst e9
              refine lv_istore_n (lv' := [(2, .int (-1000)), (3, .int 2), (0, .int (-(nI w))), (1, .int 0)]) hx hb dJ6_stringSize_0f7a4_35 rfl hl (by decide) rfl (fun ls hl => ?_)
              refine lv_iinc (v := 3) (lv' := [(3, .int 3), (2, .int (-1000)), (0, .int (-(nI w))), (1, .int 0)]) hx hb dJ6_stringSize_0f7a4_36 hl (k := 1) rfl rfl (by decide) rfl (fun ls hl => ?_)
              refine lv_goto (tgt := 16) hx hb dJ6_stringSize_0f7a4_39 (by decide) ?_
              refine lv_iload_n hx hb dJ6_stringSize_0f7a4_16 rfl (lv_at hl 0 rfl) ?_
              refine lv_bipush (v := 10) hx hb dJ6_stringSize_0f7a4_17 (by decide) ?_
              refine lv_icmp_ge (tgt := 42) hx hb dJ6_stringSize_0f7a4_19 (by decide) (fun c0 => ?_) (fun c0 => ?_)
              · exact absurd c0 (by decide)
              · clear c0
                refine lv_iload_n hx hb dJ6_stringSize_0f7a4_22 rfl (lv_at hl 2 rfl) ?_
                refine lv_iload_n hx hb dJ6_stringSize_0f7a4_23 rfl (lv_at hl 1 rfl) ?_
                refine lv_icmp_le (tgt := 31) hx hb dJ6_stringSize_0f7a4_24 (by decide) (fun c0 => ?_) (fun c0 => ?_)
                · exact absurd c0 (sg_nle (c := 1000) hb9 (by decide))
                · clear c0
                  refine lv_iload_n hx hb dJ6_stringSize_0f7a4_27 rfl (lv_at hl 0 rfl) ?_
                  refine lv_iload_n hx hb dJ6_stringSize_0f7a4_28 rfl (lv_at hl 3 rfl) ?_
                  refine lv_iadd hx hb dJ6_stringSize_0f7a4_29 ?_
                  refine lv_topi (fun v3 e_v3 => ?_)
                  have e9 : v3 = 3 := e_v3.trans (by decide)
                  subst e9
                  exact W.iret (v := 3) hx hb hr (fun t ht hW => ⟨⟨3, (), rfl, (by rw [hdl]; rfl), ht⟩, hS.F ht⟩) hS.2.2 dJ6_stringSize_0f7a4_30
            · exact absurd (sg_le (c := 100) (by omega) (by omega)) c0
        · exact absurd (sg_le (c := 10) (by omega) (by omega)) c0
  · obtain ⟨rfl, ha, hb9⟩ := h9
    have hl : lv_has ls 4 [(0, .int (nI w))] := hl
    have hdl := dl_0_4 ha hb9
    refine lv_iconst (v := 1) hx hb dJ6_stringSize_0f7a4_0 (by decide) ?_
    refine lv_istore_n (lv' := [(1, .int 1), (0, .int (nI w))]) hx hb dJ6_stringSize_0f7a4_1 rfl hl (by decide) rfl (fun ls hl => ?_)
    refine lv_iload_n hx hb dJ6_stringSize_0f7a4_2 rfl (lv_at hl 1 rfl) ?_
    refine lv_if_lt (tgt := 11) hx hb dJ6_stringSize_0f7a4_3 (by decide) (fun c0 => ?_) (fun c0 => ?_)
    · exact absurd c0 (nI_pos (by omega))
    · clear c0
      refine lv_iconst (v := 0) hx hb dJ6_stringSize_0f7a4_6 (by decide) ?_
      refine lv_istore_n (lv' := [(1, .int 0), (0, .int (nI w))]) hx hb dJ6_stringSize_0f7a4_7 rfl hl (by decide) rfl (fun ls hl => ?_)
      refine lv_iload_n hx hb dJ6_stringSize_0f7a4_8 rfl (lv_at hl 1 rfl) ?_
      refine lv_ineg hx hb dJ6_stringSize_0f7a4_9 ?_
      refine lv_istore_n (lv' := [(0, .int (-(nI w))), (1, .int 0)]) hx hb dJ6_stringSize_0f7a4_10 rfl hl (by decide) rfl (fun ls hl => ?_)
      refine lv_bipush (v := -10) hx hb dJ6_stringSize_0f7a4_11 (by decide) ?_
      refine lv_istore_n (lv' := [(2, .int (-10)), (0, .int (-(nI w))), (1, .int 0)]) hx hb dJ6_stringSize_0f7a4_13 rfl hl (by decide) rfl (fun ls hl => ?_)
      refine lv_iconst (v := 1) hx hb dJ6_stringSize_0f7a4_14 (by decide) ?_
      refine lv_istore_n (lv' := [(3, .int 1), (2, .int (-10)), (0, .int (-(nI w))), (1, .int 0)]) hx hb dJ6_stringSize_0f7a4_15 rfl hl (by decide) rfl (fun ls hl => ?_)
      refine lv_iload_n hx hb dJ6_stringSize_0f7a4_16 rfl (lv_at hl 0 rfl) ?_
      refine lv_bipush (v := 10) hx hb dJ6_stringSize_0f7a4_17 (by decide) ?_
      refine lv_icmp_ge (tgt := 42) hx hb dJ6_stringSize_0f7a4_19 (by decide) (fun c0 => ?_) (fun c0 => ?_)
      · exact absurd c0 (by decide)
      · clear c0
        refine lv_iload_n hx hb dJ6_stringSize_0f7a4_22 rfl (lv_at hl 2 rfl) ?_
        refine lv_iload_n hx hb dJ6_stringSize_0f7a4_23 rfl (lv_at hl 1 rfl) ?_
        refine lv_icmp_le (tgt := 31) hx hb dJ6_stringSize_0f7a4_24 (by decide) (fun c0 => ?_) (fun c0 => ?_)
        · clear c0
          refine lv_bipush (v := 10) hx hb dJ6_stringSize_0f7a4_31 (by decide) ?_
          refine lv_iload_n hx hb dJ6_stringSize_0f7a4_33 rfl (lv_at hl 1 rfl) ?_
          refine lv_imul hx hb dJ6_stringSize_0f7a4_34 ?_
          refine lv_topi (fun v1 e_v1 => ?_)
          have e9 : v1 = (-100) := e_v1.trans (by decide)
          subst e9
          refine lv_istore_n (lv' := [(2, .int (-100)), (3, .int 1), (0, .int (-(nI w))), (1, .int 0)]) hx hb dJ6_stringSize_0f7a4_35 rfl hl (by decide) rfl (fun ls hl => ?_)
          refine lv_iinc (v := 2) (lv' := [(3, .int 2), (2, .int (-100)), (0, .int (-(nI w))), (1, .int 0)]) hx hb dJ6_stringSize_0f7a4_36 hl (k := 1) rfl rfl (by decide) rfl (fun ls hl => ?_)
          refine lv_goto (tgt := 16) hx hb dJ6_stringSize_0f7a4_39 (by decide) ?_
          refine lv_iload_n hx hb dJ6_stringSize_0f7a4_16 rfl (lv_at hl 0 rfl) ?_
          refine lv_bipush (v := 10) hx hb dJ6_stringSize_0f7a4_17 (by decide) ?_
          refine lv_icmp_ge (tgt := 42) hx hb dJ6_stringSize_0f7a4_19 (by decide) (fun c0 => ?_) (fun c0 => ?_)
          · exact absurd c0 (by decide)
          · clear c0
            refine lv_iload_n hx hb dJ6_stringSize_0f7a4_22 rfl (lv_at hl 2 rfl) ?_
            refine lv_iload_n hx hb dJ6_stringSize_0f7a4_23 rfl (lv_at hl 1 rfl) ?_
            refine lv_icmp_le (tgt := 31) hx hb dJ6_stringSize_0f7a4_24 (by decide) (fun c0 => ?_) (fun c0 => ?_)
            · clear c0
              refine lv_bipush (v := 10) hx hb dJ6_stringSize_0f7a4_31 (by decide) ?_
              refine lv_iload_n hx hb dJ6_stringSize_0f7a4_33 rfl (lv_at hl 1 rfl) ?_
              refine lv_imul hx hb dJ6_stringSize_0f7a4_34 ?_
              refine lv_topi (fun v2 e_v2 => ?_)
              have e9 : v2 = (-1000) := e_v2.trans (by decide)
              subst e9
              refine lv_istore_n (lv' := [(2, .int (-1000)), (3, .int 2), (0, .int (-(nI w))), (1, .int 0)]) hx hb dJ6_stringSize_0f7a4_35 rfl hl (by decide) rfl (fun ls hl => ?_)
              refine lv_iinc (v := 3) (lv' := [(3, .int 3), (2, .int (-1000)), (0, .int (-(nI w))), (1, .int 0)]) hx hb dJ6_stringSize_0f7a4_36 hl (k := 1) rfl rfl (by decide) rfl (fun ls hl => ?_)
              refine lv_goto (tgt := 16) hx hb dJ6_stringSize_0f7a4_39 (by decide) ?_
              refine lv_iload_n hx hb dJ6_stringSize_0f7a4_16 rfl (lv_at hl 0 rfl) ?_
              refine lv_bipush (v := 10) hx hb dJ6_stringSize_0f7a4_17 (by decide) ?_
              refine lv_icmp_ge (tgt := 42) hx hb dJ6_stringSize_0f7a4_19 (by decide) (fun c0 => ?_) (fun c0 => ?_)
              · exact absurd c0 (by decide)
              · clear c0
                refine lv_iload_n hx hb dJ6_stringSize_0f7a4_22 rfl (lv_at hl 2 rfl) ?_
                refine lv_iload_n hx hb dJ6_stringSize_0f7a4_23 rfl (lv_at hl 1 rfl) ?_
                refine lv_icmp_le (tgt := 31) hx hb dJ6_stringSize_0f7a4_24 (by decide) (fun c0 => ?_) (fun c0 => ?_)
                · clear c0
                  refine lv_bipush (v := 10) hx hb dJ6_stringSize_0f7a4_31 (by decide) ?_
                  refine lv_iload_n hx hb dJ6_stringSize_0f7a4_33 rfl (lv_at hl 1 rfl) ?_
                  refine lv_imul hx hb dJ6_stringSize_0f7a4_34 ?_
                  refine lv_topi (fun v3 e_v3 => ?_)
                  have e9 : v3 = (-10000) := e_v3.trans (by decide)
                  subst e9
                  refine lv_istore_n (lv' := [(2, .int (-10000)), (3, .int 3), (0, .int (-(nI w))), (1, .int 0)]) hx hb dJ6_stringSize_0f7a4_35 rfl hl (by decide) rfl (fun ls hl => ?_)
                  refine lv_iinc (v := 4) (lv' := [(3, .int 4), (2, .int (-10000)), (0, .int (-(nI w))), (1, .int 0)]) hx hb dJ6_stringSize_0f7a4_36 hl (k := 1) rfl rfl (by decide) rfl (fun ls hl => ?_)
                  refine lv_goto (tgt := 16) hx hb dJ6_stringSize_0f7a4_39 (by decide) ?_
                  refine lv_iload_n hx hb dJ6_stringSize_0f7a4_16 rfl (lv_at hl 0 rfl) ?_
                  refine lv_bipush (v := 10) hx hb dJ6_stringSize_0f7a4_17 (by decide) ?_
                  refine lv_icmp_ge (tgt := 42) hx hb dJ6_stringSize_0f7a4_19 (by decide) (fun c0 => ?_) (fun c0 => ?_)
                  · exact absurd c0 (by decide)
                  · clear c0
                    refine lv_iload_n hx hb dJ6_stringSize_0f7a4_22 rfl (lv_at hl 2 rfl) ?_
                    refine lv_iload_n hx hb dJ6_stringSize_0f7a4_23 rfl (lv_at hl 1 rfl) ?_
                    refine lv_icmp_le (tgt := 31) hx hb dJ6_stringSize_0f7a4_24 (by decide) (fun c0 => ?_) (fun c0 => ?_)
                    · exact absurd c0 (sg_nle (c := 10000) hb9 (by decide))
                    · clear c0
                      refine lv_iload_n hx hb dJ6_stringSize_0f7a4_27 rfl (lv_at hl 0 rfl) ?_
                      refine lv_iload_n hx hb dJ6_stringSize_0f7a4_28 rfl (lv_at hl 3 rfl) ?_
                      refine lv_iadd hx hb dJ6_stringSize_0f7a4_29 ?_
                      refine lv_topi (fun v4 e_v4 => ?_)
                      have e9 : v4 = 4 := e_v4.trans (by decide)
                      subst e9
                      exact W.iret (v := 4) hx hb hr (fun t ht hW => ⟨⟨4, (), rfl, (by rw [hdl]; rfl), ht⟩, hS.F ht⟩) hS.2.2 dJ6_stringSize_0f7a4_30
                · exact absurd (sg_le (c := 1000) (by omega) (by omega)) c0
            · exact absurd (sg_le (c := 100) (by omega) (by omega)) c0
        · exact absurd (sg_le (c := 10) (by omega) (by omega)) c0
  · obtain ⟨rfl, ha, hb9⟩ := h9
    have hl : lv_has ls 4 [(0, .int (-(nI w)))] := hl
    have hdl := dl_1_1 ha hb9
    refine lv_iconst (v := 1) hx hb dJ6_stringSize_0f7a4_0 (by decide) ?_
    refine lv_istore_n (lv' := [(1, .int 1), (0, .int (-(nI w)))]) hx hb dJ6_stringSize_0f7a4_1 rfl hl (by decide) rfl (fun ls hl => ?_)
    refine lv_iload_n hx hb dJ6_stringSize_0f7a4_2 rfl (lv_at hl 1 rfl) ?_
    refine lv_if_lt (tgt := 11) hx hb dJ6_stringSize_0f7a4_3 (by decide) (fun c0 => ?_) (fun c0 => ?_)
    · clear c0
      refine lv_bipush (v := -10) hx hb dJ6_stringSize_0f7a4_11 (by decide) ?_
      refine lv_istore_n (lv' := [(2, .int (-10)), (1, .int 1), (0, .int (-(nI w)))]) hx hb dJ6_stringSize_0f7a4_13 rfl hl (by decide) rfl (fun ls hl => ?_)
      refine lv_iconst (v := 1) hx hb dJ6_stringSize_0f7a4_14 (by decide) ?_
      refine lv_istore_n (lv' := [(3, .int 1), (2, .int (-10)), (1, .int 1), (0, .int (-(nI w)))]) hx hb dJ6_stringSize_0f7a4_15 rfl hl (by decide) rfl (fun ls hl => ?_)
      refine lv_iload_n hx hb dJ6_stringSize_0f7a4_16 rfl (lv_at hl 0 rfl) ?_
      refine lv_bipush (v := 10) hx hb dJ6_stringSize_0f7a4_17 (by decide) ?_
      refine lv_icmp_ge (tgt := 42) hx hb dJ6_stringSize_0f7a4_19 (by decide) (fun c0 => ?_) (fun c0 => ?_)
      · exact absurd c0 (by decide)
      · clear c0
        refine lv_iload_n hx hb dJ6_stringSize_0f7a4_22 rfl (lv_at hl 3 rfl) ?_
        refine lv_iload_n hx hb dJ6_stringSize_0f7a4_23 rfl (lv_at hl 1 rfl) ?_
        refine lv_icmp_le (tgt := 31) hx hb dJ6_stringSize_0f7a4_24 (by decide) (fun c0 => ?_) (fun c0 => ?_)
        · exact absurd c0 (sg_nle (c := 10) hb9 (by decide))
        · clear c0
          refine lv_iload_n hx hb dJ6_stringSize_0f7a4_27 rfl (lv_at hl 0 rfl) ?_
          refine lv_iload_n hx hb dJ6_stringSize_0f7a4_28 rfl (lv_at hl 2 rfl) ?_
          refine lv_iadd hx hb dJ6_stringSize_0f7a4_29 ?_
          refine lv_topi (fun v1 e_v1 => ?_)
          have e9 : v1 = 2 := e_v1.trans (by decide)
          subst e9
          exact W.iret (v := 2) hx hb hr (fun t ht hW => ⟨⟨2, (), rfl, (by rw [hdl]; rfl), ht⟩, hS.F ht⟩) hS.2.2 dJ6_stringSize_0f7a4_30
    · exact absurd (sg_neg (by omega) (by omega)) c0
  · obtain ⟨rfl, ha, hb9⟩ := h9
    have hl : lv_has ls 4 [(0, .int (-(nI w)))] := hl
    have hdl := dl_1_2 ha hb9
    refine lv_iconst (v := 1) hx hb dJ6_stringSize_0f7a4_0 (by decide) ?_
    refine lv_istore_n (lv' := [(1, .int 1), (0, .int (-(nI w)))]) hx hb dJ6_stringSize_0f7a4_1 rfl hl (by decide) rfl (fun ls hl => ?_)
    refine lv_iload_n hx hb dJ6_stringSize_0f7a4_2 rfl (lv_at hl 1 rfl) ?_
    refine lv_if_lt (tgt := 11) hx hb dJ6_stringSize_0f7a4_3 (by decide) (fun c0 => ?_) (fun c0 => ?_)
    · clear c0
      refine lv_bipush (v := -10) hx hb dJ6_stringSize_0f7a4_11 (by decide) ?_
      refine lv_istore_n (lv' := [(2, .int (-10)), (1, .int 1), (0, .int (-(nI w)))]) hx hb dJ6_stringSize_0f7a4_13 rfl hl (by decide) rfl (fun ls hl => ?_)
      refine lv_iconst (v := 1) hx hb dJ6_stringSize_0f7a4_14 (by decide) ?_
      refine lv_istore_n (lv' := [(3, .int 1), (2, .int (-10)), (1, .int 1), (0, .int (-(nI w)))]) hx hb dJ6_stringSize_0f7a4_15 rfl hl (by decide) rfl (fun ls hl => ?_)
      refine lv_iload_n hx hb dJ6_stringSize_0f7a4_16 rfl (lv_at hl 0 rfl) ?_
      refine lv_bipush (v := 10) hx hb dJ6_stringSize_0f7a4_17 (by decide) ?_
      refine lv_icmp_ge (tgt := 42) hx hb dJ6_stringSize_0f7a4_19 (by decide) (fun c0 => ?_) (fun c0 => ?_)
      · exact absurd c0 (by decide)
      · clear c0
        refine lv_iload_n hx hb dJ6_stringSize_0f7a4_22 rfl (lv_at hl 3 rfl) ?_
        refine lv_iload_n hx hb dJ6_stringSize_0f7a4_23 rfl (lv_at hl 1 rfl) ?_
        refine lv_icmp_le (tgt := 31) hx hb dJ6_stringSize_0f7a4_24 (by decide) (fun c0 => ?_) (fun c0 => ?_)
        · clear c0
          refine lv_bipush (v := 10) hx hb dJ6_stringSize_0f7a4_31 (by decide) ?_
          refine lv_iload_n hx hb dJ6_stringSize_0f7a4_33 rfl (lv_at hl 1 rfl) ?_
          refine lv_imul hx hb dJ6_stringSize_0f7a4_34 ?_
          refine lv_topi (fun v1 e_v1 => ?_)
          have e9 : v1 = (-100) := e_v1.trans (by decide)
          subst e9
          refine lv_istore_n (lv' := [(2, .int (-100)), (3, .int 1), (1, .int 1), (0, .int (-(nI w)))]) hx hb dJ6_stringSize_0f7a4_35 rfl hl (by decide) rfl (fun ls hl => ?_)
          refine lv_iinc (v := 2) (lv' := [(3, .int 2), (2, .int (-100)), (1, .int 1), (0, .int (-(nI w)))]) hx hb dJ6_stringSize_0f7a4_36 hl (k := 1) rfl rfl (by decide) rfl (fun ls hl => ?_)
          refine lv_goto (tgt := 16) hx hb dJ6_stringSize_0f7a4_39 (by decide) ?_
          refine lv_iload_n hx hb dJ6_stringSize_0f7a4_16 rfl (lv_at hl 0 rfl) ?_
          refine lv_bipush (v := 10) hx hb dJ6_stringSize_0f7a4_17 (by decide) ?_
          refine lv_icmp_ge (tgt := 42) hx hb dJ6_stringSize_0f7a4_19 (by decide) (fun c0 => ?_) (fun c0 => ?_)
          · exact absurd c0 (by decide)
          · clear c0
            refine lv_iload_n hx hb dJ6_stringSize_0f7a4_22 rfl (lv_at hl 3 rfl) ?_
            refine lv_iload_n hx hb dJ6_stringSize_0f7a4_23 rfl (lv_at hl 1 rfl) ?_
            refine lv_icmp_le (tgt := 31) hx hb dJ6_stringSize_0f7a4_24 (by decide) (fun c0 => ?_) (fun c0 => ?_)
            · exact absurd c0 (sg_nle (c := 100) hb9 (by decide))
            · clear c0
              refine lv_iload_n hx hb dJ6_stringSize_0f7a4_27 rfl (lv_at hl 0 rfl) ?_
              refine lv_iload_n hx hb dJ6_stringSize_0f7a4_28 rfl (lv_at hl 2 rfl) ?_
              refine lv_iadd hx hb dJ6_stringSize_0f7a4_29 ?_
              refine lv_topi (fun v2 e_v2 => ?_)
              have e9 : v2 = 3 := e_v2.trans (by decide)
              subst e9
              exact W.iret (v := 3) hx hb hr (fun t ht hW => ⟨⟨3, (), rfl, (by rw [hdl]; rfl), ht⟩, hS.F ht⟩) hS.2.2 dJ6_stringSize_0f7a4_30
        · exact absurd (sg_le (c := 10) (by omega) (by omega)) c0
    · exact absurd (sg_neg (by omega) (by omega)) c0
  · obtain ⟨rfl, ha, hb9⟩ := h9
    have hl : lv_has ls 4 [(0, .int (-(nI w)))] := hl
    have hdl := dl_1_3 ha hb9
    refine lv_iconst (v := 1) hx hb dJ6_stringSize_0f7a4_0 (by decide) ?_
    refine lv_istore_n (lv' := [(1, .int 1), (0, .int (-(nI w)))]) hx hb dJ6_stringSize_0f7a4_1 rfl hl (by decide) rfl (fun ls hl => ?_)
    refine lv_iload_n hx hb dJ6_stringSize_0f7a4_2 rfl (lv_at hl 1 rfl) ?_
    refine lv_if_lt (tgt := 11) hx hb dJ6_stringSize_0f7a4_3 (by decide) (fun c0 => ?_) (fun c0 => ?_)
    · clear c0
      refine lv_bipush (v := -10) hx hb dJ6_stringSize_0f7a4_11 (by decide) ?_
      refine lv_istore_n (lv' := [(2, .int (-10)), (1, .int 1), (0, .int (-(nI w)))]) hx hb dJ6_stringSize_0f7a4_13 rfl hl (by decide) rfl (fun ls hl => ?_)
      refine lv_iconst (v := 1) hx hb dJ6_stringSize_0f7a4_14 (by decide) ?_
      refine lv_istore_n (lv' := [(3, .int 1), (2, .int (-10)), (1, .int 1), (0, .int (-(nI w)))]) hx hb dJ6_stringSize_0f7a4_15 rfl hl (by decide) rfl (fun ls hl => ?_)
      refine lv_iload_n hx hb dJ6_stringSize_0f7a4_16 rfl (lv_at hl 0 rfl) ?_
      refine lv_bipush (v := 10) hx hb dJ6_stringSize_0f7a4_17 (by decide) ?_
      refine lv_icmp_ge (tgt := 42) hx hb dJ6_stringSize_0f7a4_19 (by decide) (fun c0 => ?_) (fun c0 => ?_)
      · exact absurd c0 (by decide)
      · clear c0
        refine lv_iload_n hx hb dJ6_stringSize_0f7a4_22 rfl (lv_at hl 3 rfl) ?_
        refine lv_iload_n hx hb dJ6_stringSize_0f7a4_23 rfl (lv_at hl 1 rfl) ?_
        refine lv_icmp_le (tgt := 31) hx hb dJ6_stringSize_0f7a4_24 (by decide) (fun c0 => ?_) (fun c0 => ?_)
        · clear c0
          refine lv_bipush (v := 10) hx hb dJ6_stringSize_0f7a4_31 (by decide) ?_
          refine lv_iload_n hx hb dJ6_stringSize_0f7a4_33 rfl (lv_at hl 1 rfl) ?_
          refine lv_imul hx hb dJ6_stringSize_0f7a4_34 ?_
          refine lv_topi (fun v1 e_v1 => ?_)
          have e9 : v1 = (-100) := e_v1.trans (by decide)
          subst e9
          refine lv_istore_n (lv' := [(2, .int (-100)), (3, .int 1), (1, .int 1), (0, .int (-(nI w)))]) hx hb dJ6_stringSize_0f7a4_35 rfl hl (by decide) rfl (fun ls hl => ?_)
          refine lv_iinc (v := 2) (lv' := [(3, .int 2), (2, .int (-100)), (1, .int 1), (0, .int (-(nI w)))]) hx hb dJ6_stringSize_0f7a4_36 hl (k := 1) rfl rfl (by decide) rfl (fun ls hl => ?_)
          refine lv_goto (tgt := 16) hx hb dJ6_stringSize_0f7a4_39 (by decide) ?_
          refine lv_iload_n hx hb dJ6_stringSize_0f7a4_16 rfl (lv_at hl 0 rfl) ?_
          refine lv_bipush (v := 10) hx hb dJ6_stringSize_0f7a4_17 (by decide) ?_
          refine lv_icmp_ge (tgt := 42) hx hb dJ6_stringSize_0f7a4_19 (by decide) (fun c0 => ?_) (fun c0 => ?_)
          · exact absurd c0 (by decide)
          · clear c0
            refine lv_iload_n hx hb dJ6_stringSize_0f7a4_22 rfl (lv_at hl 3 rfl) ?_
            refine lv_iload_n hx hb dJ6_stringSize_0f7a4_23 rfl (lv_at hl 1 rfl) ?_
            refine lv_icmp_le (tgt := 31) hx hb dJ6_stringSize_0f7a4_24 (by decide) (fun c0 => ?_) (fun c0 => ?_)
            · clear c0
              refine lv_bipush (v := 10) hx hb dJ6_stringSize_0f7a4_31 (by decide) ?_
              refine lv_iload_n hx hb dJ6_stringSize_0f7a4_33 rfl (lv_at hl 1 rfl) ?_
              refine lv_imul hx hb dJ6_stringSize_0f7a4_34 ?_
              refine lv_topi (fun v2 e_v2 => ?_)
              have e9 : v2 = (-1000) := e_v2.trans (by decide)
              subst e9
              refine lv_istore_n (lv' := [(2, .int (-1000)), (3, .int 2), (1, .int 1), (0, .int (-(nI w)))]) hx hb dJ6_stringSize_0f7a4_35 rfl hl (by decide) rfl (fun ls hl => ?_)
              refine lv_iinc (v := 3) (lv' := [(3, .int 3), (2, .int (-1000)), (1, .int 1), (0, .int (-(nI w)))]) hx hb dJ6_stringSize_0f7a4_36 hl (k := 1) rfl rfl (by decide) rfl (fun ls hl => ?_)
              refine lv_goto (tgt := 16) hx hb dJ6_stringSize_0f7a4_39 (by decide) ?_
              refine lv_iload_n hx hb dJ6_stringSize_0f7a4_16 rfl (lv_at hl 0 rfl) ?_
              refine lv_bipush (v := 10) hx hb dJ6_stringSize_0f7a4_17 (by decide) ?_
              refine lv_icmp_ge (tgt := 42) hx hb dJ6_stringSize_0f7a4_19 (by decide) (fun c0 => ?_) (fun c0 => ?_)
              · exact absurd c0 (by decide)
              · clear c0
                refine lv_iload_n hx hb dJ6_stringSize_0f7a4_22 rfl (lv_at hl 3 rfl) ?_
                refine lv_iload_n hx hb dJ6_stringSize_0f7a4_23 rfl (lv_at hl 1 rfl) ?_
                refine lv_icmp_le (tgt := 31) hx hb dJ6_stringSize_0f7a4_24 (by decide) (fun c0 => ?_) (fun c0 => ?_)
                · exact absurd c0 (sg_nle (c := 1000) hb9 (by decide))
                · clear c0
                  refine lv_iload_n hx hb dJ6_stringSize_0f7a4_27 rfl (lv_at hl 0 rfl) ?_
                  refine lv_iload_n hx hb dJ6_stringSize_0f7a4_28 rfl (lv_at hl 2 rfl) ?_
                  refine lv_iadd hx hb dJ6_stringSize_0f7a4_29 ?_
                  refine lv_topi (fun v3 e_v3 => ?_)
                  have e9 : v3 = 4 := e_v3.trans (by decide)
                  subst e9
                  exact W.iret (v := 4) hx hb hr (fun t ht hW => ⟨⟨4, (), rfl, (by rw [hdl]; rfl), ht⟩, hS.F ht⟩) hS.2.2 dJ6_stringSize_0f7a4_30
            · exact absurd (sg_le (c := 100) (by omega) (by omega)) c0
        · exact absurd (sg_le (c := 10) (by omega) (by omega)) c0
    · exact absurd (sg_neg (by omega) (by omega)) c0
  · obtain ⟨rfl, ha, hb9⟩ := h9
    have hl : lv_has ls 4 [(0, .int (-(nI w)))] := hl
    have hdl := dl_1_4 ha hb9
    refine lv_iconst (v := 1) hx hb dJ6_stringSize_0f7a4_0 (by decide) ?_
    refine lv_istore_n (lv' := [(1, .int 1), (0, .int (-(nI w)))]) hx hb dJ6_stringSize_0f7a4_1 rfl hl (by decide) rfl (fun ls hl => ?_)
    refine lv_iload_n hx hb dJ6_stringSize_0f7a4_2 rfl (lv_at hl 1 rfl) ?_
    refine lv_if_lt (tgt := 11) hx hb dJ6_stringSize_0f7a4_3 (by decide) (fun c0 => ?_) (fun c0 => ?_)
    · clear c0
      refine lv_bipush (v := -10) hx hb dJ6_stringSize_0f7a4_11 (by decide) ?_
      refine lv_istore_n (lv' := [(2, .int (-10)), (1, .int 1), (0, .int (-(nI w)))]) hx hb dJ6_stringSize_0f7a4_13 rfl hl (by decide) rfl (fun ls hl => ?_)
      refine lv_iconst (v := 1) hx hb dJ6_stringSize_0f7a4_14 (by decide) ?_
      refine lv_istore_n (lv' := [(3, .int 1), (2, .int (-10)), (1, .int 1), (0, .int (-(nI w)))]) hx hb dJ6_stringSize_0f7a4_15 rfl hl (by decide) rfl (fun ls hl => ?_)
      refine lv_iload_n hx hb dJ6_stringSize_0f7a4_16 rfl (lv_at hl 0 rfl) ?_
      refine lv_bipush (v := 10) hx hb dJ6_stringSize_0f7a4_17 (by decide) ?_
      refine lv_icmp_ge (tgt := 42) hx hb dJ6_stringSize_0f7a4_19 (by decide) (fun c0 => ?_) (fun c0 => ?_)
      · exact absurd c0 (by decide)
      · clear c0
        refine lv_iload_n hx hb dJ6_stringSize_0f7a4_22 rfl (lv_at hl 3 rfl) ?_
        refine lv_iload_n hx hb dJ6_stringSize_0f7a4_23 rfl (lv_at hl 1 rfl) ?_
        refine lv_icmp_le (tgt := 31) hx hb dJ6_stringSize_0f7a4_24 (by decide) (fun c0 => ?_) (fun c0 => ?_)
        · clear c0
          refine lv_bipush (v := 10) hx hb dJ6_stringSize_0f7a4_31 (by decide) ?_
          refine lv_iload_n hx hb dJ6_stringSize_0f7a4_33 rfl (lv_at hl 1 rfl) ?_
          refine lv_imul hx hb dJ6_stringSize_0f7a4_34 ?_
          refine lv_topi (fun v1 e_v1 => ?_)
          have e9 : v1 = (-100) := e_v1.trans (by decide)
          subst e9
          refine lv_istore_n (lv' := [(2, .int (-100)), (3, .int 1), (1, .int 1), (0, .int (-(nI w)))]) hx hb dJ6_stringSize_0f7a4_35 rfl hl (by decide) rfl (fun ls hl => ?_)
          refine lv_iinc (v := 2) (lv' := [(3, .int 2), (2, .int (-100)), (1, .int 1), (0, .int (-(nI w)))]) hx hb dJ6_stringSize_0f7a4_36 hl (k := 1) rfl rfl (by decide) rfl (fun ls hl => ?_)
          refine lv_goto (tgt := 16) hx hb dJ6_stringSize_0f7a4_39 (by decide) ?_
          refine lv_iload_n hx hb dJ6_stringSize_0f7a4_16 rfl (lv_at hl 0 rfl) ?_
          refine lv_bipush (v := 10) hx hb dJ6_stringSize_0f7a4_17 (by decide) ?_
          refine lv_icmp_ge (tgt := 42) hx hb dJ6_stringSize_0f7a4_19 (by decide) (fun c0 => ?_) (fun c0 => ?_)
          · exact absurd c0 (by decide)
          · clear c0
            refine lv_iload_n hx hb dJ6_stringSize_0f7a4_22 rfl (lv_at hl 3 rfl) ?_
            refine lv_iload_n hx hb dJ6_stringSize_0f7a4_23 rfl (lv_at hl 1 rfl) ?_
            refine lv_icmp_le (tgt := 31) hx hb dJ6_stringSize_0f7a4_24 (by decide) (fun c0 => ?_) (fun c0 => ?_)
            · clear c0
              refine lv_bipush (v := 10) hx hb dJ6_stringSize_0f7a4_31 (by decide) ?_
              refine lv_iload_n hx hb dJ6_stringSize_0f7a4_33 rfl (lv_at hl 1 rfl) ?_
              refine lv_imul hx hb dJ6_stringSize_0f7a4_34 ?_
              refine lv_topi (fun v2 e_v2 => ?_)
              have e9 : v2 = (-1000) := e_v2.trans (by decide)
              subst e9
              refine lv_istore_n (lv' := [(2, .int (-1000)), (3, .int 2), (1, .int 1), (0, .int (-(nI w)))]) hx hb dJ6_stringSize_0f7a4_35 rfl hl (by decide) rfl (fun ls hl => ?_)
              refine lv_iinc (v := 3) (lv' := [(3, .int 3), (2, .int (-1000)), (1, .int 1), (0, .int (-(nI w)))]) hx hb dJ6_stringSize_0f7a4_36 hl (k := 1) rfl rfl (by decide) rfl (fun ls hl => ?_)
              refine lv_goto (tgt := 16) hx hb dJ6_stringSize_0f7a4_39 (by decide) ?_
              refine lv_iload_n hx hb dJ6_stringSize_0f7a4_16 rfl (lv_at hl 0 rfl) ?_
              refine lv_bipush (v := 10) hx hb dJ6_stringSize_0f7a4_17 (by decide) ?_
              refine lv_icmp_ge (tgt := 42) hx hb dJ6_stringSize_0f7a4_19 (by decide) (fun c0 => ?_) (fun c0 => ?_)
              · exact absurd c0 (by decide)
              · clear c0
                refine lv_iload_n hx hb dJ6_stringSize_0f7a4_22 rfl (lv_at hl 3 rfl) ?_
                refine lv_iload_n hx hb dJ6_stringSize_0f7a4_23 rfl (lv_at hl 1 rfl) ?_
                refine lv_icmp_le (tgt := 31) hx hb dJ6_stringSize_0f7a4_24 (by decide) (fun c0 => ?_) (fun c0 => ?_)
                · clear c0
                  refine lv_bipush (v := 10) hx hb dJ6_stringSize_0f7a4_31 (by decide) ?_
                  refine lv_iload_n hx hb dJ6_stringSize_0f7a4_33 rfl (lv_at hl 1 rfl) ?_
                  refine lv_imul hx hb dJ6_stringSize_0f7a4_34 ?_
                  refine lv_topi (fun v3 e_v3 => ?_)
                  have e9 : v3 = (-10000) := e_v3.trans (by decide)
                  subst e9
                  refine lv_istore_n (lv' := [(2, .int (-10000)), (3, .int 3), (1, .int 1), (0, .int (-(nI w)))]) hx hb dJ6_stringSize_0f7a4_35 rfl hl (by decide) rfl (fun ls hl => ?_)
                  refine lv_iinc (v := 4) (lv' := [(3, .int 4), (2, .int (-10000)), (1, .int 1), (0, .int (-(nI w)))]) hx hb dJ6_stringSize_0f7a4_36 hl (k := 1) rfl rfl (by decide) rfl (fun ls hl => ?_)
                  refine lv_goto (tgt := 16) hx hb dJ6_stringSize_0f7a4_39 (by decide) ?_
                  refine lv_iload_n hx hb dJ6_stringSize_0f7a4_16 rfl (lv_at hl 0 rfl) ?_
                  refine lv_bipush (v := 10) hx hb dJ6_stringSize_0f7a4_17 (by decide) ?_
                  refine lv_icmp_ge (tgt := 42) hx hb dJ6_stringSize_0f7a4_19 (by decide) (fun c0 => ?_) (fun c0 => ?_)
                  · exact absurd c0 (by decide)
                  · clear c0
                    refine lv_iload_n hx hb dJ6_stringSize_0f7a4_22 rfl (lv_at hl 3 rfl) ?_
                    refine lv_iload_n hx hb dJ6_stringSize_0f7a4_23 rfl (lv_at hl 1 rfl) ?_
                    refine lv_icmp_le (tgt := 31) hx hb dJ6_stringSize_0f7a4_24 (by decide) (fun c0 => ?_) (fun c0 => ?_)
                    · exact absurd c0 (sg_nle (c := 10000) hb9 (by decide))
                    · clear c0
                      refine lv_iload_n hx hb dJ6_stringSize_0f7a4_27 rfl (lv_at hl 0 rfl) ?_
                      refine lv_iload_n hx hb dJ6_stringSize_0f7a4_28 rfl (lv_at hl 2 rfl) ?_
                      refine lv_iadd hx hb dJ6_stringSize_0f7a4_29 ?_
                      refine lv_topi (fun v4 e_v4 => ?_)
                      have e9 : v4 = 5 := e_v4.trans (by decide)
                      subst e9
                      exact W.iret (v := 5) hx hb hr (fun t ht hW => ⟨⟨5, (), rfl, (by rw [hdl]; rfl), ht⟩, hS.F ht⟩) hS.2.2 dJ6_stringSize_0f7a4_30
                · exact absurd (sg_le (c := 1000) (by omega) (by omega)) c0
            · exact absurd (sg_le (c := 100) (by omega) (by omega)) c0
        · exact absurd (sg_le (c := 10) (by omega) (by omega)) c0
    · exact absurd (sg_neg (by omega) (by omega)) c0
set_option maxHeartbeats 4000000 in
set_option maxRecDepth 100000 in
theorem cJ_chars (l : Launch) (dC : Nat → ClassId) (dI : Nat → Nat → Nat) (cT : Nat → ClassId) {Hh : Heap} {neg : Bool} {w n cap a_v : Nat} {f : Nat → Int32} (hw : w < 10000) (hn : neg = true → 0 < w) (hq : n + (dl neg w).length ≤ cap) (hcap : CAP cap) (hff : BF f) {XW : va_W} (eX : XW = [(a_v, .inl (cT 6, cap, .inl f))]) (hP0 : va_P (dC, dI) vwCl XW Hh) (hD0 : va_D (fun _ => True) XW) : Met l yJ6_getChars_ba4f3 (wA yJ6_getChars_ba4f3 cJ6_getChars_ba4f3 7 (some .int)) ({ frames := 0, cells := 0, slots := 0, locals := 0 } : Room) (PJ dC dI cT [.int (SG neg w), .int (nI (n + (dl neg w).length)), .ref a_v] Hh (va_A XW Hh.size)) (va_Qi (S := Nat → Int32) (fun _ g => GD n 0 (dl neg w) f g) (fun g t => va_P (dC, dI) vwCl [(a_v, .inl (cT 6, cap, .inl g))] t.heap ∧ va_D (va_A XW Hh.size) [(a_v, .inl (cT 6, cap, .inl g))]) (va_A XW Hh.size)) 0 0 (va_A XW Hh.size) := by
  subst eX
  refine MofWF (cc := cJ6_getChars_ba4f3) (maxL := 7) (ret := (some .int)) (by decide +kernel) rfl ?_
  intro p e s m args below meth c s₁ B hml hv
  obtain ⟨rfl, hH, hK, hZ⟩ := hv
  subst hH
  have hx := B.exec
  have hb := B.bytes
  have hr := B.returns
  have hta : ∀ w9 ∈ ALLW, w9.before [.int (SG neg w), .int (nI (n + (dl neg w).length)), .ref a_v].toArray s = true := fun w9 hw9 => atoms_spec (ws := wA yJ6_getChars_ba4f3 cJ6_getChars_ba4f3 7 (some .int)) B.pre w9 (List.mem_cons_of_mem _ hw9)
  have hown : s.vm.findClass RJ6 = some m.cls := findClass_of_methodNamed B.named
  have hlocks := B.notSynchronized
  have hin : meth.name = "getChars" := (name_of_methodNamed B.named B.method).1
  have hD := hD0.self (sz := s.heap.size)
  have hP := hP0
  generalize hAe : va_A [(a_v, .inl (cT 6, cap, .inl f))] s.heap.size = A at hD hZ ⊢
  have hA : ∀ q : Nat, s.heap.size ≤ q → A q := fun q h => by rw [← hAe]; exact Or.inr h
  have hS : va_S A s.heap s.heap [] := va_S.rf
  have hl := lv_entry [.int (SG neg w), .int (nI (n + (dl neg w).length)), .ref a_v] (n := 7) (Nat.le_of_ble_eq_true rfl)
  rw [lg_entry_eq]
  generalize (lg_sl [.int (SG neg w), .int (nI (n + (dl neg w).length)), .ref a_v] ++ List.replicate (7 - (lg_sl [.int (SG neg w), .int (nI (n + (dl neg w).length)), .ref a_v]).length) Slot.unset).toArray = ls at hl ⊢
  have hl : lv_has ls 7 [(0, .int (SG neg w)), (1, .int (nI (n + (dl neg w).length))), (2, .ref a_v)] := hl
  obtain ⟨t1, hO1, hO2⟩ := hZ.2.1
  obtain ⟨t10, hT1, hT2⟩ := hZ.2.2.1
  rcases dl_cases hw hn with h9 | h9 | h9 | h9 | h9 | h9 | h9 | h9
  · obtain ⟨rfl, ha, hb9⟩ := h9
    have hdl := dl_0_1 ha hb9
    have hl : lv_has ls 7 [(0, .int (nI w)), (1, .int (nI (n + 1))), (2, .ref a_v)] := by rw [hdl] at hl; exact hl
    have hq9 : n + 1 ≤ cap := by rw [hdl] at hq; exact hq
    have h70 := hcap.le
    refine lv_iload_n hx hb dJ6_getChars_ba4f3_0 rfl (lv_at hl 1 rfl) ?_
    refine lv_istore (lv' := [(5, .int (nI (n + 1))), (0, .int (nI w)), (1, .int (nI (n + 1))), (2, .ref a_v)]) hx hb dJ6_getChars_ba4f3_1 hl (by decide) rfl (fun ls hl => ?_)
    refine lv_iload_n hx hb dJ6_getChars_ba4f3_3 rfl (lv_at hl 1 rfl) ?_
    refine lv_if_ge (tgt := 11) hx hb dJ6_getChars_ba4f3_4 (by decide) (fun c0 => ?_) (fun c0 => ?_)
    · clear c0
      refine lv_iconst (v := 0) hx hb dJ6_getChars_ba4f3_11 (by decide) ?_
      refine lv_istore (lv' := [(6, .int 0), (5, .int (nI (n + 1))), (0, .int (nI w)), (1, .int (nI (n + 1))), (2, .ref a_v)]) hx hb dJ6_getChars_ba4f3_12 hl (by decide) rfl (fun ls hl => ?_)
      refine lv_iload hx hb dJ6_getChars_ba4f3_14 (lv_at hl 0 rfl) ?_
      refine lv_if_ne (tgt := 22) hx hb dJ6_getChars_ba4f3_16 (by decide) (fun c0 => ?_) (fun c0 => ?_)
      · exact absurd (rfl) c0
      · clear c0
        refine lv_iload_n hx hb dJ6_getChars_ba4f3_19 rfl (lv_at hl 2 rfl) ?_
        refine lv_ineg hx hb dJ6_getChars_ba4f3_20 ?_
        refine lv_istore_n (lv' := [(0, .int (-(nI w))), (6, .int 0), (5, .int (nI (n + 1))), (1, .int (nI (n + 1))), (2, .ref a_v)]) hx hb dJ6_getChars_ba4f3_21 rfl hl (by decide) rfl (fun ls hl => ?_)
        refine lv_iload_n hx hb dJ6_getChars_ba4f3_22 rfl (lv_at hl 0 rfl) ?_
        refine lv_bipush (v := -100) hx hb dJ6_getChars_ba4f3_23 (by decide) ?_
        refine lv_icmp_gt (tgt := 72) hx hb dJ6_getChars_ba4f3_25 (by decide) (fun c0 => ?_) (fun c0 => ?_)
        · clear c0
          refine lv_aload_n hx hb dJ6_getChars_ba4f3_72 rfl (lv_at hl 4 rfl) ?_
          refine lv_iinc (v := (nI (n + 0))) (lv' := [(5, .int (nI (n + 0))), (0, .int (-(nI w))), (6, .int 0), (1, .int (nI (n + 1))), (2, .ref a_v)]) hx hb dJ6_getChars_ba4f3_73 hl (k := 2) rfl (iinc_m1 _) (by decide) rfl (fun ls hl => ?_)
          refine lv_iload hx hb dJ6_getChars_ba4f3_76 (lv_at hl 0 rfl) ?_
          refine va_gets hx hb hO1 hS hown (hta _ lk_J6_83) (fun _ h9 => h9) dJ6_getChars_ba4f3_78 ?_
          refine lv_iload_n hx hb dJ6_getChars_ba4f3_81 rfl (lv_at hl 1 rfl) ?_
          refine lv_ineg hx hb dJ6_getChars_ba4f3_82 ?_
          refine lv_topi (fun v1 e_v1 => ?_)
          have e9 : v1 = (nI w) := e_v1.trans (Int32.neg_neg)
          subst e9
          refine va_tb hx hb hO2 hS (vp_in_nI (by omega) (by decide)) (do_at (by omega)) dJ6_getChars_ba4f3_83 ?_
          refine va_bast hx hb hK hP hD hS 0 6 rfl rfl (vp_in_nI (by omega) (by omega)) dJ6_getChars_ba4f3_84 (fun H locs hP hD hS => ?_)
          have hP : va_P (dC, dI) vwCl [(a_v, .inl (cT 6, cap, .inl (upd f (nI (n + 0)).toNatClampNeg (vp_nar .byte (nI (48 + w % 10))))))] H := hP
          have hD : va_D A [(a_v, .inl (cT 6, cap, .inl (upd f (nI (n + 0)).toNatClampNeg (vp_nar .byte (nI (48 + w % 10))))))] := hD
          refine lv_iload_n hx hb dJ6_getChars_ba4f3_85 rfl (lv_at hl 1 rfl) ?_
          refine lv_bipush (v := -9) hx hb dJ6_getChars_ba4f3_86 (by decide) ?_
          refine lv_icmp_ge (tgt := 104) hx hb dJ6_getChars_ba4f3_88 (by decide) (fun c0 => ?_) (fun c0 => ?_)
          · clear c0
            refine lv_iload hx hb dJ6_getChars_ba4f3_104 (lv_at hl 2 rfl) ?_
            refine lv_if_eq (tgt := 118) hx hb dJ6_getChars_ba4f3_106 (by decide) (fun c0 => ?_) (fun c0 => ?_)
            · clear c0
              refine lv_iload hx hb dJ6_getChars_ba4f3_118 (lv_at hl 0 rfl) ?_
              have hg : GD n 0 (dl false w) f (upd f (nI (n + 0)).toNatClampNeg (vp_nar .byte (nI (48 + w % 10)))) := by rw [hdl]; exact (gc_step (k := 0) (c := 48 + w % 10) (gd_0 hff (Nat.le_refl _)) (Nat.le_of_ble_eq_true rfl) rfl (by omega) (by omega))
              exact W.iret (v := (nI (n + 0))) hx hb hr (fun t ht hW => ⟨⟨(nI (n + 0)), (upd f (nI (n + 0)).toNatClampNeg (vp_nar .byte (nI (48 + w % 10)))), rfl, hg, by rw [ht]; exact hP, hD⟩, hS.F ht⟩) hS.2.2 dJ6_getChars_ba4f3_120
            · exact absurd (rfl) c0
          · exact absurd ((sb_nle (a := 9) (b := w) (by omega) (by omega)).mpr (by omega)) c0
        · exact absurd (sg_lt (c := 100) (by omega) (by decide)) c0
    · exact absurd (nI_pos' (by omega)) c0
  · obtain ⟨rfl, ha, hb9⟩ := h9
    have hdl := dl_0_2 ha hb9
    have hl : lv_has ls 7 [(0, .int (nI w)), (1, .int (nI (n + 2))), (2, .ref a_v)] := by rw [hdl] at hl; exact hl
    have hq9 : n + 2 ≤ cap := by rw [hdl] at hq; exact hq
    have h70 := hcap.le
    refine lv_iload_n hx hb dJ6_getChars_ba4f3_0 rfl (lv_at hl 1 rfl) ?_
    refine lv_istore (lv' := [(5, .int (nI (n + 2))), (0, .int (nI w)), (1, .int (nI (n + 2))), (2, .ref a_v)]) hx hb dJ6_getChars_ba4f3_1 hl (by decide) rfl (fun ls hl => ?_)
    refine lv_iload_n hx hb dJ6_getChars_ba4f3_3 rfl (lv_at hl 1 rfl) ?_
    refine lv_if_ge (tgt := 11) hx hb dJ6_getChars_ba4f3_4 (by decide) (fun c0 => ?_) (fun c0 => ?_)
    · clear c0
      refine lv_iconst (v := 0) hx hb dJ6_getChars_ba4f3_11 (by decide) ?_
      refine lv_istore (lv' := [(6, .int 0), (5, .int (nI (n + 2))), (0, .int (nI w)), (1, .int (nI (n + 2))), (2, .ref a_v)]) hx hb dJ6_getChars_ba4f3_12 hl (by decide) rfl (fun ls hl => ?_)
      refine lv_iload hx hb dJ6_getChars_ba4f3_14 (lv_at hl 0 rfl) ?_
      refine lv_if_ne (tgt := 22) hx hb dJ6_getChars_ba4f3_16 (by decide) (fun c0 => ?_) (fun c0 => ?_)
      · exact absurd (rfl) c0
      · clear c0
        refine lv_iload_n hx hb dJ6_getChars_ba4f3_19 rfl (lv_at hl 2 rfl) ?_
        refine lv_ineg hx hb dJ6_getChars_ba4f3_20 ?_
        refine lv_istore_n (lv' := [(0, .int (-(nI w))), (6, .int 0), (5, .int (nI (n + 2))), (1, .int (nI (n + 2))), (2, .ref a_v)]) hx hb dJ6_getChars_ba4f3_21 rfl hl (by decide) rfl (fun ls hl => ?_)
        refine lv_iload_n hx hb dJ6_getChars_ba4f3_22 rfl (lv_at hl 0 rfl) ?_
        refine lv_bipush (v := -100) hx hb dJ6_getChars_ba4f3_23 (by decide) ?_
        refine lv_icmp_gt (tgt := 72) hx hb dJ6_getChars_ba4f3_25 (by decide) (fun c0 => ?_) (fun c0 => ?_)
        · clear c0
          refine lv_aload_n hx hb dJ6_getChars_ba4f3_72 rfl (lv_at hl 4 rfl) ?_
          refine lv_iinc (v := (nI (n + 1))) (lv' := [(5, .int (nI (n + 1))), (0, .int (-(nI w))), (6, .int 0), (1, .int (nI (n + 2))), (2, .ref a_v)]) hx hb dJ6_getChars_ba4f3_73 hl (k := 2) rfl (iinc_m1 _) (by decide) rfl (fun ls hl => ?_)
          refine lv_iload hx hb dJ6_getChars_ba4f3_76 (lv_at hl 0 rfl) ?_
          refine va_gets hx hb hO1 hS hown (hta _ lk_J6_83) (fun _ h9 => h9) dJ6_getChars_ba4f3_78 ?_
          refine lv_iload_n hx hb dJ6_getChars_ba4f3_81 rfl (lv_at hl 1 rfl) ?_
          refine lv_ineg hx hb dJ6_getChars_ba4f3_82 ?_
          refine lv_topi (fun v1 e_v1 => ?_)
          have e9 : v1 = (nI w) := e_v1.trans (Int32.neg_neg)
          subst e9
          refine va_tb hx hb hO2 hS (vp_in_nI (by omega) (by decide)) (do_at (by omega)) dJ6_getChars_ba4f3_83 ?_
          refine va_bast hx hb hK hP hD hS 0 6 rfl rfl (vp_in_nI (by omega) (by omega)) dJ6_getChars_ba4f3_84 (fun H locs hP hD hS => ?_)
          have hP : va_P (dC, dI) vwCl [(a_v, .inl (cT 6, cap, .inl (upd f (nI (n + 1)).toNatClampNeg (vp_nar .byte (nI (48 + w % 10))))))] H := hP
          have hD : va_D A [(a_v, .inl (cT 6, cap, .inl (upd f (nI (n + 1)).toNatClampNeg (vp_nar .byte (nI (48 + w % 10))))))] := hD
          refine lv_iload_n hx hb dJ6_getChars_ba4f3_85 rfl (lv_at hl 1 rfl) ?_
          refine lv_bipush (v := -9) hx hb dJ6_getChars_ba4f3_86 (by decide) ?_
          refine lv_icmp_ge (tgt := 104) hx hb dJ6_getChars_ba4f3_88 (by decide) (fun c0 => ?_) (fun c0 => ?_)
          · exact absurd c0 (fun h8 => absurd ((sb_nle (a := 9) (b := w) (by omega) (by omega)).mp h8) (by omega))
          · clear c0
            refine lv_aload_n hx hb dJ6_getChars_ba4f3_91 rfl (lv_at hl 4 rfl) ?_
            refine lv_iinc (v := (nI (n + 0))) (lv' := [(5, .int (nI (n + 0))), (0, .int (-(nI w))), (6, .int 0), (1, .int (nI (n + 2))), (2, .ref a_v)]) hx hb dJ6_getChars_ba4f3_92 hl (k := 0) rfl (iinc_m1 _) (by decide) rfl (fun ls hl => ?_)
            refine lv_iload hx hb dJ6_getChars_ba4f3_95 (lv_at hl 0 rfl) ?_
            refine va_gets hx hb hT1 hS hown (hta _ lk_J6_87) (fun _ h9 => h9) dJ6_getChars_ba4f3_97 ?_
            refine lv_iload_n hx hb dJ6_getChars_ba4f3_100 rfl (lv_at hl 1 rfl) ?_
            refine lv_ineg hx hb dJ6_getChars_ba4f3_101 ?_
            refine lv_topi (fun v2 e_v2 => ?_)
            have e9 : v2 = (nI w) := e_v2.trans (Int32.neg_neg)
            subst e9
            refine va_tb hx hb hT2 hS (vp_in_nI (by omega) (by decide)) (dt_at (by omega)) dJ6_getChars_ba4f3_102 ?_
            refine va_bast hx hb hK hP hD hS 0 6 rfl rfl (vp_in_nI (by omega) (by omega)) dJ6_getChars_ba4f3_103 (fun H locs hP hD hS => ?_)
            have hP : va_P (dC, dI) vwCl [(a_v, .inl (cT 6, cap, .inl (upd (upd f (nI (n + 1)).toNatClampNeg (vp_nar .byte (nI (48 + w % 10)))) (nI (n + 0)).toNatClampNeg (vp_nar .byte (nI (48 + w / 10))))))] H := hP
            have hD : va_D A [(a_v, .inl (cT 6, cap, .inl (upd (upd f (nI (n + 1)).toNatClampNeg (vp_nar .byte (nI (48 + w % 10)))) (nI (n + 0)).toNatClampNeg (vp_nar .byte (nI (48 + w / 10))))))] := hD
            refine lv_iload hx hb dJ6_getChars_ba4f3_104 (lv_at hl 2 rfl) ?_
            refine lv_if_eq (tgt := 118) hx hb dJ6_getChars_ba4f3_106 (by decide) (fun c0 => ?_) (fun c0 => ?_)
            · clear c0
              refine lv_iload hx hb dJ6_getChars_ba4f3_118 (lv_at hl 0 rfl) ?_
              have hg : GD n 0 (dl false w) f (upd (upd f (nI (n + 1)).toNatClampNeg (vp_nar .byte (nI (48 + w % 10)))) (nI (n + 0)).toNatClampNeg (vp_nar .byte (nI (48 + w / 10)))) := by rw [hdl]; exact (gc_step (k := 0) (c := 48 + w / 10) (gc_step (k := 1) (c := 48 + w % 10) (gd_0 hff (Nat.le_refl _)) (Nat.le_of_ble_eq_true rfl) rfl (by omega) (by omega)) (Nat.le_of_ble_eq_true rfl) rfl (by omega) (by omega))
              exact W.iret (v := (nI (n + 0))) hx hb hr (fun t ht hW => ⟨⟨(nI (n + 0)), (upd (upd f (nI (n + 1)).toNatClampNeg (vp_nar .byte (nI (48 + w % 10)))) (nI (n + 0)).toNatClampNeg (vp_nar .byte (nI (48 + w / 10)))), rfl, hg, by rw [ht]; exact hP, hD⟩, hS.F ht⟩) hS.2.2 dJ6_getChars_ba4f3_120
            · exact absurd (rfl) c0
        · exact absurd (sg_lt (c := 100) (by omega) (by decide)) c0
    · exact absurd (nI_pos' (by omega)) c0
  · obtain ⟨rfl, ha, hb9⟩ := h9
    have hdl := dl_0_3 ha hb9
    have hl : lv_has ls 7 [(0, .int (nI w)), (1, .int (nI (n + 3))), (2, .ref a_v)] := by rw [hdl] at hl; exact hl
    have hq9 : n + 3 ≤ cap := by rw [hdl] at hq; exact hq
    have h70 := hcap.le
    refine lv_iload_n hx hb dJ6_getChars_ba4f3_0 rfl (lv_at hl 1 rfl) ?_
    refine lv_istore (lv' := [(5, .int (nI (n + 3))), (0, .int (nI w)), (1, .int (nI (n + 3))), (2, .ref a_v)]) hx hb dJ6_getChars_ba4f3_1 hl (by decide) rfl (fun ls hl => ?_)
    refine lv_iload_n hx hb dJ6_getChars_ba4f3_3 rfl (lv_at hl 1 rfl) ?_
    refine lv_if_ge (tgt := 11) hx hb dJ6_getChars_ba4f3_4 (by decide) (fun c0 => ?_) (fun c0 => ?_)
    · clear c0
      refine lv_iconst (v := 0) hx hb dJ6_getChars_ba4f3_11 (by decide) ?_
      refine lv_istore (lv' := [(6, .int 0), (5, .int (nI (n + 3))), (0, .int (nI w)), (1, .int (nI (n + 3))), (2, .ref a_v)]) hx hb dJ6_getChars_ba4f3_12 hl (by decide) rfl (fun ls hl => ?_)
      refine lv_iload hx hb dJ6_getChars_ba4f3_14 (lv_at hl 0 rfl) ?_
      refine lv_if_ne (tgt := 22) hx hb dJ6_getChars_ba4f3_16 (by decide) (fun c0 => ?_) (fun c0 => ?_)
      · exact absurd (rfl) c0
      · clear c0
        refine lv_iload_n hx hb dJ6_getChars_ba4f3_19 rfl (lv_at hl 2 rfl) ?_
        refine lv_ineg hx hb dJ6_getChars_ba4f3_20 ?_
        refine lv_istore_n (lv' := [(0, .int (-(nI w))), (6, .int 0), (5, .int (nI (n + 3))), (1, .int (nI (n + 3))), (2, .ref a_v)]) hx hb dJ6_getChars_ba4f3_21 rfl hl (by decide) rfl (fun ls hl => ?_)
        refine lv_iload_n hx hb dJ6_getChars_ba4f3_22 rfl (lv_at hl 0 rfl) ?_
        refine lv_bipush (v := -100) hx hb dJ6_getChars_ba4f3_23 (by decide) ?_
        refine lv_icmp_gt (tgt := 72) hx hb dJ6_getChars_ba4f3_25 (by decide) (fun c0 => ?_) (fun c0 => ?_)
        · exact absurd c0 (sg_nlt (c := 100) (by omega) (by omega))
        · clear c0
          refine lv_iload_n hx hb dJ6_getChars_ba4f3_28 rfl (lv_at hl 0 rfl) ?_
          refine lv_bipush (v := 100) hx hb dJ6_getChars_ba4f3_29 (by decide) ?_
          refine lv_idiv hx hb dJ6_getChars_ba4f3_31 (by decide) ?_
          refine lv_topi (fun v1 e_v1 => ?_)
          have e9 : v1 = (-(nI (w / 100))) := e_v1.trans (sb_ndiv (by omega))
          subst e9
          refine lv_istore_n (lv' := [(3, .int (-(nI (w / 100)))), (0, .int (-(nI w))), (6, .int 0), (5, .int (nI (n + 3))), (1, .int (nI (n + 3))), (2, .ref a_v)]) hx hb dJ6_getChars_ba4f3_32 rfl hl (by decide) rfl (fun ls hl => ?_)
          refine lv_iload_n hx hb dJ6_getChars_ba4f3_33 rfl (lv_at hl 0 rfl) ?_
          refine lv_bipush (v := 100) hx hb dJ6_getChars_ba4f3_34 (by decide) ?_
          refine lv_imul hx hb dJ6_getChars_ba4f3_36 ?_
          refine lv_iload_n hx hb dJ6_getChars_ba4f3_37 rfl (lv_at hl 1 rfl) ?_
          refine lv_isub hx hb dJ6_getChars_ba4f3_38 ?_
          refine lv_topi (fun v2 e_v2 => ?_)
          have e9 : v2 = (nI (w % 100)) := e_v2.trans (sb_nrem (by omega))
          subst e9
          refine lv_istore (lv' := [(4, .int (nI (w % 100))), (3, .int (-(nI (w / 100)))), (0, .int (-(nI w))), (6, .int 0), (5, .int (nI (n + 3))), (1, .int (nI (n + 3))), (2, .ref a_v)]) hx hb dJ6_getChars_ba4f3_39 hl (by decide) rfl (fun ls hl => ?_)
          refine lv_iload_n hx hb dJ6_getChars_ba4f3_41 rfl (lv_at hl 1 rfl) ?_
          refine lv_istore_n (lv' := [(0, .int (-(nI (w / 100)))), (4, .int (nI (w % 100))), (3, .int (-(nI (w / 100)))), (6, .int 0), (5, .int (nI (n + 3))), (1, .int (nI (n + 3))), (2, .ref a_v)]) hx hb dJ6_getChars_ba4f3_42 rfl hl (by decide) rfl (fun ls hl => ?_)
          refine lv_aload_n hx hb dJ6_getChars_ba4f3_43 rfl (lv_at hl 6 rfl) ?_
          refine lv_iinc (v := (nI (n + 2))) (lv' := [(5, .int (nI (n + 2))), (0, .int (-(nI (w / 100)))), (4, .int (nI (w % 100))), (3, .int (-(nI (w / 100)))), (6, .int 0), (1, .int (nI (n + 3))), (2, .ref a_v)]) hx hb dJ6_getChars_ba4f3_44 hl (k := 4) rfl (iinc_m1 _) (by decide) rfl (fun ls hl => ?_)
          refine lv_iload hx hb dJ6_getChars_ba4f3_47 (lv_at hl 0 rfl) ?_
          refine va_gets hx hb hO1 hS hown (hta _ lk_J6_83) (fun _ h9 => h9) dJ6_getChars_ba4f3_49 ?_
          refine lv_iload hx hb dJ6_getChars_ba4f3_52 (lv_at hl 2 rfl) ?_
          refine va_tb hx hb hO2 hS (vp_in_nI (by omega) (by decide)) (do_at (by omega)) dJ6_getChars_ba4f3_54 ?_
          refine va_bast hx hb hK hP hD hS 0 6 rfl rfl (vp_in_nI (by omega) (by omega)) dJ6_getChars_ba4f3_55 (fun H locs hP hD hS => ?_)
          have hP : va_P (dC, dI) vwCl [(a_v, .inl (cT 6, cap, .inl (upd f (nI (n + 2)).toNatClampNeg (vp_nar .byte (nI (48 + (w % 100) % 10))))))] H := hP
          have hD : va_D A [(a_v, .inl (cT 6, cap, .inl (upd f (nI (n + 2)).toNatClampNeg (vp_nar .byte (nI (48 + (w % 100) % 10))))))] := hD
          refine lv_aload_n hx hb dJ6_getChars_ba4f3_56 rfl (lv_at hl 6 rfl) ?_
          refine lv_iinc (v := (nI (n + 1))) (lv' := [(5, .int (nI (n + 1))), (0, .int (-(nI (w / 100)))), (4, .int (nI (w % 100))), (3, .int (-(nI (w / 100)))), (6, .int 0), (1, .int (nI (n + 3))), (2, .ref a_v)]) hx hb dJ6_getChars_ba4f3_57 hl (k := 0) rfl (iinc_m1 _) (by decide) rfl (fun ls hl => ?_)
          refine lv_iload hx hb dJ6_getChars_ba4f3_60 (lv_at hl 0 rfl) ?_
          refine va_gets hx hb hT1 hS hown (hta _ lk_J6_87) (fun _ h9 => h9) dJ6_getChars_ba4f3_62 ?_
          refine lv_iload hx hb dJ6_getChars_ba4f3_65 (lv_at hl 2 rfl) ?_
          refine va_tb hx hb hT2 hS (vp_in_nI (by omega) (by decide)) (dt_at (by omega)) dJ6_getChars_ba4f3_67 ?_
          refine va_bast hx hb hK hP hD hS 0 6 rfl rfl (vp_in_nI (by omega) (by omega)) dJ6_getChars_ba4f3_68 (fun H locs hP hD hS => ?_)
          have hP : va_P (dC, dI) vwCl [(a_v, .inl (cT 6, cap, .inl (upd (upd f (nI (n + 2)).toNatClampNeg (vp_nar .byte (nI (48 + (w % 100) % 10)))) (nI (n + 1)).toNatClampNeg (vp_nar .byte (nI (48 + (w % 100) / 10))))))] H := hP
          have hD : va_D A [(a_v, .inl (cT 6, cap, .inl (upd (upd f (nI (n + 2)).toNatClampNeg (vp_nar .byte (nI (48 + (w % 100) % 10)))) (nI (n + 1)).toNatClampNeg (vp_nar .byte (nI (48 + (w % 100) / 10))))))] := hD
          refine lv_goto (tgt := 22) hx hb dJ6_getChars_ba4f3_69 (by decide) ?_
          refine lv_iload_n hx hb dJ6_getChars_ba4f3_22 rfl (lv_at hl 1 rfl) ?_
          refine lv_bipush (v := -100) hx hb dJ6_getChars_ba4f3_23 (by decide) ?_
          refine lv_icmp_gt (tgt := 72) hx hb dJ6_getChars_ba4f3_25 (by decide) (fun c0 => ?_) (fun c0 => ?_)
          · clear c0
            refine lv_aload_n hx hb dJ6_getChars_ba4f3_72 rfl (lv_at hl 6 rfl) ?_
            refine lv_iinc (v := (nI (n + 0))) (lv' := [(5, .int (nI (n + 0))), (0, .int (-(nI (w / 100)))), (4, .int (nI (w % 100))), (3, .int (-(nI (w / 100)))), (6, .int 0), (1, .int (nI (n + 3))), (2, .ref a_v)]) hx hb dJ6_getChars_ba4f3_73 hl (k := 0) rfl (iinc_m1 _) (by decide) rfl (fun ls hl => ?_)
            refine lv_iload hx hb dJ6_getChars_ba4f3_76 (lv_at hl 0 rfl) ?_
            refine va_gets hx hb hO1 hS hown (hta _ lk_J6_83) (fun _ h9 => h9) dJ6_getChars_ba4f3_78 ?_
            refine lv_iload_n hx hb dJ6_getChars_ba4f3_81 rfl (lv_at hl 1 rfl) ?_
            refine lv_ineg hx hb dJ6_getChars_ba4f3_82 ?_
            refine lv_topi (fun v3 e_v3 => ?_)
            have e9 : v3 = (nI (w / 100)) := e_v3.trans (Int32.neg_neg)
            subst e9
            refine va_tb hx hb hO2 hS (vp_in_nI (by omega) (by decide)) (do_at (by omega)) dJ6_getChars_ba4f3_83 ?_
            refine va_bast hx hb hK hP hD hS 0 6 rfl rfl (vp_in_nI (by omega) (by omega)) dJ6_getChars_ba4f3_84 (fun H locs hP hD hS => ?_)
            have hP : va_P (dC, dI) vwCl [(a_v, .inl (cT 6, cap, .inl (upd (upd (upd f (nI (n + 2)).toNatClampNeg (vp_nar .byte (nI (48 + (w % 100) % 10)))) (nI (n + 1)).toNatClampNeg (vp_nar .byte (nI (48 + (w % 100) / 10)))) (nI (n + 0)).toNatClampNeg (vp_nar .byte (nI (48 + (w / 100) % 10))))))] H := hP
            have hD : va_D A [(a_v, .inl (cT 6, cap, .inl (upd (upd (upd f (nI (n + 2)).toNatClampNeg (vp_nar .byte (nI (48 + (w % 100) % 10)))) (nI (n + 1)).toNatClampNeg (vp_nar .byte (nI (48 + (w % 100) / 10)))) (nI (n + 0)).toNatClampNeg (vp_nar .byte (nI (48 + (w / 100) % 10))))))] := hD
            refine lv_iload_n hx hb dJ6_getChars_ba4f3_85 rfl (lv_at hl 1 rfl) ?_
            refine lv_bipush (v := -9) hx hb dJ6_getChars_ba4f3_86 (by decide) ?_
            refine lv_icmp_ge (tgt := 104) hx hb dJ6_getChars_ba4f3_88 (by decide) (fun c0 => ?_) (fun c0 => ?_)
            · clear c0
              refine lv_iload hx hb dJ6_getChars_ba4f3_104 (lv_at hl 4 rfl) ?_
              refine lv_if_eq (tgt := 118) hx hb dJ6_getChars_ba4f3_106 (by decide) (fun c0 => ?_) (fun c0 => ?_)
              · clear c0
                refine lv_iload hx hb dJ6_getChars_ba4f3_118 (lv_at hl 0 rfl) ?_
                have hg : GD n 0 (dl false w) f (upd (upd (upd f (nI (n + 2)).toNatClampNeg (vp_nar .byte (nI (48 + (w % 100) % 10)))) (nI (n + 1)).toNatClampNeg (vp_nar .byte (nI (48 + (w % 100) / 10)))) (nI (n + 0)).toNatClampNeg (vp_nar .byte (nI (48 + (w / 100) % 10)))) := by rw [hdl]; exact (gc_step (k := 0) (c := 48 + (w / 100) % 10) (gc_step (k := 1) (c := 48 + (w % 100) / 10) (gc_step (k := 2) (c := 48 + (w % 100) % 10) (gd_0 hff (Nat.le_refl _)) (Nat.le_of_ble_eq_true rfl) rfl (by omega) (by omega)) (Nat.le_of_ble_eq_true rfl) rfl (by omega) (by omega)) (Nat.le_of_ble_eq_true rfl) rfl (by omega) (by omega))
                exact W.iret (v := (nI (n + 0))) hx hb hr (fun t ht hW => ⟨⟨(nI (n + 0)), (upd (upd (upd f (nI (n + 2)).toNatClampNeg (vp_nar .byte (nI (48 + (w % 100) % 10)))) (nI (n + 1)).toNatClampNeg (vp_nar .byte (nI (48 + (w % 100) / 10)))) (nI (n + 0)).toNatClampNeg (vp_nar .byte (nI (48 + (w / 100) % 10)))), rfl, hg, by rw [ht]; exact hP, hD⟩, hS.F ht⟩) hS.2.2 dJ6_getChars_ba4f3_120
              · exact absurd (rfl) c0
            · exact absurd ((sb_nle (a := 9) (b := w / 100) (by omega) (by omega)).mpr (by omega)) c0
          · exact absurd (sg_lt (c := 100) (by omega) (by decide)) c0
    · exact absurd (nI_pos' (by omega)) c0
  · obtain ⟨rfl, ha, hb9⟩ := h9
    have hdl := dl_0_4 ha hb9
    have hl : lv_has ls 7 [(0, .int (nI w)), (1, .int (nI (n + 4))), (2, .ref a_v)] := by rw [hdl] at hl; exact hl
    have hq9 : n + 4 ≤ cap := by rw [hdl] at hq; exact hq
    have h70 := hcap.le
    refine lv_iload_n hx hb dJ6_getChars_ba4f3_0 rfl (lv_at hl 1 rfl) ?_
    refine lv_istore (lv' := [(5, .int (nI (n + 4))), (0, .int (nI w)), (1, .int (nI (n + 4))), (2, .ref a_v)]) hx hb dJ6_getChars_ba4f3_1 hl (by decide) rfl (fun ls hl => ?_)
    refine lv_iload_n hx hb dJ6_getChars_ba4f3_3 rfl (lv_at hl 1 rfl) ?_
    refine lv_if_ge (tgt := 11) hx hb dJ6_getChars_ba4f3_4 (by decide) (fun c0 => ?_) (fun c0 => ?_)
    · clear c0
      refine lv_iconst (v := 0) hx hb dJ6_getChars_ba4f3_11 (by decide) ?_
      refine lv_istore (lv' := [(6, .int 0), (5, .int (nI (n + 4))), (0, .int (nI w)), (1, .int (nI (n + 4))), (2, .ref a_v)]) hx hb dJ6_getChars_ba4f3_12 hl (by decide) rfl (fun ls hl => ?_)
      refine lv_iload hx hb dJ6_getChars_ba4f3_14 (lv_at hl 0 rfl) ?_
      refine lv_if_ne (tgt := 22) hx hb dJ6_getChars_ba4f3_16 (by decide) (fun c0 => ?_) (fun c0 => ?_)
      · exact absurd (rfl) c0
      · clear c0
        refine lv_iload_n hx hb dJ6_getChars_ba4f3_19 rfl (lv_at hl 2 rfl) ?_
        refine lv_ineg hx hb dJ6_getChars_ba4f3_20 ?_
        refine lv_istore_n (lv' := [(0, .int (-(nI w))), (6, .int 0), (5, .int (nI (n + 4))), (1, .int (nI (n + 4))), (2, .ref a_v)]) hx hb dJ6_getChars_ba4f3_21 rfl hl (by decide) rfl (fun ls hl => ?_)
        refine lv_iload_n hx hb dJ6_getChars_ba4f3_22 rfl (lv_at hl 0 rfl) ?_
        refine lv_bipush (v := -100) hx hb dJ6_getChars_ba4f3_23 (by decide) ?_
        refine lv_icmp_gt (tgt := 72) hx hb dJ6_getChars_ba4f3_25 (by decide) (fun c0 => ?_) (fun c0 => ?_)
        · exact absurd c0 (sg_nlt (c := 100) (by omega) (by omega))
        · clear c0
          refine lv_iload_n hx hb dJ6_getChars_ba4f3_28 rfl (lv_at hl 0 rfl) ?_
          refine lv_bipush (v := 100) hx hb dJ6_getChars_ba4f3_29 (by decide) ?_
          refine lv_idiv hx hb dJ6_getChars_ba4f3_31 (by decide) ?_
          refine lv_topi (fun v1 e_v1 => ?_)
          have e9 : v1 = (-(nI (w / 100))) := e_v1.trans (sb_ndiv (by omega))
          subst e9
          refine lv_istore_n (lv' := [(3, .int (-(nI (w / 100)))), (0, .int (-(nI w))), (6, .int 0), (5, .int (nI (n + 4))), (1, .int (nI (n + 4))), (2, .ref a_v)]) hx hb dJ6_getChars_ba4f3_32 rfl hl (by decide) rfl (fun ls hl => ?_)
          refine lv_iload_n hx hb dJ6_getChars_ba4f3_33 rfl (lv_at hl 0 rfl) ?_
          refine lv_bipush (v := 100) hx hb dJ6_getChars_ba4f3_34 (by decide) ?_
          refine lv_imul hx hb dJ6_getChars_ba4f3_36 ?_
          refine lv_iload_n hx hb dJ6_getChars_ba4f3_37 rfl (lv_at hl 1 rfl) ?_
          refine lv_isub hx hb dJ6_getChars_ba4f3_38 ?_
          refine lv_topi (fun v2 e_v2 => ?_)
          have e9 : v2 = (nI (w % 100)) := e_v2.trans (sb_nrem (by omega))
          subst e9
          refine lv_istore (lv' := [(4, .int (nI (w % 100))), (3, .int (-(nI (w / 100)))), (0, .int (-(nI w))), (6, .int 0), (5, .int (nI (n + 4))), (1, .int (nI (n + 4))), (2, .ref a_v)]) hx hb dJ6_getChars_ba4f3_39 hl (by decide) rfl (fun ls hl => ?_)
          refine lv_iload_n hx hb dJ6_getChars_ba4f3_41 rfl (lv_at hl 1 rfl) ?_
          refine lv_istore_n (lv' := [(0, .int (-(nI (w / 100)))), (4, .int (nI (w % 100))), (3, .int (-(nI (w / 100)))), (6, .int 0), (5, .int (nI (n + 4))), (1, .int (nI (n + 4))), (2, .ref a_v)]) hx hb dJ6_getChars_ba4f3_42 rfl hl (by decide) rfl (fun ls hl => ?_)
          refine lv_aload_n hx hb dJ6_getChars_ba4f3_43 rfl (lv_at hl 6 rfl) ?_
          refine lv_iinc (v := (nI (n + 3))) (lv' := [(5, .int (nI (n + 3))), (0, .int (-(nI (w / 100)))), (4, .int (nI (w % 100))), (3, .int (-(nI (w / 100)))), (6, .int 0), (1, .int (nI (n + 4))), (2, .ref a_v)]) hx hb dJ6_getChars_ba4f3_44 hl (k := 4) rfl (iinc_m1 _) (by decide) rfl (fun ls hl => ?_)
          refine lv_iload hx hb dJ6_getChars_ba4f3_47 (lv_at hl 0 rfl) ?_
          refine va_gets hx hb hO1 hS hown (hta _ lk_J6_83) (fun _ h9 => h9) dJ6_getChars_ba4f3_49 ?_
          refine lv_iload hx hb dJ6_getChars_ba4f3_52 (lv_at hl 2 rfl) ?_
          refine va_tb hx hb hO2 hS (vp_in_nI (by omega) (by decide)) (do_at (by omega)) dJ6_getChars_ba4f3_54 ?_
          refine va_bast hx hb hK hP hD hS 0 6 rfl rfl (vp_in_nI (by omega) (by omega)) dJ6_getChars_ba4f3_55 (fun H locs hP hD hS => ?_)
          have hP : va_P (dC, dI) vwCl [(a_v, .inl (cT 6, cap, .inl (upd f (nI (n + 3)).toNatClampNeg (vp_nar .byte (nI (48 + (w % 100) % 10))))))] H := hP
          have hD : va_D A [(a_v, .inl (cT 6, cap, .inl (upd f (nI (n + 3)).toNatClampNeg (vp_nar .byte (nI (48 + (w % 100) % 10))))))] := hD
          refine lv_aload_n hx hb dJ6_getChars_ba4f3_56 rfl (lv_at hl 6 rfl) ?_
          refine lv_iinc (v := (nI (n + 2))) (lv' := [(5, .int (nI (n + 2))), (0, .int (-(nI (w / 100)))), (4, .int (nI (w % 100))), (3, .int (-(nI (w / 100)))), (6, .int 0), (1, .int (nI (n + 4))), (2, .ref a_v)]) hx hb dJ6_getChars_ba4f3_57 hl (k := 0) rfl (iinc_m1 _) (by decide) rfl (fun ls hl => ?_)
          refine lv_iload hx hb dJ6_getChars_ba4f3_60 (lv_at hl 0 rfl) ?_
          refine va_gets hx hb hT1 hS hown (hta _ lk_J6_87) (fun _ h9 => h9) dJ6_getChars_ba4f3_62 ?_
          refine lv_iload hx hb dJ6_getChars_ba4f3_65 (lv_at hl 2 rfl) ?_
          refine va_tb hx hb hT2 hS (vp_in_nI (by omega) (by decide)) (dt_at (by omega)) dJ6_getChars_ba4f3_67 ?_
          refine va_bast hx hb hK hP hD hS 0 6 rfl rfl (vp_in_nI (by omega) (by omega)) dJ6_getChars_ba4f3_68 (fun H locs hP hD hS => ?_)
          have hP : va_P (dC, dI) vwCl [(a_v, .inl (cT 6, cap, .inl (upd (upd f (nI (n + 3)).toNatClampNeg (vp_nar .byte (nI (48 + (w % 100) % 10)))) (nI (n + 2)).toNatClampNeg (vp_nar .byte (nI (48 + (w % 100) / 10))))))] H := hP
          have hD : va_D A [(a_v, .inl (cT 6, cap, .inl (upd (upd f (nI (n + 3)).toNatClampNeg (vp_nar .byte (nI (48 + (w % 100) % 10)))) (nI (n + 2)).toNatClampNeg (vp_nar .byte (nI (48 + (w % 100) / 10))))))] := hD
          refine lv_goto (tgt := 22) hx hb dJ6_getChars_ba4f3_69 (by decide) ?_
          refine lv_iload_n hx hb dJ6_getChars_ba4f3_22 rfl (lv_at hl 1 rfl) ?_
          refine lv_bipush (v := -100) hx hb dJ6_getChars_ba4f3_23 (by decide) ?_
          refine lv_icmp_gt (tgt := 72) hx hb dJ6_getChars_ba4f3_25 (by decide) (fun c0 => ?_) (fun c0 => ?_)
          · clear c0
            refine lv_aload_n hx hb dJ6_getChars_ba4f3_72 rfl (lv_at hl 6 rfl) ?_
            refine lv_iinc (v := (nI (n + 1))) (lv' := [(5, .int (nI (n + 1))), (0, .int (-(nI (w / 100)))), (4, .int (nI (w % 100))), (3, .int (-(nI (w / 100)))), (6, .int 0), (1, .int (nI (n + 4))), (2, .ref a_v)]) hx hb dJ6_getChars_ba4f3_73 hl (k := 0) rfl (iinc_m1 _) (by decide) rfl (fun ls hl => ?_)
            refine lv_iload hx hb dJ6_getChars_ba4f3_76 (lv_at hl 0 rfl) ?_
            refine va_gets hx hb hO1 hS hown (hta _ lk_J6_83) (fun _ h9 => h9) dJ6_getChars_ba4f3_78 ?_
            refine lv_iload_n hx hb dJ6_getChars_ba4f3_81 rfl (lv_at hl 1 rfl) ?_
            refine lv_ineg hx hb dJ6_getChars_ba4f3_82 ?_
            refine lv_topi (fun v3 e_v3 => ?_)
            have e9 : v3 = (nI (w / 100)) := e_v3.trans (Int32.neg_neg)
            subst e9
            refine va_tb hx hb hO2 hS (vp_in_nI (by omega) (by decide)) (do_at (by omega)) dJ6_getChars_ba4f3_83 ?_
            refine va_bast hx hb hK hP hD hS 0 6 rfl rfl (vp_in_nI (by omega) (by omega)) dJ6_getChars_ba4f3_84 (fun H locs hP hD hS => ?_)
            have hP : va_P (dC, dI) vwCl [(a_v, .inl (cT 6, cap, .inl (upd (upd (upd f (nI (n + 3)).toNatClampNeg (vp_nar .byte (nI (48 + (w % 100) % 10)))) (nI (n + 2)).toNatClampNeg (vp_nar .byte (nI (48 + (w % 100) / 10)))) (nI (n + 1)).toNatClampNeg (vp_nar .byte (nI (48 + (w / 100) % 10))))))] H := hP
            have hD : va_D A [(a_v, .inl (cT 6, cap, .inl (upd (upd (upd f (nI (n + 3)).toNatClampNeg (vp_nar .byte (nI (48 + (w % 100) % 10)))) (nI (n + 2)).toNatClampNeg (vp_nar .byte (nI (48 + (w % 100) / 10)))) (nI (n + 1)).toNatClampNeg (vp_nar .byte (nI (48 + (w / 100) % 10))))))] := hD
            refine lv_iload_n hx hb dJ6_getChars_ba4f3_85 rfl (lv_at hl 1 rfl) ?_
            refine lv_bipush (v := -9) hx hb dJ6_getChars_ba4f3_86 (by decide) ?_
            refine lv_icmp_ge (tgt := 104) hx hb dJ6_getChars_ba4f3_88 (by decide) (fun c0 => ?_) (fun c0 => ?_)
            · exact absurd c0 (fun h8 => absurd ((sb_nle (a := 9) (b := w / 100) (by omega) (by omega)).mp h8) (by omega))
            · clear c0
              refine lv_aload_n hx hb dJ6_getChars_ba4f3_91 rfl (lv_at hl 6 rfl) ?_
              refine lv_iinc (v := (nI (n + 0))) (lv' := [(5, .int (nI (n + 0))), (0, .int (-(nI (w / 100)))), (4, .int (nI (w % 100))), (3, .int (-(nI (w / 100)))), (6, .int 0), (1, .int (nI (n + 4))), (2, .ref a_v)]) hx hb dJ6_getChars_ba4f3_92 hl (k := 0) rfl (iinc_m1 _) (by decide) rfl (fun ls hl => ?_)
              refine lv_iload hx hb dJ6_getChars_ba4f3_95 (lv_at hl 0 rfl) ?_
              refine va_gets hx hb hT1 hS hown (hta _ lk_J6_87) (fun _ h9 => h9) dJ6_getChars_ba4f3_97 ?_
              refine lv_iload_n hx hb dJ6_getChars_ba4f3_100 rfl (lv_at hl 1 rfl) ?_
              refine lv_ineg hx hb dJ6_getChars_ba4f3_101 ?_
              refine lv_topi (fun v4 e_v4 => ?_)
              have e9 : v4 = (nI (w / 100)) := e_v4.trans (Int32.neg_neg)
              subst e9
              refine va_tb hx hb hT2 hS (vp_in_nI (by omega) (by decide)) (dt_at (by omega)) dJ6_getChars_ba4f3_102 ?_
              refine va_bast hx hb hK hP hD hS 0 6 rfl rfl (vp_in_nI (by omega) (by omega)) dJ6_getChars_ba4f3_103 (fun H locs hP hD hS => ?_)
              have hP : va_P (dC, dI) vwCl [(a_v, .inl (cT 6, cap, .inl (upd (upd (upd (upd f (nI (n + 3)).toNatClampNeg (vp_nar .byte (nI (48 + (w % 100) % 10)))) (nI (n + 2)).toNatClampNeg (vp_nar .byte (nI (48 + (w % 100) / 10)))) (nI (n + 1)).toNatClampNeg (vp_nar .byte (nI (48 + (w / 100) % 10)))) (nI (n + 0)).toNatClampNeg (vp_nar .byte (nI (48 + (w / 100) / 10))))))] H := hP
              have hD : va_D A [(a_v, .inl (cT 6, cap, .inl (upd (upd (upd (upd f (nI (n + 3)).toNatClampNeg (vp_nar .byte (nI (48 + (w % 100) % 10)))) (nI (n + 2)).toNatClampNeg (vp_nar .byte (nI (48 + (w % 100) / 10)))) (nI (n + 1)).toNatClampNeg (vp_nar .byte (nI (48 + (w / 100) % 10)))) (nI (n + 0)).toNatClampNeg (vp_nar .byte (nI (48 + (w / 100) / 10))))))] := hD
              refine lv_iload hx hb dJ6_getChars_ba4f3_104 (lv_at hl 4 rfl) ?_
              refine lv_if_eq (tgt := 118) hx hb dJ6_getChars_ba4f3_106 (by decide) (fun c0 => ?_) (fun c0 => ?_)
              · clear c0
                refine lv_iload hx hb dJ6_getChars_ba4f3_118 (lv_at hl 0 rfl) ?_
                have hg : GD n 0 (dl false w) f (upd (upd (upd (upd f (nI (n + 3)).toNatClampNeg (vp_nar .byte (nI (48 + (w % 100) % 10)))) (nI (n + 2)).toNatClampNeg (vp_nar .byte (nI (48 + (w % 100) / 10)))) (nI (n + 1)).toNatClampNeg (vp_nar .byte (nI (48 + (w / 100) % 10)))) (nI (n + 0)).toNatClampNeg (vp_nar .byte (nI (48 + (w / 100) / 10)))) := by rw [hdl]; exact (gc_step (k := 0) (c := 48 + (w / 100) / 10) (gc_step (k := 1) (c := 48 + (w / 100) % 10) (gc_step (k := 2) (c := 48 + (w % 100) / 10) (gc_step (k := 3) (c := 48 + (w % 100) % 10) (gd_0 hff (Nat.le_refl _)) (Nat.le_of_ble_eq_true rfl) rfl (by omega) (by omega)) (Nat.le_of_ble_eq_true rfl) rfl (by omega) (by omega)) (Nat.le_of_ble_eq_true rfl) rfl (by omega) (by omega)) (Nat.le_of_ble_eq_true rfl) rfl (by omega) (by omega))
                exact W.iret (v := (nI (n + 0))) hx hb hr (fun t ht hW => ⟨⟨(nI (n + 0)), (upd (upd (upd (upd f (nI (n + 3)).toNatClampNeg (vp_nar .byte (nI (48 + (w % 100) % 10)))) (nI (n + 2)).toNatClampNeg (vp_nar .byte (nI (48 + (w % 100) / 10)))) (nI (n + 1)).toNatClampNeg (vp_nar .byte (nI (48 + (w / 100) % 10)))) (nI (n + 0)).toNatClampNeg (vp_nar .byte (nI (48 + (w / 100) / 10)))), rfl, hg, by rw [ht]; exact hP, hD⟩, hS.F ht⟩) hS.2.2 dJ6_getChars_ba4f3_120
              · exact absurd (rfl) c0
          · exact absurd (sg_lt (c := 100) (by omega) (by decide)) c0
    · exact absurd (nI_pos' (by omega)) c0
  · obtain ⟨rfl, ha, hb9⟩ := h9
    have hdl := dl_1_1 ha hb9
    have hl : lv_has ls 7 [(0, .int (-(nI w))), (1, .int (nI (n + 2))), (2, .ref a_v)] := by rw [hdl] at hl; exact hl
    have hq9 : n + 2 ≤ cap := by rw [hdl] at hq; exact hq
    have h70 := hcap.le
    refine lv_iload_n hx hb dJ6_getChars_ba4f3_0 rfl (lv_at hl 1 rfl) ?_
    refine lv_istore (lv' := [(5, .int (nI (n + 2))), (0, .int (-(nI w))), (1, .int (nI (n + 2))), (2, .ref a_v)]) hx hb dJ6_getChars_ba4f3_1 hl (by decide) rfl (fun ls hl => ?_)
    refine lv_iload_n hx hb dJ6_getChars_ba4f3_3 rfl (lv_at hl 1 rfl) ?_
    refine lv_if_ge (tgt := 11) hx hb dJ6_getChars_ba4f3_4 (by decide) (fun c0 => ?_) (fun c0 => ?_)
    · exact absurd c0 (sg_nge (by omega) (by omega))
    · clear c0
      refine lv_iconst (v := 1) hx hb dJ6_getChars_ba4f3_7 (by decide) ?_
      refine lv_goto (tgt := 12) hx hb dJ6_getChars_ba4f3_8 (by decide) ?_
      refine lv_istore (lv' := [(6, .int 1), (5, .int (nI (n + 2))), (0, .int (-(nI w))), (1, .int (nI (n + 2))), (2, .ref a_v)]) hx hb dJ6_getChars_ba4f3_12 hl (by decide) rfl (fun ls hl => ?_)
      refine lv_iload hx hb dJ6_getChars_ba4f3_14 (lv_at hl 0 rfl) ?_
      refine lv_if_ne (tgt := 22) hx hb dJ6_getChars_ba4f3_16 (by decide) (fun c0 => ?_) (fun c0 => ?_)
      · clear c0
        refine lv_iload_n hx hb dJ6_getChars_ba4f3_22 rfl (lv_at hl 2 rfl) ?_
        refine lv_bipush (v := -100) hx hb dJ6_getChars_ba4f3_23 (by decide) ?_
        refine lv_icmp_gt (tgt := 72) hx hb dJ6_getChars_ba4f3_25 (by decide) (fun c0 => ?_) (fun c0 => ?_)
        · clear c0
          refine lv_aload_n hx hb dJ6_getChars_ba4f3_72 rfl (lv_at hl 4 rfl) ?_
          refine lv_iinc (v := (nI (n + 1))) (lv' := [(5, .int (nI (n + 1))), (6, .int 1), (0, .int (-(nI w))), (1, .int (nI (n + 2))), (2, .ref a_v)]) hx hb dJ6_getChars_ba4f3_73 hl (k := 1) rfl (iinc_m1 _) (by decide) rfl (fun ls hl => ?_)
          refine lv_iload hx hb dJ6_getChars_ba4f3_76 (lv_at hl 0 rfl) ?_
          refine va_gets hx hb hO1 hS hown (hta _ lk_J6_83) (fun _ h9 => h9) dJ6_getChars_ba4f3_78 ?_
          refine lv_iload_n hx hb dJ6_getChars_ba4f3_81 rfl (lv_at hl 2 rfl) ?_
          refine lv_ineg hx hb dJ6_getChars_ba4f3_82 ?_
          refine lv_topi (fun v1 e_v1 => ?_)
          have e9 : v1 = (nI w) := e_v1.trans (Int32.neg_neg)
          subst e9
          refine va_tb hx hb hO2 hS (vp_in_nI (by omega) (by decide)) (do_at (by omega)) dJ6_getChars_ba4f3_83 ?_
          refine va_bast hx hb hK hP hD hS 0 6 rfl rfl (vp_in_nI (by omega) (by omega)) dJ6_getChars_ba4f3_84 (fun H locs hP hD hS => ?_)
          have hP : va_P (dC, dI) vwCl [(a_v, .inl (cT 6, cap, .inl (upd f (nI (n + 1)).toNatClampNeg (vp_nar .byte (nI (48 + w % 10))))))] H := hP
          have hD : va_D A [(a_v, .inl (cT 6, cap, .inl (upd f (nI (n + 1)).toNatClampNeg (vp_nar .byte (nI (48 + w % 10))))))] := hD
          refine lv_iload_n hx hb dJ6_getChars_ba4f3_85 rfl (lv_at hl 2 rfl) ?_
          refine lv_bipush (v := -9) hx hb dJ6_getChars_ba4f3_86 (by decide) ?_
          refine lv_icmp_ge (tgt := 104) hx hb dJ6_getChars_ba4f3_88 (by decide) (fun c0 => ?_) (fun c0 => ?_)
          · clear c0
            refine lv_iload hx hb dJ6_getChars_ba4f3_104 (lv_at hl 1 rfl) ?_
            refine lv_if_eq (tgt := 118) hx hb dJ6_getChars_ba4f3_106 (by decide) (fun c0 => ?_) (fun c0 => ?_)
            · exact absurd c0 (by decide)
            · clear c0
              refine lv_aload_n hx hb dJ6_getChars_ba4f3_109 rfl (lv_at hl 4 rfl) ?_
              refine lv_iinc (v := (nI (n + 0))) (lv' := [(5, .int (nI (n + 0))), (6, .int 1), (0, .int (-(nI w))), (1, .int (nI (n + 2))), (2, .ref a_v)]) hx hb dJ6_getChars_ba4f3_110 hl (k := 0) rfl (iinc_m1 _) (by decide) rfl (fun ls hl => ?_)
              refine lv_iload hx hb dJ6_getChars_ba4f3_113 (lv_at hl 0 rfl) ?_
              refine lv_bipush (v := 45) hx hb dJ6_getChars_ba4f3_115 (by decide) ?_
              refine va_bast hx hb hK hP hD hS 0 6 rfl rfl (vp_in_nI (by omega) (by omega)) dJ6_getChars_ba4f3_117 (fun H locs hP hD hS => ?_)
              have hP : va_P (dC, dI) vwCl [(a_v, .inl (cT 6, cap, .inl (upd (upd f (nI (n + 1)).toNatClampNeg (vp_nar .byte (nI (48 + w % 10)))) (nI (n + 0)).toNatClampNeg (vp_nar .byte 45))))] H := hP
              have hD : va_D A [(a_v, .inl (cT 6, cap, .inl (upd (upd f (nI (n + 1)).toNatClampNeg (vp_nar .byte (nI (48 + w % 10)))) (nI (n + 0)).toNatClampNeg (vp_nar .byte 45))))] := hD
              refine lv_iload hx hb dJ6_getChars_ba4f3_118 (lv_at hl 0 rfl) ?_
              have hg : GD n 0 (dl true w) f (upd (upd f (nI (n + 1)).toNatClampNeg (vp_nar .byte (nI (48 + w % 10)))) (nI (n + 0)).toNatClampNeg (vp_nar .byte 45)) := by rw [hdl]; exact (gc_step (k := 0) (c := 45) (gc_step (k := 1) (c := 48 + w % 10) (gd_0 hff (Nat.le_refl _)) (Nat.le_of_ble_eq_true rfl) rfl (by omega) (by omega)) (Nat.le_of_ble_eq_true rfl) rfl (by decide) (by omega))
              exact W.iret (v := (nI (n + 0))) hx hb hr (fun t ht hW => ⟨⟨(nI (n + 0)), (upd (upd f (nI (n + 1)).toNatClampNeg (vp_nar .byte (nI (48 + w % 10)))) (nI (n + 0)).toNatClampNeg (vp_nar .byte 45)), rfl, hg, by rw [ht]; exact hP, hD⟩, hS.F ht⟩) hS.2.2 dJ6_getChars_ba4f3_120
          · exact absurd ((sb_nle (a := 9) (b := w) (by omega) (by omega)).mpr (by omega)) c0
        · exact absurd (sg_lt (c := 100) (by omega) (by decide)) c0
      · exact absurd c0 (by decide)
  · obtain ⟨rfl, ha, hb9⟩ := h9
    have hdl := dl_1_2 ha hb9
    have hl : lv_has ls 7 [(0, .int (-(nI w))), (1, .int (nI (n + 3))), (2, .ref a_v)] := by rw [hdl] at hl; exact hl
    have hq9 : n + 3 ≤ cap := by rw [hdl] at hq; exact hq
    have h70 := hcap.le
    refine lv_iload_n hx hb dJ6_getChars_ba4f3_0 rfl (lv_at hl 1 rfl) ?_
    refine lv_istore (lv' := [(5, .int (nI (n + 3))), (0, .int (-(nI w))), (1, .int (nI (n + 3))), (2, .ref a_v)]) hx hb dJ6_getChars_ba4f3_1 hl (by decide) rfl (fun ls hl => ?_)
    refine lv_iload_n hx hb dJ6_getChars_ba4f3_3 rfl (lv_at hl 1 rfl) ?_
    refine lv_if_ge (tgt := 11) hx hb dJ6_getChars_ba4f3_4 (by decide) (fun c0 => ?_) (fun c0 => ?_)
    · exact absurd c0 (sg_nge (by omega) (by omega))
    · clear c0
      refine lv_iconst (v := 1) hx hb dJ6_getChars_ba4f3_7 (by decide) ?_
      refine lv_goto (tgt := 12) hx hb dJ6_getChars_ba4f3_8 (by decide) ?_
      refine lv_istore (lv' := [(6, .int 1), (5, .int (nI (n + 3))), (0, .int (-(nI w))), (1, .int (nI (n + 3))), (2, .ref a_v)]) hx hb dJ6_getChars_ba4f3_12 hl (by decide) rfl (fun ls hl => ?_)
      refine lv_iload hx hb dJ6_getChars_ba4f3_14 (lv_at hl 0 rfl) ?_
      refine lv_if_ne (tgt := 22) hx hb dJ6_getChars_ba4f3_16 (by decide) (fun c0 => ?_) (fun c0 => ?_)
      · clear c0
        refine lv_iload_n hx hb dJ6_getChars_ba4f3_22 rfl (lv_at hl 2 rfl) ?_
        refine lv_bipush (v := -100) hx hb dJ6_getChars_ba4f3_23 (by decide) ?_
        refine lv_icmp_gt (tgt := 72) hx hb dJ6_getChars_ba4f3_25 (by decide) (fun c0 => ?_) (fun c0 => ?_)
        · clear c0
          refine lv_aload_n hx hb dJ6_getChars_ba4f3_72 rfl (lv_at hl 4 rfl) ?_
          refine lv_iinc (v := (nI (n + 2))) (lv' := [(5, .int (nI (n + 2))), (6, .int 1), (0, .int (-(nI w))), (1, .int (nI (n + 3))), (2, .ref a_v)]) hx hb dJ6_getChars_ba4f3_73 hl (k := 1) rfl (iinc_m1 _) (by decide) rfl (fun ls hl => ?_)
          refine lv_iload hx hb dJ6_getChars_ba4f3_76 (lv_at hl 0 rfl) ?_
          refine va_gets hx hb hO1 hS hown (hta _ lk_J6_83) (fun _ h9 => h9) dJ6_getChars_ba4f3_78 ?_
          refine lv_iload_n hx hb dJ6_getChars_ba4f3_81 rfl (lv_at hl 2 rfl) ?_
          refine lv_ineg hx hb dJ6_getChars_ba4f3_82 ?_
          refine lv_topi (fun v1 e_v1 => ?_)
          have e9 : v1 = (nI w) := e_v1.trans (Int32.neg_neg)
          subst e9
          refine va_tb hx hb hO2 hS (vp_in_nI (by omega) (by decide)) (do_at (by omega)) dJ6_getChars_ba4f3_83 ?_
          refine va_bast hx hb hK hP hD hS 0 6 rfl rfl (vp_in_nI (by omega) (by omega)) dJ6_getChars_ba4f3_84 (fun H locs hP hD hS => ?_)
          have hP : va_P (dC, dI) vwCl [(a_v, .inl (cT 6, cap, .inl (upd f (nI (n + 2)).toNatClampNeg (vp_nar .byte (nI (48 + w % 10))))))] H := hP
          have hD : va_D A [(a_v, .inl (cT 6, cap, .inl (upd f (nI (n + 2)).toNatClampNeg (vp_nar .byte (nI (48 + w % 10))))))] := hD
          refine lv_iload_n hx hb dJ6_getChars_ba4f3_85 rfl (lv_at hl 2 rfl) ?_
          refine lv_bipush (v := -9) hx hb dJ6_getChars_ba4f3_86 (by decide) ?_
          refine lv_icmp_ge (tgt := 104) hx hb dJ6_getChars_ba4f3_88 (by decide) (fun c0 => ?_) (fun c0 => ?_)
          · exact absurd c0 (fun h8 => absurd ((sb_nle (a := 9) (b := w) (by omega) (by omega)).mp h8) (by omega))
          · clear c0
            refine lv_aload_n hx hb dJ6_getChars_ba4f3_91 rfl (lv_at hl 4 rfl) ?_
            refine lv_iinc (v := (nI (n + 1))) (lv' := [(5, .int (nI (n + 1))), (6, .int 1), (0, .int (-(nI w))), (1, .int (nI (n + 3))), (2, .ref a_v)]) hx hb dJ6_getChars_ba4f3_92 hl (k := 0) rfl (iinc_m1 _) (by decide) rfl (fun ls hl => ?_)
            refine lv_iload hx hb dJ6_getChars_ba4f3_95 (lv_at hl 0 rfl) ?_
            refine va_gets hx hb hT1 hS hown (hta _ lk_J6_87) (fun _ h9 => h9) dJ6_getChars_ba4f3_97 ?_
            refine lv_iload_n hx hb dJ6_getChars_ba4f3_100 rfl (lv_at hl 2 rfl) ?_
            refine lv_ineg hx hb dJ6_getChars_ba4f3_101 ?_
            refine lv_topi (fun v2 e_v2 => ?_)
            have e9 : v2 = (nI w) := e_v2.trans (Int32.neg_neg)
            subst e9
            refine va_tb hx hb hT2 hS (vp_in_nI (by omega) (by decide)) (dt_at (by omega)) dJ6_getChars_ba4f3_102 ?_
            refine va_bast hx hb hK hP hD hS 0 6 rfl rfl (vp_in_nI (by omega) (by omega)) dJ6_getChars_ba4f3_103 (fun H locs hP hD hS => ?_)
            have hP : va_P (dC, dI) vwCl [(a_v, .inl (cT 6, cap, .inl (upd (upd f (nI (n + 2)).toNatClampNeg (vp_nar .byte (nI (48 + w % 10)))) (nI (n + 1)).toNatClampNeg (vp_nar .byte (nI (48 + w / 10))))))] H := hP
            have hD : va_D A [(a_v, .inl (cT 6, cap, .inl (upd (upd f (nI (n + 2)).toNatClampNeg (vp_nar .byte (nI (48 + w % 10)))) (nI (n + 1)).toNatClampNeg (vp_nar .byte (nI (48 + w / 10))))))] := hD
            refine lv_iload hx hb dJ6_getChars_ba4f3_104 (lv_at hl 1 rfl) ?_
            refine lv_if_eq (tgt := 118) hx hb dJ6_getChars_ba4f3_106 (by decide) (fun c0 => ?_) (fun c0 => ?_)
            · exact absurd c0 (by decide)
            · clear c0
              refine lv_aload_n hx hb dJ6_getChars_ba4f3_109 rfl (lv_at hl 4 rfl) ?_
              refine lv_iinc (v := (nI (n + 0))) (lv' := [(5, .int (nI (n + 0))), (6, .int 1), (0, .int (-(nI w))), (1, .int (nI (n + 3))), (2, .ref a_v)]) hx hb dJ6_getChars_ba4f3_110 hl (k := 0) rfl (iinc_m1 _) (by decide) rfl (fun ls hl => ?_)
              refine lv_iload hx hb dJ6_getChars_ba4f3_113 (lv_at hl 0 rfl) ?_
              refine lv_bipush (v := 45) hx hb dJ6_getChars_ba4f3_115 (by decide) ?_
              refine va_bast hx hb hK hP hD hS 0 6 rfl rfl (vp_in_nI (by omega) (by omega)) dJ6_getChars_ba4f3_117 (fun H locs hP hD hS => ?_)
              have hP : va_P (dC, dI) vwCl [(a_v, .inl (cT 6, cap, .inl (upd (upd (upd f (nI (n + 2)).toNatClampNeg (vp_nar .byte (nI (48 + w % 10)))) (nI (n + 1)).toNatClampNeg (vp_nar .byte (nI (48 + w / 10)))) (nI (n + 0)).toNatClampNeg (vp_nar .byte 45))))] H := hP
              have hD : va_D A [(a_v, .inl (cT 6, cap, .inl (upd (upd (upd f (nI (n + 2)).toNatClampNeg (vp_nar .byte (nI (48 + w % 10)))) (nI (n + 1)).toNatClampNeg (vp_nar .byte (nI (48 + w / 10)))) (nI (n + 0)).toNatClampNeg (vp_nar .byte 45))))] := hD
              refine lv_iload hx hb dJ6_getChars_ba4f3_118 (lv_at hl 0 rfl) ?_
              have hg : GD n 0 (dl true w) f (upd (upd (upd f (nI (n + 2)).toNatClampNeg (vp_nar .byte (nI (48 + w % 10)))) (nI (n + 1)).toNatClampNeg (vp_nar .byte (nI (48 + w / 10)))) (nI (n + 0)).toNatClampNeg (vp_nar .byte 45)) := by rw [hdl]; exact (gc_step (k := 0) (c := 45) (gc_step (k := 1) (c := 48 + w / 10) (gc_step (k := 2) (c := 48 + w % 10) (gd_0 hff (Nat.le_refl _)) (Nat.le_of_ble_eq_true rfl) rfl (by omega) (by omega)) (Nat.le_of_ble_eq_true rfl) rfl (by omega) (by omega)) (Nat.le_of_ble_eq_true rfl) rfl (by decide) (by omega))
              exact W.iret (v := (nI (n + 0))) hx hb hr (fun t ht hW => ⟨⟨(nI (n + 0)), (upd (upd (upd f (nI (n + 2)).toNatClampNeg (vp_nar .byte (nI (48 + w % 10)))) (nI (n + 1)).toNatClampNeg (vp_nar .byte (nI (48 + w / 10)))) (nI (n + 0)).toNatClampNeg (vp_nar .byte 45)), rfl, hg, by rw [ht]; exact hP, hD⟩, hS.F ht⟩) hS.2.2 dJ6_getChars_ba4f3_120
        · exact absurd (sg_lt (c := 100) (by omega) (by decide)) c0
      · exact absurd c0 (by decide)
  · obtain ⟨rfl, ha, hb9⟩ := h9
    have hdl := dl_1_3 ha hb9
    have hl : lv_has ls 7 [(0, .int (-(nI w))), (1, .int (nI (n + 4))), (2, .ref a_v)] := by rw [hdl] at hl; exact hl
    have hq9 : n + 4 ≤ cap := by rw [hdl] at hq; exact hq
    have h70 := hcap.le
    refine lv_iload_n hx hb dJ6_getChars_ba4f3_0 rfl (lv_at hl 1 rfl) ?_
    refine lv_istore (lv' := [(5, .int (nI (n + 4))), (0, .int (-(nI w))), (1, .int (nI (n + 4))), (2, .ref a_v)]) hx hb dJ6_getChars_ba4f3_1 hl (by decide) rfl (fun ls hl => ?_)
    refine lv_iload_n hx hb dJ6_getChars_ba4f3_3 rfl (lv_at hl 1 rfl) ?_
    refine lv_if_ge (tgt := 11) hx hb dJ6_getChars_ba4f3_4 (by decide) (fun c0 => ?_) (fun c0 => ?_)
    · exact absurd c0 (sg_nge (by omega) (by omega))
    · clear c0
      refine lv_iconst (v := 1) hx hb dJ6_getChars_ba4f3_7 (by decide) ?_
      refine lv_goto (tgt := 12) hx hb dJ6_getChars_ba4f3_8 (by decide) ?_
      refine lv_istore (lv' := [(6, .int 1), (5, .int (nI (n + 4))), (0, .int (-(nI w))), (1, .int (nI (n + 4))), (2, .ref a_v)]) hx hb dJ6_getChars_ba4f3_12 hl (by decide) rfl (fun ls hl => ?_)
      refine lv_iload hx hb dJ6_getChars_ba4f3_14 (lv_at hl 0 rfl) ?_
      refine lv_if_ne (tgt := 22) hx hb dJ6_getChars_ba4f3_16 (by decide) (fun c0 => ?_) (fun c0 => ?_)
      · clear c0
        refine lv_iload_n hx hb dJ6_getChars_ba4f3_22 rfl (lv_at hl 2 rfl) ?_
        refine lv_bipush (v := -100) hx hb dJ6_getChars_ba4f3_23 (by decide) ?_
        refine lv_icmp_gt (tgt := 72) hx hb dJ6_getChars_ba4f3_25 (by decide) (fun c0 => ?_) (fun c0 => ?_)
        · exact absurd c0 (sg_nlt (c := 100) (by omega) (by omega))
        · clear c0
          refine lv_iload_n hx hb dJ6_getChars_ba4f3_28 rfl (lv_at hl 2 rfl) ?_
          refine lv_bipush (v := 100) hx hb dJ6_getChars_ba4f3_29 (by decide) ?_
          refine lv_idiv hx hb dJ6_getChars_ba4f3_31 (by decide) ?_
          refine lv_topi (fun v1 e_v1 => ?_)
          have e9 : v1 = (-(nI (w / 100))) := e_v1.trans (sb_ndiv (by omega))
          subst e9
          refine lv_istore_n (lv' := [(3, .int (-(nI (w / 100)))), (6, .int 1), (5, .int (nI (n + 4))), (0, .int (-(nI w))), (1, .int (nI (n + 4))), (2, .ref a_v)]) hx hb dJ6_getChars_ba4f3_32 rfl hl (by decide) rfl (fun ls hl => ?_)
          refine lv_iload_n hx hb dJ6_getChars_ba4f3_33 rfl (lv_at hl 0 rfl) ?_
          refine lv_bipush (v := 100) hx hb dJ6_getChars_ba4f3_34 (by decide) ?_
          refine lv_imul hx hb dJ6_getChars_ba4f3_36 ?_
          refine lv_iload_n hx hb dJ6_getChars_ba4f3_37 rfl (lv_at hl 3 rfl) ?_
          refine lv_isub hx hb dJ6_getChars_ba4f3_38 ?_
          refine lv_topi (fun v2 e_v2 => ?_)
          have e9 : v2 = (nI (w % 100)) := e_v2.trans (sb_nrem (by omega))
          subst e9
          refine lv_istore (lv' := [(4, .int (nI (w % 100))), (3, .int (-(nI (w / 100)))), (6, .int 1), (5, .int (nI (n + 4))), (0, .int (-(nI w))), (1, .int (nI (n + 4))), (2, .ref a_v)]) hx hb dJ6_getChars_ba4f3_39 hl (by decide) rfl (fun ls hl => ?_)
          refine lv_iload_n hx hb dJ6_getChars_ba4f3_41 rfl (lv_at hl 1 rfl) ?_
          refine lv_istore_n (lv' := [(0, .int (-(nI (w / 100)))), (4, .int (nI (w % 100))), (3, .int (-(nI (w / 100)))), (6, .int 1), (5, .int (nI (n + 4))), (1, .int (nI (n + 4))), (2, .ref a_v)]) hx hb dJ6_getChars_ba4f3_42 rfl hl (by decide) rfl (fun ls hl => ?_)
          refine lv_aload_n hx hb dJ6_getChars_ba4f3_43 rfl (lv_at hl 6 rfl) ?_
          refine lv_iinc (v := (nI (n + 3))) (lv' := [(5, .int (nI (n + 3))), (0, .int (-(nI (w / 100)))), (4, .int (nI (w % 100))), (3, .int (-(nI (w / 100)))), (6, .int 1), (1, .int (nI (n + 4))), (2, .ref a_v)]) hx hb dJ6_getChars_ba4f3_44 hl (k := 4) rfl (iinc_m1 _) (by decide) rfl (fun ls hl => ?_)
          refine lv_iload hx hb dJ6_getChars_ba4f3_47 (lv_at hl 0 rfl) ?_
          refine va_gets hx hb hO1 hS hown (hta _ lk_J6_83) (fun _ h9 => h9) dJ6_getChars_ba4f3_49 ?_
          refine lv_iload hx hb dJ6_getChars_ba4f3_52 (lv_at hl 2 rfl) ?_
          refine va_tb hx hb hO2 hS (vp_in_nI (by omega) (by decide)) (do_at (by omega)) dJ6_getChars_ba4f3_54 ?_
          refine va_bast hx hb hK hP hD hS 0 6 rfl rfl (vp_in_nI (by omega) (by omega)) dJ6_getChars_ba4f3_55 (fun H locs hP hD hS => ?_)
          have hP : va_P (dC, dI) vwCl [(a_v, .inl (cT 6, cap, .inl (upd f (nI (n + 3)).toNatClampNeg (vp_nar .byte (nI (48 + (w % 100) % 10))))))] H := hP
          have hD : va_D A [(a_v, .inl (cT 6, cap, .inl (upd f (nI (n + 3)).toNatClampNeg (vp_nar .byte (nI (48 + (w % 100) % 10))))))] := hD
          refine lv_aload_n hx hb dJ6_getChars_ba4f3_56 rfl (lv_at hl 6 rfl) ?_
          refine lv_iinc (v := (nI (n + 2))) (lv' := [(5, .int (nI (n + 2))), (0, .int (-(nI (w / 100)))), (4, .int (nI (w % 100))), (3, .int (-(nI (w / 100)))), (6, .int 1), (1, .int (nI (n + 4))), (2, .ref a_v)]) hx hb dJ6_getChars_ba4f3_57 hl (k := 0) rfl (iinc_m1 _) (by decide) rfl (fun ls hl => ?_)
          refine lv_iload hx hb dJ6_getChars_ba4f3_60 (lv_at hl 0 rfl) ?_
          refine va_gets hx hb hT1 hS hown (hta _ lk_J6_87) (fun _ h9 => h9) dJ6_getChars_ba4f3_62 ?_
          refine lv_iload hx hb dJ6_getChars_ba4f3_65 (lv_at hl 2 rfl) ?_
          refine va_tb hx hb hT2 hS (vp_in_nI (by omega) (by decide)) (dt_at (by omega)) dJ6_getChars_ba4f3_67 ?_
          refine va_bast hx hb hK hP hD hS 0 6 rfl rfl (vp_in_nI (by omega) (by omega)) dJ6_getChars_ba4f3_68 (fun H locs hP hD hS => ?_)
          have hP : va_P (dC, dI) vwCl [(a_v, .inl (cT 6, cap, .inl (upd (upd f (nI (n + 3)).toNatClampNeg (vp_nar .byte (nI (48 + (w % 100) % 10)))) (nI (n + 2)).toNatClampNeg (vp_nar .byte (nI (48 + (w % 100) / 10))))))] H := hP
          have hD : va_D A [(a_v, .inl (cT 6, cap, .inl (upd (upd f (nI (n + 3)).toNatClampNeg (vp_nar .byte (nI (48 + (w % 100) % 10)))) (nI (n + 2)).toNatClampNeg (vp_nar .byte (nI (48 + (w % 100) / 10))))))] := hD
          refine lv_goto (tgt := 22) hx hb dJ6_getChars_ba4f3_69 (by decide) ?_
          refine lv_iload_n hx hb dJ6_getChars_ba4f3_22 rfl (lv_at hl 1 rfl) ?_
          refine lv_bipush (v := -100) hx hb dJ6_getChars_ba4f3_23 (by decide) ?_
          refine lv_icmp_gt (tgt := 72) hx hb dJ6_getChars_ba4f3_25 (by decide) (fun c0 => ?_) (fun c0 => ?_)
          · clear c0
            refine lv_aload_n hx hb dJ6_getChars_ba4f3_72 rfl (lv_at hl 6 rfl) ?_
            refine lv_iinc (v := (nI (n + 1))) (lv' := [(5, .int (nI (n + 1))), (0, .int (-(nI (w / 100)))), (4, .int (nI (w % 100))), (3, .int (-(nI (w / 100)))), (6, .int 1), (1, .int (nI (n + 4))), (2, .ref a_v)]) hx hb dJ6_getChars_ba4f3_73 hl (k := 0) rfl (iinc_m1 _) (by decide) rfl (fun ls hl => ?_)
            refine lv_iload hx hb dJ6_getChars_ba4f3_76 (lv_at hl 0 rfl) ?_
            refine va_gets hx hb hO1 hS hown (hta _ lk_J6_83) (fun _ h9 => h9) dJ6_getChars_ba4f3_78 ?_
            refine lv_iload_n hx hb dJ6_getChars_ba4f3_81 rfl (lv_at hl 1 rfl) ?_
            refine lv_ineg hx hb dJ6_getChars_ba4f3_82 ?_
            refine lv_topi (fun v3 e_v3 => ?_)
            have e9 : v3 = (nI (w / 100)) := e_v3.trans (Int32.neg_neg)
            subst e9
            refine va_tb hx hb hO2 hS (vp_in_nI (by omega) (by decide)) (do_at (by omega)) dJ6_getChars_ba4f3_83 ?_
            refine va_bast hx hb hK hP hD hS 0 6 rfl rfl (vp_in_nI (by omega) (by omega)) dJ6_getChars_ba4f3_84 (fun H locs hP hD hS => ?_)
            have hP : va_P (dC, dI) vwCl [(a_v, .inl (cT 6, cap, .inl (upd (upd (upd f (nI (n + 3)).toNatClampNeg (vp_nar .byte (nI (48 + (w % 100) % 10)))) (nI (n + 2)).toNatClampNeg (vp_nar .byte (nI (48 + (w % 100) / 10)))) (nI (n + 1)).toNatClampNeg (vp_nar .byte (nI (48 + (w / 100) % 10))))))] H := hP
            have hD : va_D A [(a_v, .inl (cT 6, cap, .inl (upd (upd (upd f (nI (n + 3)).toNatClampNeg (vp_nar .byte (nI (48 + (w % 100) % 10)))) (nI (n + 2)).toNatClampNeg (vp_nar .byte (nI (48 + (w % 100) / 10)))) (nI (n + 1)).toNatClampNeg (vp_nar .byte (nI (48 + (w / 100) % 10))))))] := hD
            refine lv_iload_n hx hb dJ6_getChars_ba4f3_85 rfl (lv_at hl 1 rfl) ?_
            refine lv_bipush (v := -9) hx hb dJ6_getChars_ba4f3_86 (by decide) ?_
            refine lv_icmp_ge (tgt := 104) hx hb dJ6_getChars_ba4f3_88 (by decide) (fun c0 => ?_) (fun c0 => ?_)
            · clear c0
              refine lv_iload hx hb dJ6_getChars_ba4f3_104 (lv_at hl 4 rfl) ?_
              refine lv_if_eq (tgt := 118) hx hb dJ6_getChars_ba4f3_106 (by decide) (fun c0 => ?_) (fun c0 => ?_)
              · exact absurd c0 (by decide)
              · clear c0
                refine lv_aload_n hx hb dJ6_getChars_ba4f3_109 rfl (lv_at hl 6 rfl) ?_
                refine lv_iinc (v := (nI (n + 0))) (lv' := [(5, .int (nI (n + 0))), (0, .int (-(nI (w / 100)))), (4, .int (nI (w % 100))), (3, .int (-(nI (w / 100)))), (6, .int 1), (1, .int (nI (n + 4))), (2, .ref a_v)]) hx hb dJ6_getChars_ba4f3_110 hl (k := 0) rfl (iinc_m1 _) (by decide) rfl (fun ls hl => ?_)
                refine lv_iload hx hb dJ6_getChars_ba4f3_113 (lv_at hl 0 rfl) ?_
                refine lv_bipush (v := 45) hx hb dJ6_getChars_ba4f3_115 (by decide) ?_
                refine va_bast hx hb hK hP hD hS 0 6 rfl rfl (vp_in_nI (by omega) (by omega)) dJ6_getChars_ba4f3_117 (fun H locs hP hD hS => ?_)
                have hP : va_P (dC, dI) vwCl [(a_v, .inl (cT 6, cap, .inl (upd (upd (upd (upd f (nI (n + 3)).toNatClampNeg (vp_nar .byte (nI (48 + (w % 100) % 10)))) (nI (n + 2)).toNatClampNeg (vp_nar .byte (nI (48 + (w % 100) / 10)))) (nI (n + 1)).toNatClampNeg (vp_nar .byte (nI (48 + (w / 100) % 10)))) (nI (n + 0)).toNatClampNeg (vp_nar .byte 45))))] H := hP
                have hD : va_D A [(a_v, .inl (cT 6, cap, .inl (upd (upd (upd (upd f (nI (n + 3)).toNatClampNeg (vp_nar .byte (nI (48 + (w % 100) % 10)))) (nI (n + 2)).toNatClampNeg (vp_nar .byte (nI (48 + (w % 100) / 10)))) (nI (n + 1)).toNatClampNeg (vp_nar .byte (nI (48 + (w / 100) % 10)))) (nI (n + 0)).toNatClampNeg (vp_nar .byte 45))))] := hD
                refine lv_iload hx hb dJ6_getChars_ba4f3_118 (lv_at hl 0 rfl) ?_
                have hg : GD n 0 (dl true w) f (upd (upd (upd (upd f (nI (n + 3)).toNatClampNeg (vp_nar .byte (nI (48 + (w % 100) % 10)))) (nI (n + 2)).toNatClampNeg (vp_nar .byte (nI (48 + (w % 100) / 10)))) (nI (n + 1)).toNatClampNeg (vp_nar .byte (nI (48 + (w / 100) % 10)))) (nI (n + 0)).toNatClampNeg (vp_nar .byte 45)) := by rw [hdl]; exact (gc_step (k := 0) (c := 45) (gc_step (k := 1) (c := 48 + (w / 100) % 10) (gc_step (k := 2) (c := 48 + (w % 100) / 10) (gc_step (k := 3) (c := 48 + (w % 100) % 10) (gd_0 hff (Nat.le_refl _)) (Nat.le_of_ble_eq_true rfl) rfl (by omega) (by omega)) (Nat.le_of_ble_eq_true rfl) rfl (by omega) (by omega)) (Nat.le_of_ble_eq_true rfl) rfl (by omega) (by omega)) (Nat.le_of_ble_eq_true rfl) rfl (by decide) (by omega))
                exact W.iret (v := (nI (n + 0))) hx hb hr (fun t ht hW => ⟨⟨(nI (n + 0)), (upd (upd (upd (upd f (nI (n + 3)).toNatClampNeg (vp_nar .byte (nI (48 + (w % 100) % 10)))) (nI (n + 2)).toNatClampNeg (vp_nar .byte (nI (48 + (w % 100) / 10)))) (nI (n + 1)).toNatClampNeg (vp_nar .byte (nI (48 + (w / 100) % 10)))) (nI (n + 0)).toNatClampNeg (vp_nar .byte 45)), rfl, hg, by rw [ht]; exact hP, hD⟩, hS.F ht⟩) hS.2.2 dJ6_getChars_ba4f3_120
            · exact absurd ((sb_nle (a := 9) (b := w / 100) (by omega) (by omega)).mpr (by omega)) c0
          · exact absurd (sg_lt (c := 100) (by omega) (by decide)) c0
      · exact absurd c0 (by decide)
  · obtain ⟨rfl, ha, hb9⟩ := h9
    have hdl := dl_1_4 ha hb9
    have hl : lv_has ls 7 [(0, .int (-(nI w))), (1, .int (nI (n + 5))), (2, .ref a_v)] := by rw [hdl] at hl; exact hl
    have hq9 : n + 5 ≤ cap := by rw [hdl] at hq; exact hq
    have h70 := hcap.le
    refine lv_iload_n hx hb dJ6_getChars_ba4f3_0 rfl (lv_at hl 1 rfl) ?_
    refine lv_istore (lv' := [(5, .int (nI (n + 5))), (0, .int (-(nI w))), (1, .int (nI (n + 5))), (2, .ref a_v)]) hx hb dJ6_getChars_ba4f3_1 hl (by decide) rfl (fun ls hl => ?_)
    refine lv_iload_n hx hb dJ6_getChars_ba4f3_3 rfl (lv_at hl 1 rfl) ?_
    refine lv_if_ge (tgt := 11) hx hb dJ6_getChars_ba4f3_4 (by decide) (fun c0 => ?_) (fun c0 => ?_)
    · exact absurd c0 (sg_nge (by omega) (by omega))
    · clear c0
      refine lv_iconst (v := 1) hx hb dJ6_getChars_ba4f3_7 (by decide) ?_
      refine lv_goto (tgt := 12) hx hb dJ6_getChars_ba4f3_8 (by decide) ?_
      refine lv_istore (lv' := [(6, .int 1), (5, .int (nI (n + 5))), (0, .int (-(nI w))), (1, .int (nI (n + 5))), (2, .ref a_v)]) hx hb dJ6_getChars_ba4f3_12 hl (by decide) rfl (fun ls hl => ?_)
      refine lv_iload hx hb dJ6_getChars_ba4f3_14 (lv_at hl 0 rfl) ?_
      refine lv_if_ne (tgt := 22) hx hb dJ6_getChars_ba4f3_16 (by decide) (fun c0 => ?_) (fun c0 => ?_)
      · clear c0
        refine lv_iload_n hx hb dJ6_getChars_ba4f3_22 rfl (lv_at hl 2 rfl) ?_
        refine lv_bipush (v := -100) hx hb dJ6_getChars_ba4f3_23 (by decide) ?_
        refine lv_icmp_gt (tgt := 72) hx hb dJ6_getChars_ba4f3_25 (by decide) (fun c0 => ?_) (fun c0 => ?_)
        · exact absurd c0 (sg_nlt (c := 100) (by omega) (by omega))
        · clear c0
          refine lv_iload_n hx hb dJ6_getChars_ba4f3_28 rfl (lv_at hl 2 rfl) ?_
          refine lv_bipush (v := 100) hx hb dJ6_getChars_ba4f3_29 (by decide) ?_
          refine lv_idiv hx hb dJ6_getChars_ba4f3_31 (by decide) ?_
          refine lv_topi (fun v1 e_v1 => ?_)
          have e9 : v1 = (-(nI (w / 100))) := e_v1.trans (sb_ndiv (by omega))
          subst e9
          refine lv_istore_n (lv' := [(3, .int (-(nI (w / 100)))), (6, .int 1), (5, .int (nI (n + 5))), (0, .int (-(nI w))), (1, .int (nI (n + 5))), (2, .ref a_v)]) hx hb dJ6_getChars_ba4f3_32 rfl hl (by decide) rfl (fun ls hl => ?_)
          refine lv_iload_n hx hb dJ6_getChars_ba4f3_33 rfl (lv_at hl 0 rfl) ?_
          refine lv_bipush (v := 100) hx hb dJ6_getChars_ba4f3_34 (by decide) ?_
          refine lv_imul hx hb dJ6_getChars_ba4f3_36 ?_
          refine lv_iload_n hx hb dJ6_getChars_ba4f3_37 rfl (lv_at hl 3 rfl) ?_
          refine lv_isub hx hb dJ6_getChars_ba4f3_38 ?_
          refine lv_topi (fun v2 e_v2 => ?_)
          have e9 : v2 = (nI (w % 100)) := e_v2.trans (sb_nrem (by omega))
          subst e9
          refine lv_istore (lv' := [(4, .int (nI (w % 100))), (3, .int (-(nI (w / 100)))), (6, .int 1), (5, .int (nI (n + 5))), (0, .int (-(nI w))), (1, .int (nI (n + 5))), (2, .ref a_v)]) hx hb dJ6_getChars_ba4f3_39 hl (by decide) rfl (fun ls hl => ?_)
          refine lv_iload_n hx hb dJ6_getChars_ba4f3_41 rfl (lv_at hl 1 rfl) ?_
          refine lv_istore_n (lv' := [(0, .int (-(nI (w / 100)))), (4, .int (nI (w % 100))), (3, .int (-(nI (w / 100)))), (6, .int 1), (5, .int (nI (n + 5))), (1, .int (nI (n + 5))), (2, .ref a_v)]) hx hb dJ6_getChars_ba4f3_42 rfl hl (by decide) rfl (fun ls hl => ?_)
          refine lv_aload_n hx hb dJ6_getChars_ba4f3_43 rfl (lv_at hl 6 rfl) ?_
          refine lv_iinc (v := (nI (n + 4))) (lv' := [(5, .int (nI (n + 4))), (0, .int (-(nI (w / 100)))), (4, .int (nI (w % 100))), (3, .int (-(nI (w / 100)))), (6, .int 1), (1, .int (nI (n + 5))), (2, .ref a_v)]) hx hb dJ6_getChars_ba4f3_44 hl (k := 4) rfl (iinc_m1 _) (by decide) rfl (fun ls hl => ?_)
          refine lv_iload hx hb dJ6_getChars_ba4f3_47 (lv_at hl 0 rfl) ?_
          refine va_gets hx hb hO1 hS hown (hta _ lk_J6_83) (fun _ h9 => h9) dJ6_getChars_ba4f3_49 ?_
          refine lv_iload hx hb dJ6_getChars_ba4f3_52 (lv_at hl 2 rfl) ?_
          refine va_tb hx hb hO2 hS (vp_in_nI (by omega) (by decide)) (do_at (by omega)) dJ6_getChars_ba4f3_54 ?_
          refine va_bast hx hb hK hP hD hS 0 6 rfl rfl (vp_in_nI (by omega) (by omega)) dJ6_getChars_ba4f3_55 (fun H locs hP hD hS => ?_)
          have hP : va_P (dC, dI) vwCl [(a_v, .inl (cT 6, cap, .inl (upd f (nI (n + 4)).toNatClampNeg (vp_nar .byte (nI (48 + (w % 100) % 10))))))] H := hP
          have hD : va_D A [(a_v, .inl (cT 6, cap, .inl (upd f (nI (n + 4)).toNatClampNeg (vp_nar .byte (nI (48 + (w % 100) % 10))))))] := hD
          refine lv_aload_n hx hb dJ6_getChars_ba4f3_56 rfl (lv_at hl 6 rfl) ?_
          refine lv_iinc (v := (nI (n + 3))) (lv' := [(5, .int (nI (n + 3))), (0, .int (-(nI (w / 100)))), (4, .int (nI (w % 100))), (3, .int (-(nI (w / 100)))), (6, .int 1), (1, .int (nI (n + 5))), (2, .ref a_v)]) hx hb dJ6_getChars_ba4f3_57 hl (k := 0) rfl (iinc_m1 _) (by decide) rfl (fun ls hl => ?_)
          refine lv_iload hx hb dJ6_getChars_ba4f3_60 (lv_at hl 0 rfl) ?_
          refine va_gets hx hb hT1 hS hown (hta _ lk_J6_87) (fun _ h9 => h9) dJ6_getChars_ba4f3_62 ?_
          refine lv_iload hx hb dJ6_getChars_ba4f3_65 (lv_at hl 2 rfl) ?_
          refine va_tb hx hb hT2 hS (vp_in_nI (by omega) (by decide)) (dt_at (by omega)) dJ6_getChars_ba4f3_67 ?_
          refine va_bast hx hb hK hP hD hS 0 6 rfl rfl (vp_in_nI (by omega) (by omega)) dJ6_getChars_ba4f3_68 (fun H locs hP hD hS => ?_)
          have hP : va_P (dC, dI) vwCl [(a_v, .inl (cT 6, cap, .inl (upd (upd f (nI (n + 4)).toNatClampNeg (vp_nar .byte (nI (48 + (w % 100) % 10)))) (nI (n + 3)).toNatClampNeg (vp_nar .byte (nI (48 + (w % 100) / 10))))))] H := hP
          have hD : va_D A [(a_v, .inl (cT 6, cap, .inl (upd (upd f (nI (n + 4)).toNatClampNeg (vp_nar .byte (nI (48 + (w % 100) % 10)))) (nI (n + 3)).toNatClampNeg (vp_nar .byte (nI (48 + (w % 100) / 10))))))] := hD
          refine lv_goto (tgt := 22) hx hb dJ6_getChars_ba4f3_69 (by decide) ?_
          refine lv_iload_n hx hb dJ6_getChars_ba4f3_22 rfl (lv_at hl 1 rfl) ?_
          refine lv_bipush (v := -100) hx hb dJ6_getChars_ba4f3_23 (by decide) ?_
          refine lv_icmp_gt (tgt := 72) hx hb dJ6_getChars_ba4f3_25 (by decide) (fun c0 => ?_) (fun c0 => ?_)
          · clear c0
            refine lv_aload_n hx hb dJ6_getChars_ba4f3_72 rfl (lv_at hl 6 rfl) ?_
            refine lv_iinc (v := (nI (n + 2))) (lv' := [(5, .int (nI (n + 2))), (0, .int (-(nI (w / 100)))), (4, .int (nI (w % 100))), (3, .int (-(nI (w / 100)))), (6, .int 1), (1, .int (nI (n + 5))), (2, .ref a_v)]) hx hb dJ6_getChars_ba4f3_73 hl (k := 0) rfl (iinc_m1 _) (by decide) rfl (fun ls hl => ?_)
            refine lv_iload hx hb dJ6_getChars_ba4f3_76 (lv_at hl 0 rfl) ?_
            refine va_gets hx hb hO1 hS hown (hta _ lk_J6_83) (fun _ h9 => h9) dJ6_getChars_ba4f3_78 ?_
            refine lv_iload_n hx hb dJ6_getChars_ba4f3_81 rfl (lv_at hl 1 rfl) ?_
            refine lv_ineg hx hb dJ6_getChars_ba4f3_82 ?_
            refine lv_topi (fun v3 e_v3 => ?_)
            have e9 : v3 = (nI (w / 100)) := e_v3.trans (Int32.neg_neg)
            subst e9
            refine va_tb hx hb hO2 hS (vp_in_nI (by omega) (by decide)) (do_at (by omega)) dJ6_getChars_ba4f3_83 ?_
            refine va_bast hx hb hK hP hD hS 0 6 rfl rfl (vp_in_nI (by omega) (by omega)) dJ6_getChars_ba4f3_84 (fun H locs hP hD hS => ?_)
            have hP : va_P (dC, dI) vwCl [(a_v, .inl (cT 6, cap, .inl (upd (upd (upd f (nI (n + 4)).toNatClampNeg (vp_nar .byte (nI (48 + (w % 100) % 10)))) (nI (n + 3)).toNatClampNeg (vp_nar .byte (nI (48 + (w % 100) / 10)))) (nI (n + 2)).toNatClampNeg (vp_nar .byte (nI (48 + (w / 100) % 10))))))] H := hP
            have hD : va_D A [(a_v, .inl (cT 6, cap, .inl (upd (upd (upd f (nI (n + 4)).toNatClampNeg (vp_nar .byte (nI (48 + (w % 100) % 10)))) (nI (n + 3)).toNatClampNeg (vp_nar .byte (nI (48 + (w % 100) / 10)))) (nI (n + 2)).toNatClampNeg (vp_nar .byte (nI (48 + (w / 100) % 10))))))] := hD
            refine lv_iload_n hx hb dJ6_getChars_ba4f3_85 rfl (lv_at hl 1 rfl) ?_
            refine lv_bipush (v := -9) hx hb dJ6_getChars_ba4f3_86 (by decide) ?_
            refine lv_icmp_ge (tgt := 104) hx hb dJ6_getChars_ba4f3_88 (by decide) (fun c0 => ?_) (fun c0 => ?_)
            · exact absurd c0 (fun h8 => absurd ((sb_nle (a := 9) (b := w / 100) (by omega) (by omega)).mp h8) (by omega))
            · clear c0
              refine lv_aload_n hx hb dJ6_getChars_ba4f3_91 rfl (lv_at hl 6 rfl) ?_
              refine lv_iinc (v := (nI (n + 1))) (lv' := [(5, .int (nI (n + 1))), (0, .int (-(nI (w / 100)))), (4, .int (nI (w % 100))), (3, .int (-(nI (w / 100)))), (6, .int 1), (1, .int (nI (n + 5))), (2, .ref a_v)]) hx hb dJ6_getChars_ba4f3_92 hl (k := 0) rfl (iinc_m1 _) (by decide) rfl (fun ls hl => ?_)
              refine lv_iload hx hb dJ6_getChars_ba4f3_95 (lv_at hl 0 rfl) ?_
              refine va_gets hx hb hT1 hS hown (hta _ lk_J6_87) (fun _ h9 => h9) dJ6_getChars_ba4f3_97 ?_
              refine lv_iload_n hx hb dJ6_getChars_ba4f3_100 rfl (lv_at hl 1 rfl) ?_
              refine lv_ineg hx hb dJ6_getChars_ba4f3_101 ?_
              refine lv_topi (fun v4 e_v4 => ?_)
              have e9 : v4 = (nI (w / 100)) := e_v4.trans (Int32.neg_neg)
              subst e9
              refine va_tb hx hb hT2 hS (vp_in_nI (by omega) (by decide)) (dt_at (by omega)) dJ6_getChars_ba4f3_102 ?_
              refine va_bast hx hb hK hP hD hS 0 6 rfl rfl (vp_in_nI (by omega) (by omega)) dJ6_getChars_ba4f3_103 (fun H locs hP hD hS => ?_)
              have hP : va_P (dC, dI) vwCl [(a_v, .inl (cT 6, cap, .inl (upd (upd (upd (upd f (nI (n + 4)).toNatClampNeg (vp_nar .byte (nI (48 + (w % 100) % 10)))) (nI (n + 3)).toNatClampNeg (vp_nar .byte (nI (48 + (w % 100) / 10)))) (nI (n + 2)).toNatClampNeg (vp_nar .byte (nI (48 + (w / 100) % 10)))) (nI (n + 1)).toNatClampNeg (vp_nar .byte (nI (48 + (w / 100) / 10))))))] H := hP
              have hD : va_D A [(a_v, .inl (cT 6, cap, .inl (upd (upd (upd (upd f (nI (n + 4)).toNatClampNeg (vp_nar .byte (nI (48 + (w % 100) % 10)))) (nI (n + 3)).toNatClampNeg (vp_nar .byte (nI (48 + (w % 100) / 10)))) (nI (n + 2)).toNatClampNeg (vp_nar .byte (nI (48 + (w / 100) % 10)))) (nI (n + 1)).toNatClampNeg (vp_nar .byte (nI (48 + (w / 100) / 10))))))] := hD
              refine lv_iload hx hb dJ6_getChars_ba4f3_104 (lv_at hl 4 rfl) ?_
              refine lv_if_eq (tgt := 118) hx hb dJ6_getChars_ba4f3_106 (by decide) (fun c0 => ?_) (fun c0 => ?_)
              · exact absurd c0 (by decide)
              · clear c0
                refine lv_aload_n hx hb dJ6_getChars_ba4f3_109 rfl (lv_at hl 6 rfl) ?_
                refine lv_iinc (v := (nI (n + 0))) (lv' := [(5, .int (nI (n + 0))), (0, .int (-(nI (w / 100)))), (4, .int (nI (w % 100))), (3, .int (-(nI (w / 100)))), (6, .int 1), (1, .int (nI (n + 5))), (2, .ref a_v)]) hx hb dJ6_getChars_ba4f3_110 hl (k := 0) rfl (iinc_m1 _) (by decide) rfl (fun ls hl => ?_)
                refine lv_iload hx hb dJ6_getChars_ba4f3_113 (lv_at hl 0 rfl) ?_
                refine lv_bipush (v := 45) hx hb dJ6_getChars_ba4f3_115 (by decide) ?_
                refine va_bast hx hb hK hP hD hS 0 6 rfl rfl (vp_in_nI (by omega) (by omega)) dJ6_getChars_ba4f3_117 (fun H locs hP hD hS => ?_)
                have hP : va_P (dC, dI) vwCl [(a_v, .inl (cT 6, cap, .inl (upd (upd (upd (upd (upd f (nI (n + 4)).toNatClampNeg (vp_nar .byte (nI (48 + (w % 100) % 10)))) (nI (n + 3)).toNatClampNeg (vp_nar .byte (nI (48 + (w % 100) / 10)))) (nI (n + 2)).toNatClampNeg (vp_nar .byte (nI (48 + (w / 100) % 10)))) (nI (n + 1)).toNatClampNeg (vp_nar .byte (nI (48 + (w / 100) / 10)))) (nI (n + 0)).toNatClampNeg (vp_nar .byte 45))))] H := hP
                have hD : va_D A [(a_v, .inl (cT 6, cap, .inl (upd (upd (upd (upd (upd f (nI (n + 4)).toNatClampNeg (vp_nar .byte (nI (48 + (w % 100) % 10)))) (nI (n + 3)).toNatClampNeg (vp_nar .byte (nI (48 + (w % 100) / 10)))) (nI (n + 2)).toNatClampNeg (vp_nar .byte (nI (48 + (w / 100) % 10)))) (nI (n + 1)).toNatClampNeg (vp_nar .byte (nI (48 + (w / 100) / 10)))) (nI (n + 0)).toNatClampNeg (vp_nar .byte 45))))] := hD
                refine lv_iload hx hb dJ6_getChars_ba4f3_118 (lv_at hl 0 rfl) ?_
                have hg : GD n 0 (dl true w) f (upd (upd (upd (upd (upd f (nI (n + 4)).toNatClampNeg (vp_nar .byte (nI (48 + (w % 100) % 10)))) (nI (n + 3)).toNatClampNeg (vp_nar .byte (nI (48 + (w % 100) / 10)))) (nI (n + 2)).toNatClampNeg (vp_nar .byte (nI (48 + (w / 100) % 10)))) (nI (n + 1)).toNatClampNeg (vp_nar .byte (nI (48 + (w / 100) / 10)))) (nI (n + 0)).toNatClampNeg (vp_nar .byte 45)) := by rw [hdl]; exact (gc_step (k := 0) (c := 45) (gc_step (k := 1) (c := 48 + (w / 100) / 10) (gc_step (k := 2) (c := 48 + (w / 100) % 10) (gc_step (k := 3) (c := 48 + (w % 100) / 10) (gc_step (k := 4) (c := 48 + (w % 100) % 10) (gd_0 hff (Nat.le_refl _)) (Nat.le_of_ble_eq_true rfl) rfl (by omega) (by omega)) (Nat.le_of_ble_eq_true rfl) rfl (by omega) (by omega)) (Nat.le_of_ble_eq_true rfl) rfl (by omega) (by omega)) (Nat.le_of_ble_eq_true rfl) rfl (by omega) (by omega)) (Nat.le_of_ble_eq_true rfl) rfl (by decide) (by omega))
                exact W.iret (v := (nI (n + 0))) hx hb hr (fun t ht hW => ⟨⟨(nI (n + 0)), (upd (upd (upd (upd (upd f (nI (n + 4)).toNatClampNeg (vp_nar .byte (nI (48 + (w % 100) % 10)))) (nI (n + 3)).toNatClampNeg (vp_nar .byte (nI (48 + (w % 100) / 10)))) (nI (n + 2)).toNatClampNeg (vp_nar .byte (nI (48 + (w / 100) % 10)))) (nI (n + 1)).toNatClampNeg (vp_nar .byte (nI (48 + (w / 100) / 10)))) (nI (n + 0)).toNatClampNeg (vp_nar .byte 45)), rfl, hg, by rw [ht]; exact hP, hD⟩, hS.F ht⟩) hS.2.2 dJ6_getChars_ba4f3_120
          · exact absurd (sg_lt (c := 100) (by omega) (by decide)) c0
      · exact absurd c0 (by decide)
