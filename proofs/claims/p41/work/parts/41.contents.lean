set_option maxHeartbeats 4000000 in
set_option maxRecDepth 100000 in
theorem c_X1_copy (l : Launch) (dC : Nat → ClassId) (dI : Nat → Nat → Nat) (cT : Nat → ClassId) {Hh : Heap} {a_t : Nat} {a_p1 : Nat} {a_t_many : Nat} {a_p1_many : Nat} {a_t_much : Nat} {a_p1_much : Nat} {t_many : Nat → Int32} {p1_many : Nat → Int32} {t_much : Nat → UInt32} {p1_much : Nat → UInt32} {o : (Nat → Int32) × (Nat → UInt32)} (h : g_X1_copy t_many p1_many t_much p1_much = some o) (hP0 : va_P (dC, dI) vwCl [(a_t_many, .inl (cT 0, 6, .inl t_many)), (a_t_much, .inl (cT 4, 6, .inr (.inr (.inl t_much))))] Hh) (hR0 : va_P (dC, dI) vwCl [(a_t, .inr (5, [.ref a_t_many, .ref a_t_much])), (a_p1, .inr (5, [.ref a_p1_many, .ref a_p1_much])), (a_p1_many, .inl (cT 0, 6, .inl p1_many)), (a_p1_much, .inl (cT 4, 6, .inr (.inr (.inl p1_much))))] Hh) (hD0 : va_D (fun _ => True) [(a_t_many, .inl (cT 0, 6, .inl t_many)), (a_t_much, .inl (cT 4, 6, .inr (.inr (.inl t_much))))]) (hN0 : ∀ (k : Nat) (q : Nat × va_E), ([(a_t, .inr (5, [.ref a_t_many, .ref a_t_much])), (a_p1, .inr (5, [.ref a_p1_many, .ref a_p1_much])), (a_p1_many, .inl (cT 0, 6, .inl p1_many)), (a_p1_much, .inl (cT 4, 6, .inr (.inr (.inl p1_much))))] : va_W)[k]? = some q → ¬ va_A [(a_t_many, .inl (cT 0, 6, .inl t_many)), (a_t_much, .inl (cT 4, 6, .inr (.inr (.inl t_much))))] Hh.size q.1) : Met l yX1_copy (wA yX1_copy cX1_copy 3 none) ({ frames := 0, cells := 0, slots := 0, locals := 0 } : Room) (PK dC dI cT [.ref a_t, .ref a_p1] Hh) (va_Qv (fun (_ : Unit) => True) (fun _ t => va_P (dC, dI) vwCl [(a_t_many, .inl (cT 0, 6, .inl o.1)), (a_t_much, .inl (cT 4, 6, .inr (.inr (.inl o.2))))] t.heap) (va_A [(a_t_many, .inl (cT 0, 6, .inl t_many)), (a_t_much, .inl (cT 4, 6, .inr (.inr (.inl t_much))))] Hh.size)) 0 0 (va_A [(a_t_many, .inl (cT 0, 6, .inl t_many)), (a_t_much, .inl (cT 4, 6, .inr (.inr (.inl t_much))))] Hh.size) := by
  refine Met.ofW (cc := cX1_copy) (maxL := 3) (ret := none) (by decide) rfl ?_
  intro p e s m args below meth c s₁ B hml hv
  obtain ⟨rfl, hH, hK⟩ := hv
  subst hH
  have hx := B.exec
  have hb := B.bytes
  have hr := B.returns
  have hta : ∀ w ∈ ALLW, w.before [.ref a_t, .ref a_p1].toArray s = true := fun w hw => atoms_spec (ws := wA yX1_copy cX1_copy 3 none) B.pre w (List.mem_cons_of_mem _ hw)
  have hown : s.vm.findClass RX1 = some m.cls := findClass_of_methodNamed B.named
  have hlocks := B.notSynchronized
  have hD := hD0.self (sz := s.heap.size)
  have hNA := hN0
  generalize hAe : va_A [(a_t_many, .inl (cT 0, 6, .inl t_many)), (a_t_much, .inl (cT 4, 6, .inr (.inr (.inl t_much))))] s.heap.size = A at hD hNA ⊢
  have hP := hP0
  have hA : ∀ q : Nat, s.heap.size ≤ q → A q := fun q h => by rw [← hAe]; exact Or.inr h
  have hS : va_S A s.heap s.heap [] := va_S.rf
  have hl := lv_entry [.ref a_t, .ref a_p1] (n := 3) (Nat.le_of_ble_eq_true rfl)
  rw [lg_entry_eq]
  generalize (lg_sl [.ref a_t, .ref a_p1] ++ List.replicate (3 - (lg_sl [.ref a_t, .ref a_p1]).length) Slot.unset).toArray = ls at hl ⊢
  have hl : lv_has ls 3 [(0, .ref a_t), (1, .ref a_p1)] := hl
  obtain ⟨Q, hQ⟩ : ∃ Q, Q = MQ below (va_Qv (fun (_ : Unit) => True) (fun _ t => va_P (dC, dI) vwCl [(a_t_many, .inl (cT 0, 6, .inl o.1)), (a_t_much, .inl (cT 4, 6, .inr (.inr (.inl o.2))))] t.heap) A) [.ref a_t, .ref a_p1].toArray s 0 0 A := ⟨_, rfl⟩
  rw [← hQ]
  have wB_2 : ∀ (n_2 : Nat), ∀ (t_many_2 : Nat → Int32) (t_much_2 : Nat → UInt32) (x2_2 : Int32) (H : Heap) (locs : List Loc) (ls : Array Slot), g_X1_copy_b2 p1_many p1_much n_2 t_many_2 t_much_2 x2_2 = some o → va_P (dC, dI) vwCl [(a_t_many, .inl (cT 0, 6, .inl t_many_2)), (a_t_much, .inl (cT 4, 6, .inr (.inr (.inl t_much_2))))] H → va_D A [(a_t_many, .inl (cT 0, 6, .inl t_many_2)), (a_t_much, .inl (cT 4, 6, .inr (.inr (.inl t_much_2))))] → va_S A s.heap H locs → lv_has ls 3 [(0, .ref a_t), (1, .ref a_p1), (2, .int x2_2)] → W p l e ({ frames := 0, cells := 0, slots := 0, locals := 0 } : Room) s m [.ref a_t, .ref a_p1].toArray below meth c H locs 0 0 Q (F0 m 2 ls []) := by
    intro n_2
    induction n_2 with
    | zero =>
      intro t_many_2 t_much_2 x2_2 H locs ls h hP hD hS hl
      simp [g_X1_copy_b2] at h
    | succ n_2 ih_2 =>
      intro t_many_2 t_much_2 x2_2 H locs ls h hP hD hS hl
      rw [g_X1_copy_b2] at h
      refine lv_iload_n hx hb dX1_copy_2 rfl (lv_at hl 2 rfl) ?_
      refine lv_bipush (v := 6) hx hb dX1_copy_3 (by decide) ?_
      refine lv_icmp_ge (tgt := 38) hx hb dX1_copy_5 (by decide) (fun c0 => ?_) (fun c0 => ?_)
      · have h := (if_pos c0).symm.trans h
        have ho := Option.some.inj h
        rw [hQ]
        exact W.vret hx hb hr (fun t ht hW => ⟨⟨(), rfl, trivial, by show va_P (dC, dI) vwCl _ t.heap; rw [ht, ← ho]; exact hP⟩, hS.F ht⟩) hS.2.2 dX1_copy_38
      · have h := (if_neg c0).symm.trans h
        refine lv_aload_n hx hb dX1_copy_8 rfl (lv_at hl 0 rfl) ?_
        refine va_get (D := (dC, dI)) (ci := 5) (v := .ref a_t_many) (C := RX1) (T := TX1) (N := 2) hx hb hta inX1w hown hK (rk hR0 hNA hS) 0 rfl rfl 0 (by decide) (hta _ lk_X1_9) (fun _ h9 => h9) rfl dX1_copy_9 ?_
        refine lv_iload_n hx hb dX1_copy_12 rfl (lv_at hl 2 rfl) ?_
        refine lv_aload_n hx hb dX1_copy_13 rfl (lv_at hl 1 rfl) ?_
        refine va_get (D := (dC, dI)) (ci := 5) (v := .ref a_p1_many) (C := RX1) (T := TX1) (N := 2) hx hb hta inX1w hown hK (rk hR0 hNA hS) 1 rfl rfl 0 (by decide) (hta _ lk_X1_9) (fun _ h9 => h9) rfl dX1_copy_14 ?_
        refine lv_iload_n hx hb dX1_copy_17 rfl (lv_at hl 2 rfl) ?_
        obtain ⟨hc, h⟩ := gc_some h
        refine va_iald hx hb hK (rk hR0 hNA hS) 2 0 rfl rfl (inb_in hc) dX1_copy_18 ?_
        obtain ⟨hc, h⟩ := gc_some h
        refine va_iast hx hb hK hP hD hS 0 0 rfl rfl (inb_in hc) dX1_copy_19 (fun H locs hP hD hS => ?_)
        have hP : va_P (dC, dI) vwCl [(a_t_many, .inl (cT 0, 6, .inl (upd t_many_2 x2_2.toNatClampNeg (p1_many x2_2.toNatClampNeg)))), (a_t_much, .inl (cT 4, 6, .inr (.inr (.inl t_much_2))))] H := hP
        have hD : va_D A [(a_t_many, .inl (cT 0, 6, .inl (upd t_many_2 x2_2.toNatClampNeg (p1_many x2_2.toNatClampNeg)))), (a_t_much, .inl (cT 4, 6, .inr (.inr (.inl t_much_2))))] := hD
        refine lv_aload_n hx hb dX1_copy_20 rfl (lv_at hl 0 rfl) ?_
        refine va_get (D := (dC, dI)) (ci := 5) (v := .ref a_t_much) (C := RX1) (T := TX1) (N := 2) hx hb hta inX1w hown hK (rk hR0 hNA hS) 0 rfl rfl 1 (by decide) (hta _ lk_X1_15) (fun _ h9 => h9) rfl dX1_copy_21 ?_
        refine lv_iload_n hx hb dX1_copy_24 rfl (lv_at hl 2 rfl) ?_
        refine lv_aload_n hx hb dX1_copy_25 rfl (lv_at hl 1 rfl) ?_
        refine va_get (D := (dC, dI)) (ci := 5) (v := .ref a_p1_much) (C := RX1) (T := TX1) (N := 2) hx hb hta inX1w hown hK (rk hR0 hNA hS) 1 rfl rfl 1 (by decide) (hta _ lk_X1_15) (fun _ h9 => h9) rfl dX1_copy_26 ?_
        refine lv_iload_n hx hb dX1_copy_29 rfl (lv_at hl 2 rfl) ?_
        obtain ⟨hc, h⟩ := gc_some h
        refine va_fald hx hb hK (rk hR0 hNA hS) 3 4 rfl rfl (inb_in hc) dX1_copy_30 ?_
        obtain ⟨hc, h⟩ := gc_some h
        refine va_fast hx hb hK hP hD hS 1 4 rfl rfl (inb_in hc) dX1_copy_31 (fun H locs hP hD hS => ?_)
        have hP : va_P (dC, dI) vwCl [(a_t_many, .inl (cT 0, 6, .inl (upd t_many_2 x2_2.toNatClampNeg (p1_many x2_2.toNatClampNeg)))), (a_t_much, .inl (cT 4, 6, .inr (.inr (.inl (vf_upd t_much_2 x2_2.toNatClampNeg (p1_much x2_2.toNatClampNeg))))))] H := hP
        have hD : va_D A [(a_t_many, .inl (cT 0, 6, .inl (upd t_many_2 x2_2.toNatClampNeg (p1_many x2_2.toNatClampNeg)))), (a_t_much, .inl (cT 4, 6, .inr (.inr (.inl (vf_upd t_much_2 x2_2.toNatClampNeg (p1_much x2_2.toNatClampNeg))))))] := hD
        obtain ⟨v1, e_v1⟩ : ∃ y : Int32, y = x2_2 + 1 := ⟨_, rfl⟩
        have h := gl_use e_v1 h
        refine lv_iinc (v := v1) (lv' := [(2, .int v1), (0, .ref a_t), (1, .ref a_p1)]) hx hb dX1_copy_32 hl (k := 2) rfl (by rw [e_v1]; rfl) (by decide) rfl (fun ls hl => ?_)
        refine lv_goto (tgt := 2) hx hb dX1_copy_35 (by decide) ?_
        exact ih_2 (upd t_many_2 x2_2.toNatClampNeg (p1_many x2_2.toNatClampNeg)) (vf_upd t_much_2 x2_2.toNatClampNeg (p1_much x2_2.toNatClampNeg)) v1 _ _ _ h hP hD hS (lv_sub hl [1, 2, 0] rfl)
  unfold g_X1_copy at h
  refine lv_iconst (v := 0) hx hb dX1_copy_0 (by decide) ?_
  refine lv_istore_n (lv' := [(2, .int 0), (0, .ref a_t), (1, .ref a_p1)]) hx hb dX1_copy_1 rfl hl (by decide) rfl (fun ls hl => ?_)
  exact wB_2 100 t_many t_much 0 _ _ _ h hP hD hS (lv_sub hl [1, 2, 0] rfl)
set_option maxHeartbeats 4000000 in
set_option maxRecDepth 100000 in
theorem c_X0_setUp (l : Launch) (dC : Nat → ClassId) (dI : Nat → Nat → Nat) (cT : Nat → ClassId) {Hh : Heap} {a_t : Nat} {a_t_isBroth : Nat} {a_t_low : Nat} {a_t_high : Nat} {a_t_contents : Nat} {a_t_contents_many : Nat} {a_t_contents_much : Nat} {a_t_storesIn : Nat} {a_t_texts : Nat} {a_t_cooked : Nat} {t_cauldrons : Int32} {t_isBroth : Nat → Int32} {t_low : Nat → Int32} {t_high : Nat → Int32} {t_contents_many : Nat → Int32} {t_contents_much : Nat → UInt32} {t_storesIn : Nat → Int32} {p1 : Int32} {p2 : Int32} {p3 : Int32} {t_spells : Int32} {t_cookedSoFar : Int32} {t_storesSoFar : Int32} {o : Int32 × Int32 × (Nat → Int32) × (Nat → Int32) × (Nat → Int32) × (Nat → Int32) × (Nat → UInt32) × (Nat → Int32)} (h : g_X0_setUp t_cauldrons t_isBroth t_low t_high t_contents_many t_contents_much t_storesIn p1 p2 p3 = some o) (hP0 : va_P (dC, dI) vwCl [(a_t, .inr (4, [.int t_cauldrons, .ref a_t_isBroth, .ref a_t_low, .ref a_t_high, .ref a_t_contents, .ref a_t_storesIn, .int t_spells, .ref a_t_texts, .ref a_t_cooked, .int t_cookedSoFar, .int t_storesSoFar])), (a_t_isBroth, .inl (cT 1, 6, .inl t_isBroth)), (a_t_low, .inl (cT 0, 6, .inl t_low)), (a_t_high, .inl (cT 0, 6, .inl t_high)), (a_t_contents_many, .inl (cT 0, 6, .inl t_contents_many)), (a_t_contents_much, .inl (cT 4, 6, .inr (.inr (.inl t_contents_much)))), (a_t_storesIn, .inl (cT 0, 6, .inl t_storesIn))] Hh) (hR0 : va_P (dC, dI) vwCl [(a_t_contents, .inr (5, [.ref a_t_contents_many, .ref a_t_contents_much]))] Hh) (hD0 : va_D (fun _ => True) [(a_t, .inr (4, [.int t_cauldrons, .ref a_t_isBroth, .ref a_t_low, .ref a_t_high, .ref a_t_contents, .ref a_t_storesIn, .int t_spells, .ref a_t_texts, .ref a_t_cooked, .int t_cookedSoFar, .int t_storesSoFar])), (a_t_isBroth, .inl (cT 1, 6, .inl t_isBroth)), (a_t_low, .inl (cT 0, 6, .inl t_low)), (a_t_high, .inl (cT 0, 6, .inl t_high)), (a_t_contents_many, .inl (cT 0, 6, .inl t_contents_many)), (a_t_contents_much, .inl (cT 4, 6, .inr (.inr (.inl t_contents_much)))), (a_t_storesIn, .inl (cT 0, 6, .inl t_storesIn))]) (hN0 : ∀ (k : Nat) (q : Nat × va_E), ([(a_t_contents, .inr (5, [.ref a_t_contents_many, .ref a_t_contents_much]))] : va_W)[k]? = some q → ¬ va_A [(a_t, .inr (4, [.int t_cauldrons, .ref a_t_isBroth, .ref a_t_low, .ref a_t_high, .ref a_t_contents, .ref a_t_storesIn, .int t_spells, .ref a_t_texts, .ref a_t_cooked, .int t_cookedSoFar, .int t_storesSoFar])), (a_t_isBroth, .inl (cT 1, 6, .inl t_isBroth)), (a_t_low, .inl (cT 0, 6, .inl t_low)), (a_t_high, .inl (cT 0, 6, .inl t_high)), (a_t_contents_many, .inl (cT 0, 6, .inl t_contents_many)), (a_t_contents_much, .inl (cT 4, 6, .inr (.inr (.inl t_contents_much)))), (a_t_storesIn, .inl (cT 0, 6, .inl t_storesIn))] Hh.size q.1) : Met l yX0_setUp (wA yX0_setUp cX0_setUp 5 (some .int)) ({ frames := 1, cells := 0, slots := 0, locals := 21 } : Room) (PK dC dI cT [.ref a_t, .int p1, .int p2, .int p3] Hh) (va_Qi (fun x (_ : Unit) => x = o.1) (fun _ t => va_P (dC, dI) vwCl [(a_t, .inr (4, [.int o.2.1, .ref a_t_isBroth, .ref a_t_low, .ref a_t_high, .ref a_t_contents, .ref a_t_storesIn, .int t_spells, .ref a_t_texts, .ref a_t_cooked, .int t_cookedSoFar, .int t_storesSoFar])), (a_t_isBroth, .inl (cT 1, 6, .inl o.2.2.1)), (a_t_low, .inl (cT 0, 6, .inl o.2.2.2.1)), (a_t_high, .inl (cT 0, 6, .inl o.2.2.2.2.1)), (a_t_contents_many, .inl (cT 0, 6, .inl o.2.2.2.2.2.1)), (a_t_contents_much, .inl (cT 4, 6, .inr (.inr (.inl o.2.2.2.2.2.2.1)))), (a_t_storesIn, .inl (cT 0, 6, .inl o.2.2.2.2.2.2.2))] t.heap) (va_A [(a_t, .inr (4, [.int t_cauldrons, .ref a_t_isBroth, .ref a_t_low, .ref a_t_high, .ref a_t_contents, .ref a_t_storesIn, .int t_spells, .ref a_t_texts, .ref a_t_cooked, .int t_cookedSoFar, .int t_storesSoFar])), (a_t_isBroth, .inl (cT 1, 6, .inl t_isBroth)), (a_t_low, .inl (cT 0, 6, .inl t_low)), (a_t_high, .inl (cT 0, 6, .inl t_high)), (a_t_contents_many, .inl (cT 0, 6, .inl t_contents_many)), (a_t_contents_much, .inl (cT 4, 6, .inr (.inr (.inl t_contents_much)))), (a_t_storesIn, .inl (cT 0, 6, .inl t_storesIn))] Hh.size)) 0 0 (va_A [(a_t, .inr (4, [.int t_cauldrons, .ref a_t_isBroth, .ref a_t_low, .ref a_t_high, .ref a_t_contents, .ref a_t_storesIn, .int t_spells, .ref a_t_texts, .ref a_t_cooked, .int t_cookedSoFar, .int t_storesSoFar])), (a_t_isBroth, .inl (cT 1, 6, .inl t_isBroth)), (a_t_low, .inl (cT 0, 6, .inl t_low)), (a_t_high, .inl (cT 0, 6, .inl t_high)), (a_t_contents_many, .inl (cT 0, 6, .inl t_contents_many)), (a_t_contents_much, .inl (cT 4, 6, .inr (.inr (.inl t_contents_much)))), (a_t_storesIn, .inl (cT 0, 6, .inl t_storesIn))] Hh.size) := by
  refine Met.ofW (cc := cX0_setUp) (maxL := 5) (ret := (some .int)) (by decide) rfl ?_
  intro p e s m args below meth c s₁ B hml hv
  obtain ⟨rfl, hH, hK⟩ := hv
  subst hH
  have hx := B.exec
  have hb := B.bytes
  have hr := B.returns
  have hta : ∀ w ∈ ALLW, w.before [.ref a_t, .int p1, .int p2, .int p3].toArray s = true := fun w hw => atoms_spec (ws := wA yX0_setUp cX0_setUp 5 (some .int)) B.pre w (List.mem_cons_of_mem _ hw)
  have hown : s.vm.findClass RX0 = some m.cls := findClass_of_methodNamed B.named
  have hlocks := B.notSynchronized
  have hD := hD0.self (sz := s.heap.size)
  have hNA := hN0
  generalize hAe : va_A [(a_t, .inr (4, [.int t_cauldrons, .ref a_t_isBroth, .ref a_t_low, .ref a_t_high, .ref a_t_contents, .ref a_t_storesIn, .int t_spells, .ref a_t_texts, .ref a_t_cooked, .int t_cookedSoFar, .int t_storesSoFar])), (a_t_isBroth, .inl (cT 1, 6, .inl t_isBroth)), (a_t_low, .inl (cT 0, 6, .inl t_low)), (a_t_high, .inl (cT 0, 6, .inl t_high)), (a_t_contents_many, .inl (cT 0, 6, .inl t_contents_many)), (a_t_contents_much, .inl (cT 4, 6, .inr (.inr (.inl t_contents_much)))), (a_t_storesIn, .inl (cT 0, 6, .inl t_storesIn))] s.heap.size = A at hD hNA ⊢
  have hP := hP0
  have hA : ∀ q : Nat, s.heap.size ≤ q → A q := fun q h => by rw [← hAe]; exact Or.inr h
  have hS : va_S A s.heap s.heap [] := va_S.rf
  have hl := lv_entry [.ref a_t, .int p1, .int p2, .int p3] (n := 5) (Nat.le_of_ble_eq_true rfl)
  rw [lg_entry_eq]
  generalize (lg_sl [.ref a_t, .int p1, .int p2, .int p3] ++ List.replicate (5 - (lg_sl [.ref a_t, .int p1, .int p2, .int p3]).length) Slot.unset).toArray = ls at hl ⊢
  have hl : lv_has ls 5 [(0, .ref a_t), (1, .int p1), (2, .int p2), (3, .int p3)] := hl
  unfold g_X0_setUp at h
  refine lv_aload_n hx hb dX0_setUp_0 rfl (lv_at hl 0 rfl) ?_
  refine va_get (D := (dC, dI)) (ci := 4) (v := .int t_cauldrons) (C := RX0) (T := TX0) (N := 11) hx hb hta inX0w hown hK hP 0 rfl rfl 0 (by decide) (hta _ lk_X0_41) (fun _ h9 => h9) rfl dX0_setUp_1 ?_
  refine lv_istore (lv' := [(4, .int t_cauldrons), (0, .ref a_t), (1, .int p1), (2, .int p2), (3, .int p3)]) hx hb dX0_setUp_4 hl (by decide) rfl (fun ls hl => ?_)
  refine lv_iload hx hb dX0_setUp_6 (lv_at hl 0 rfl) ?_
  refine lv_if_lt (tgt := 18) hx hb dX0_setUp_8 (by decide) (fun c0 => ?_) (fun c0 => ?_)
  · have h := (if_pos c0).symm.trans h
    refine lv_iconst (v := -1) hx hb dX0_setUp_18 (by decide) ?_
    have ho := Option.some.inj h
    exact W.iret (v := (-1)) hx hb hr (fun t ht hW => ⟨⟨(-1), (), rfl, by rw [← ho], by show va_P (dC, dI) vwCl _ t.heap; rw [ht, ← ho]; exact hP⟩, hS.F ht⟩) hS.2.2 dX0_setUp_19
  · have h := (if_neg c0).symm.trans h
    refine lv_iload hx hb dX0_setUp_11 (lv_at hl 0 rfl) ?_
    refine lv_bipush (v := 6) hx hb dX0_setUp_13 (by decide) ?_
    refine lv_icmp_lt (tgt := 20) hx hb dX0_setUp_15 (by decide) (fun c0 => ?_) (fun c0 => ?_)
    · have h := (if_pos c0).symm.trans h
      refine lv_aload_n hx hb dX0_setUp_20 rfl (lv_at hl 1 rfl) ?_
      refine lv_dup hx hb dX0_setUp_21 rfl ?_
      refine va_get (D := (dC, dI)) (ci := 4) (v := .int t_cauldrons) (C := RX0) (T := TX0) (N := 11) hx hb hta inX0w hown hK hP 0 rfl rfl 0 (by decide) (hta _ lk_X0_41) (fun _ h9 => h9) rfl dX0_setUp_22 ?_
      refine lv_iconst (v := 1) hx hb dX0_setUp_25 (by decide) ?_
      refine lv_iadd hx hb dX0_setUp_26 ?_
      refine lv_topi (fun v1 e_v1 => ?_)
      have h := gl_use e_v1 h
      refine va_put (D := (dC, dI)) (ci := 4) (v := .int v1) (ty := .int) (C := RX0) (T := TX0) (N := 11) hx hb hta inX0w tyX0 tyX0_ok nmX0 hown hK hP hD hS 0 rfl rfl 0 (by decide) (hta _ lk_X0_41) (fun _ h9 => h9) rfl (by decide +kernel) rfl rfl (Nat.le_of_ble_eq_true rfl) dX0_setUp_27 (fun H locs hP hD hS => ?_)
      have hP : va_P (dC, dI) vwCl [(a_t, .inr (4, [.int v1, .ref a_t_isBroth, .ref a_t_low, .ref a_t_high, .ref a_t_contents, .ref a_t_storesIn, .int t_spells, .ref a_t_texts, .ref a_t_cooked, .int t_cookedSoFar, .int t_storesSoFar])), (a_t_isBroth, .inl (cT 1, 6, .inl t_isBroth)), (a_t_low, .inl (cT 0, 6, .inl t_low)), (a_t_high, .inl (cT 0, 6, .inl t_high)), (a_t_contents_many, .inl (cT 0, 6, .inl t_contents_many)), (a_t_contents_much, .inl (cT 4, 6, .inr (.inr (.inl t_contents_much)))), (a_t_storesIn, .inl (cT 0, 6, .inl t_storesIn))] H := hP
      have hD : va_D A [(a_t, .inr (4, [.int v1, .ref a_t_isBroth, .ref a_t_low, .ref a_t_high, .ref a_t_contents, .ref a_t_storesIn, .int t_spells, .ref a_t_texts, .ref a_t_cooked, .int t_cookedSoFar, .int t_storesSoFar])), (a_t_isBroth, .inl (cT 1, 6, .inl t_isBroth)), (a_t_low, .inl (cT 0, 6, .inl t_low)), (a_t_high, .inl (cT 0, 6, .inl t_high)), (a_t_contents_many, .inl (cT 0, 6, .inl t_contents_many)), (a_t_contents_much, .inl (cT 4, 6, .inr (.inr (.inl t_contents_much)))), (a_t_storesIn, .inl (cT 0, 6, .inl t_storesIn))] := hD
      refine lv_aload_n hx hb dX0_setUp_30 rfl (lv_at hl 1 rfl) ?_
      refine va_get (D := (dC, dI)) (ci := 4) (v := .ref a_t_isBroth) (C := RX0) (T := TX0) (N := 11) hx hb hta inX0w hown hK hP 0 rfl rfl 1 (by decide) (hta _ lk_X0_9) (fun _ h9 => h9) rfl dX0_setUp_31 ?_
      refine lv_iload hx hb dX0_setUp_34 (lv_at hl 0 rfl) ?_
      refine lv_iload_n hx hb dX0_setUp_36 rfl (lv_at hl 2 rfl) ?_
      obtain ⟨hc, h⟩ := gc_some h
      refine va_zast hx hb hK hP hD hS 1 1 rfl rfl (inb_in hc) dX0_setUp_37 (fun H locs hP hD hS => ?_)
      have hP : va_P (dC, dI) vwCl [(a_t, .inr (4, [.int v1, .ref a_t_isBroth, .ref a_t_low, .ref a_t_high, .ref a_t_contents, .ref a_t_storesIn, .int t_spells, .ref a_t_texts, .ref a_t_cooked, .int t_cookedSoFar, .int t_storesSoFar])), (a_t_isBroth, .inl (cT 1, 6, .inl (upd t_isBroth t_cauldrons.toNatClampNeg (vp_nar .boolean p1)))), (a_t_low, .inl (cT 0, 6, .inl t_low)), (a_t_high, .inl (cT 0, 6, .inl t_high)), (a_t_contents_many, .inl (cT 0, 6, .inl t_contents_many)), (a_t_contents_much, .inl (cT 4, 6, .inr (.inr (.inl t_contents_much)))), (a_t_storesIn, .inl (cT 0, 6, .inl t_storesIn))] H := hP
      have hD : va_D A [(a_t, .inr (4, [.int v1, .ref a_t_isBroth, .ref a_t_low, .ref a_t_high, .ref a_t_contents, .ref a_t_storesIn, .int t_spells, .ref a_t_texts, .ref a_t_cooked, .int t_cookedSoFar, .int t_storesSoFar])), (a_t_isBroth, .inl (cT 1, 6, .inl (upd t_isBroth t_cauldrons.toNatClampNeg (vp_nar .boolean p1)))), (a_t_low, .inl (cT 0, 6, .inl t_low)), (a_t_high, .inl (cT 0, 6, .inl t_high)), (a_t_contents_many, .inl (cT 0, 6, .inl t_contents_many)), (a_t_contents_much, .inl (cT 4, 6, .inr (.inr (.inl t_contents_much)))), (a_t_storesIn, .inl (cT 0, 6, .inl t_storesIn))] := hD
      refine lv_aload_n hx hb dX0_setUp_38 rfl (lv_at hl 1 rfl) ?_
      refine va_get (D := (dC, dI)) (ci := 4) (v := .ref a_t_low) (C := RX0) (T := TX0) (N := 11) hx hb hta inX0w hown hK hP 0 rfl rfl 2 (by decide) (hta _ lk_X0_15) (fun _ h9 => h9) rfl dX0_setUp_39 ?_
      refine lv_iload hx hb dX0_setUp_42 (lv_at hl 0 rfl) ?_
      refine lv_iload_n hx hb dX0_setUp_44 rfl (lv_at hl 3 rfl) ?_
      obtain ⟨hc, h⟩ := gc_some h
      refine va_iast hx hb hK hP hD hS 2 0 rfl rfl (inb_in hc) dX0_setUp_45 (fun H locs hP hD hS => ?_)
      have hP : va_P (dC, dI) vwCl [(a_t, .inr (4, [.int v1, .ref a_t_isBroth, .ref a_t_low, .ref a_t_high, .ref a_t_contents, .ref a_t_storesIn, .int t_spells, .ref a_t_texts, .ref a_t_cooked, .int t_cookedSoFar, .int t_storesSoFar])), (a_t_isBroth, .inl (cT 1, 6, .inl (upd t_isBroth t_cauldrons.toNatClampNeg (vp_nar .boolean p1)))), (a_t_low, .inl (cT 0, 6, .inl (upd t_low t_cauldrons.toNatClampNeg p2))), (a_t_high, .inl (cT 0, 6, .inl t_high)), (a_t_contents_many, .inl (cT 0, 6, .inl t_contents_many)), (a_t_contents_much, .inl (cT 4, 6, .inr (.inr (.inl t_contents_much)))), (a_t_storesIn, .inl (cT 0, 6, .inl t_storesIn))] H := hP
      have hD : va_D A [(a_t, .inr (4, [.int v1, .ref a_t_isBroth, .ref a_t_low, .ref a_t_high, .ref a_t_contents, .ref a_t_storesIn, .int t_spells, .ref a_t_texts, .ref a_t_cooked, .int t_cookedSoFar, .int t_storesSoFar])), (a_t_isBroth, .inl (cT 1, 6, .inl (upd t_isBroth t_cauldrons.toNatClampNeg (vp_nar .boolean p1)))), (a_t_low, .inl (cT 0, 6, .inl (upd t_low t_cauldrons.toNatClampNeg p2))), (a_t_high, .inl (cT 0, 6, .inl t_high)), (a_t_contents_many, .inl (cT 0, 6, .inl t_contents_many)), (a_t_contents_much, .inl (cT 4, 6, .inr (.inr (.inl t_contents_much)))), (a_t_storesIn, .inl (cT 0, 6, .inl t_storesIn))] := hD
      refine lv_aload_n hx hb dX0_setUp_46 rfl (lv_at hl 1 rfl) ?_
      refine va_get (D := (dC, dI)) (ci := 4) (v := .ref a_t_high) (C := RX0) (T := TX0) (N := 11) hx hb hta inX0w hown hK hP 0 rfl rfl 3 (by decide) (hta _ lk_X0_19) (fun _ h9 => h9) rfl dX0_setUp_47 ?_
      refine lv_iload hx hb dX0_setUp_50 (lv_at hl 0 rfl) ?_
      refine lv_iload_n hx hb dX0_setUp_52 rfl (lv_at hl 4 rfl) ?_
      obtain ⟨hc, h⟩ := gc_some h
      refine va_iast hx hb hK hP hD hS 3 0 rfl rfl (inb_in hc) dX0_setUp_53 (fun H locs hP hD hS => ?_)
      have hP : va_P (dC, dI) vwCl [(a_t, .inr (4, [.int v1, .ref a_t_isBroth, .ref a_t_low, .ref a_t_high, .ref a_t_contents, .ref a_t_storesIn, .int t_spells, .ref a_t_texts, .ref a_t_cooked, .int t_cookedSoFar, .int t_storesSoFar])), (a_t_isBroth, .inl (cT 1, 6, .inl (upd t_isBroth t_cauldrons.toNatClampNeg (vp_nar .boolean p1)))), (a_t_low, .inl (cT 0, 6, .inl (upd t_low t_cauldrons.toNatClampNeg p2))), (a_t_high, .inl (cT 0, 6, .inl (upd t_high t_cauldrons.toNatClampNeg p3))), (a_t_contents_many, .inl (cT 0, 6, .inl t_contents_many)), (a_t_contents_much, .inl (cT 4, 6, .inr (.inr (.inl t_contents_much)))), (a_t_storesIn, .inl (cT 0, 6, .inl t_storesIn))] H := hP
      have hD : va_D A [(a_t, .inr (4, [.int v1, .ref a_t_isBroth, .ref a_t_low, .ref a_t_high, .ref a_t_contents, .ref a_t_storesIn, .int t_spells, .ref a_t_texts, .ref a_t_cooked, .int t_cookedSoFar, .int t_storesSoFar])), (a_t_isBroth, .inl (cT 1, 6, .inl (upd t_isBroth t_cauldrons.toNatClampNeg (vp_nar .boolean p1)))), (a_t_low, .inl (cT 0, 6, .inl (upd t_low t_cauldrons.toNatClampNeg p2))), (a_t_high, .inl (cT 0, 6, .inl (upd t_high t_cauldrons.toNatClampNeg p3))), (a_t_contents_many, .inl (cT 0, 6, .inl t_contents_many)), (a_t_contents_much, .inl (cT 4, 6, .inr (.inr (.inl t_contents_much)))), (a_t_storesIn, .inl (cT 0, 6, .inl t_storesIn))] := hD
      refine lv_aload_n hx hb dX0_setUp_54 rfl (lv_at hl 1 rfl) ?_
      refine va_get (D := (dC, dI)) (ci := 4) (v := .ref a_t_contents) (C := RX0) (T := TX0) (N := 11) hx hb hta inX0w hown hK hP 0 rfl rfl 4 (by decide) (hta _ lk_X0_25) (fun _ h9 => h9) rfl dX0_setUp_55 ?_
      refine va_get (D := (dC, dI)) (ci := 5) (v := .ref a_t_contents_many) (C := RX1) (T := TX1) (N := 2) hx hb hta inX1w hown hK (rk hR0 hNA hS) 0 rfl rfl 0 (by decide) (hta _ lk_X0_58) (fun _ h9 => h9) rfl dX0_setUp_58 ?_
      refine lv_iload hx hb dX0_setUp_61 (lv_at hl 0 rfl) ?_
      refine lv_iload_n hx hb dX0_setUp_63 rfl (lv_at hl 3 rfl) ?_
      refine lv_iload_n hx hb dX0_setUp_64 rfl (lv_at hl 4 rfl) ?_
      refine lv_iconst (v := 0) hx hb dX0_setUp_65 (by decide) ?_
      refine va_mmin hx hb (hml.trans hl.1.symm) hown (hta _ lm_X0_61) (hta _ mth_minint_s) (hta _ mth_i) (hta _ mth_minint_c) (Nat.le_of_ble_eq_true rfl) (Nat.le_of_ble_eq_true rfl) (Nat.le_of_ble_eq_true rfl) (Nat.le_of_ble_eq_true rfl) dX0_setUp_66 ?_
      refine va_mmax hx hb (hml.trans hl.1.symm) hown (hta _ lm_X0_67) (hta _ mth_maxint_s) (hta _ mth_i) (hta _ mth_maxint_c) (Nat.le_of_ble_eq_true rfl) (Nat.le_of_ble_eq_true rfl) (Nat.le_of_ble_eq_true rfl) (Nat.le_of_ble_eq_true rfl) dX0_setUp_69 ?_
      obtain ⟨hc, h⟩ := gc_some h
      refine va_iast hx hb hK hP hD hS 4 0 rfl rfl (inb_in hc) dX0_setUp_72 (fun H locs hP hD hS => ?_)
      have hP : va_P (dC, dI) vwCl [(a_t, .inr (4, [.int v1, .ref a_t_isBroth, .ref a_t_low, .ref a_t_high, .ref a_t_contents, .ref a_t_storesIn, .int t_spells, .ref a_t_texts, .ref a_t_cooked, .int t_cookedSoFar, .int t_storesSoFar])), (a_t_isBroth, .inl (cT 1, 6, .inl (upd t_isBroth t_cauldrons.toNatClampNeg (vp_nar .boolean p1)))), (a_t_low, .inl (cT 0, 6, .inl (upd t_low t_cauldrons.toNatClampNeg p2))), (a_t_high, .inl (cT 0, 6, .inl (upd t_high t_cauldrons.toNatClampNeg p3))), (a_t_contents_many, .inl (cT 0, 6, .inl (upd t_contents_many t_cauldrons.toNatClampNeg (if p2 < (if 0 < p3 then 0 else p3) then (if 0 < p3 then 0 else p3) else p2)))), (a_t_contents_much, .inl (cT 4, 6, .inr (.inr (.inl t_contents_much)))), (a_t_storesIn, .inl (cT 0, 6, .inl t_storesIn))] H := hP
      have hD : va_D A [(a_t, .inr (4, [.int v1, .ref a_t_isBroth, .ref a_t_low, .ref a_t_high, .ref a_t_contents, .ref a_t_storesIn, .int t_spells, .ref a_t_texts, .ref a_t_cooked, .int t_cookedSoFar, .int t_storesSoFar])), (a_t_isBroth, .inl (cT 1, 6, .inl (upd t_isBroth t_cauldrons.toNatClampNeg (vp_nar .boolean p1)))), (a_t_low, .inl (cT 0, 6, .inl (upd t_low t_cauldrons.toNatClampNeg p2))), (a_t_high, .inl (cT 0, 6, .inl (upd t_high t_cauldrons.toNatClampNeg p3))), (a_t_contents_many, .inl (cT 0, 6, .inl (upd t_contents_many t_cauldrons.toNatClampNeg (if p2 < (if 0 < p3 then 0 else p3) then (if 0 < p3 then 0 else p3) else p2)))), (a_t_contents_much, .inl (cT 4, 6, .inr (.inr (.inl t_contents_much)))), (a_t_storesIn, .inl (cT 0, 6, .inl t_storesIn))] := hD
      refine lv_aload_n hx hb dX0_setUp_73 rfl (lv_at hl 1 rfl) ?_
      refine va_get (D := (dC, dI)) (ci := 4) (v := .ref a_t_contents) (C := RX0) (T := TX0) (N := 11) hx hb hta inX0w hown hK hP 0 rfl rfl 4 (by decide) (hta _ lk_X0_25) (fun _ h9 => h9) rfl dX0_setUp_74 ?_
      refine va_get (D := (dC, dI)) (ci := 5) (v := .ref a_t_contents_much) (C := RX1) (T := TX1) (N := 2) hx hb hta inX1w hown hK (rk hR0 hNA hS) 0 rfl rfl 1 (by decide) (hta _ lk_X0_70) (fun _ h9 => h9) rfl dX0_setUp_77 ?_
      refine lv_iload hx hb dX0_setUp_80 (lv_at hl 0 rfl) ?_
      refine lv_fconst0 hx hb dX0_setUp_82 ?_
      obtain ⟨hc, h⟩ := gc_some h
      refine va_fast hx hb hK hP hD hS 5 4 rfl rfl (inb_in hc) dX0_setUp_83 (fun H locs hP hD hS => ?_)
      have hP : va_P (dC, dI) vwCl [(a_t, .inr (4, [.int v1, .ref a_t_isBroth, .ref a_t_low, .ref a_t_high, .ref a_t_contents, .ref a_t_storesIn, .int t_spells, .ref a_t_texts, .ref a_t_cooked, .int t_cookedSoFar, .int t_storesSoFar])), (a_t_isBroth, .inl (cT 1, 6, .inl (upd t_isBroth t_cauldrons.toNatClampNeg (vp_nar .boolean p1)))), (a_t_low, .inl (cT 0, 6, .inl (upd t_low t_cauldrons.toNatClampNeg p2))), (a_t_high, .inl (cT 0, 6, .inl (upd t_high t_cauldrons.toNatClampNeg p3))), (a_t_contents_many, .inl (cT 0, 6, .inl (upd t_contents_many t_cauldrons.toNatClampNeg (if p2 < (if 0 < p3 then 0 else p3) then (if 0 < p3 then 0 else p3) else p2)))), (a_t_contents_much, .inl (cT 4, 6, .inr (.inr (.inl (vf_upd t_contents_much t_cauldrons.toNatClampNeg FP.fconst0))))), (a_t_storesIn, .inl (cT 0, 6, .inl t_storesIn))] H := hP
      have hD : va_D A [(a_t, .inr (4, [.int v1, .ref a_t_isBroth, .ref a_t_low, .ref a_t_high, .ref a_t_contents, .ref a_t_storesIn, .int t_spells, .ref a_t_texts, .ref a_t_cooked, .int t_cookedSoFar, .int t_storesSoFar])), (a_t_isBroth, .inl (cT 1, 6, .inl (upd t_isBroth t_cauldrons.toNatClampNeg (vp_nar .boolean p1)))), (a_t_low, .inl (cT 0, 6, .inl (upd t_low t_cauldrons.toNatClampNeg p2))), (a_t_high, .inl (cT 0, 6, .inl (upd t_high t_cauldrons.toNatClampNeg p3))), (a_t_contents_many, .inl (cT 0, 6, .inl (upd t_contents_many t_cauldrons.toNatClampNeg (if p2 < (if 0 < p3 then 0 else p3) then (if 0 < p3 then 0 else p3) else p2)))), (a_t_contents_much, .inl (cT 4, 6, .inr (.inr (.inl (vf_upd t_contents_much t_cauldrons.toNatClampNeg FP.fconst0))))), (a_t_storesIn, .inl (cT 0, 6, .inl t_storesIn))] := hD
      refine lv_aload_n hx hb dX0_setUp_84 rfl (lv_at hl 1 rfl) ?_
      refine va_get (D := (dC, dI)) (ci := 4) (v := .ref a_t_storesIn) (C := RX0) (T := TX0) (N := 11) hx hb hta inX0w hown hK hP 0 rfl rfl 5 (by decide) (hta _ lk_X0_29) (fun _ h9 => h9) rfl dX0_setUp_85 ?_
      refine lv_iload hx hb dX0_setUp_88 (lv_at hl 0 rfl) ?_
      refine lv_iconst (v := 0) hx hb dX0_setUp_90 (by decide) ?_
      obtain ⟨hc, h⟩ := gc_some h
      refine va_iast hx hb hK hP hD hS 6 0 rfl rfl (inb_in hc) dX0_setUp_91 (fun H locs hP hD hS => ?_)
      have hP : va_P (dC, dI) vwCl [(a_t, .inr (4, [.int v1, .ref a_t_isBroth, .ref a_t_low, .ref a_t_high, .ref a_t_contents, .ref a_t_storesIn, .int t_spells, .ref a_t_texts, .ref a_t_cooked, .int t_cookedSoFar, .int t_storesSoFar])), (a_t_isBroth, .inl (cT 1, 6, .inl (upd t_isBroth t_cauldrons.toNatClampNeg (vp_nar .boolean p1)))), (a_t_low, .inl (cT 0, 6, .inl (upd t_low t_cauldrons.toNatClampNeg p2))), (a_t_high, .inl (cT 0, 6, .inl (upd t_high t_cauldrons.toNatClampNeg p3))), (a_t_contents_many, .inl (cT 0, 6, .inl (upd t_contents_many t_cauldrons.toNatClampNeg (if p2 < (if 0 < p3 then 0 else p3) then (if 0 < p3 then 0 else p3) else p2)))), (a_t_contents_much, .inl (cT 4, 6, .inr (.inr (.inl (vf_upd t_contents_much t_cauldrons.toNatClampNeg FP.fconst0))))), (a_t_storesIn, .inl (cT 0, 6, .inl (upd t_storesIn t_cauldrons.toNatClampNeg 0)))] H := hP
      have hD : va_D A [(a_t, .inr (4, [.int v1, .ref a_t_isBroth, .ref a_t_low, .ref a_t_high, .ref a_t_contents, .ref a_t_storesIn, .int t_spells, .ref a_t_texts, .ref a_t_cooked, .int t_cookedSoFar, .int t_storesSoFar])), (a_t_isBroth, .inl (cT 1, 6, .inl (upd t_isBroth t_cauldrons.toNatClampNeg (vp_nar .boolean p1)))), (a_t_low, .inl (cT 0, 6, .inl (upd t_low t_cauldrons.toNatClampNeg p2))), (a_t_high, .inl (cT 0, 6, .inl (upd t_high t_cauldrons.toNatClampNeg p3))), (a_t_contents_many, .inl (cT 0, 6, .inl (upd t_contents_many t_cauldrons.toNatClampNeg (if p2 < (if 0 < p3 then 0 else p3) then (if 0 < p3 then 0 else p3) else p2)))), (a_t_contents_much, .inl (cT 4, 6, .inr (.inr (.inl (vf_upd t_contents_much t_cauldrons.toNatClampNeg FP.fconst0))))), (a_t_storesIn, .inl (cT 0, 6, .inl (upd t_storesIn t_cauldrons.toNatClampNeg 0)))] := hD
      refine lv_iload hx hb dX0_setUp_92 (lv_at hl 0 rfl) ?_
      have ho := Option.some.inj h
      exact W.iret (v := t_cauldrons) hx hb hr (fun t ht hW => ⟨⟨t_cauldrons, (), rfl, by rw [← ho], by show va_P (dC, dI) vwCl _ t.heap; rw [ht, ← ho]; exact hP⟩, hS.F ht⟩) hS.2.2 dX0_setUp_94
    · have h := (if_neg c0).symm.trans h
      refine lv_iconst (v := -1) hx hb dX0_setUp_18 (by decide) ?_
      have ho := Option.some.inj h
      exact W.iret (v := (-1)) hx hb hr (fun t ht hW => ⟨⟨(-1), (), rfl, by rw [← ho], by show va_P (dC, dI) vwCl _ t.heap; rw [ht, ← ho]; exact hP⟩, hS.F ht⟩) hS.2.2 dX0_setUp_19
set_option maxHeartbeats 4000000 in
set_option maxRecDepth 100000 in
theorem c_X0_holds (l : Launch) (dC : Nat → ClassId) (dI : Nat → Nat → Nat) (cT : Nat → ClassId) {Hh : Heap} {a_t : Nat} {a_t_low : Nat} {a_t_high : Nat} {a_t_isBroth : Nat} {a_t_contents : Nat} {a_t_storesIn : Nat} {a_t_texts : Nat} {a_t_cooked : Nat} {t_low : Nat → Int32} {t_high : Nat → Int32} {p1 : Int32} {p2 : Int64} {t_cauldrons : Int32} {t_spells : Int32} {t_cookedSoFar : Int32} {t_storesSoFar : Int32} {o : Int32} (h : g_X0_holds t_low t_high p1 p2 = some o) (hR0 : va_P (dC, dI) vwCl [(a_t, .inr (4, [.int t_cauldrons, .ref a_t_isBroth, .ref a_t_low, .ref a_t_high, .ref a_t_contents, .ref a_t_storesIn, .int t_spells, .ref a_t_texts, .ref a_t_cooked, .int t_cookedSoFar, .int t_storesSoFar])), (a_t_low, .inl (cT 0, 6, .inl t_low)), (a_t_high, .inl (cT 0, 6, .inl t_high))] Hh) : Met l yX0_holds (wA yX0_holds cX0_holds 4 (some .boolean)) ({ frames := 0, cells := 0, slots := 0, locals := 0 } : Room) (PK dC dI cT [.ref a_t, .int p1, .long p2] Hh) (va_Qi (fun x (_ : Unit) => x = o) (fun _ t => t.heap = Hh) (va_A [] Hh.size)) 0 0 (va_A [] Hh.size) := by
  refine Met.ofW (cc := cX0_holds) (maxL := 4) (ret := (some .boolean)) (by decide) rfl ?_
  intro p e s m args below meth c s₁ B hml hv
  obtain ⟨rfl, hH, hK⟩ := hv
  subst hH
  have hx := B.exec
  have hb := B.bytes
  have hr := B.returns
  have hta : ∀ w ∈ ALLW, w.before [.ref a_t, .int p1, .long p2].toArray s = true := fun w hw => atoms_spec (ws := wA yX0_holds cX0_holds 4 (some .boolean)) B.pre w (List.mem_cons_of_mem _ hw)
  have hown : s.vm.findClass RX0 = some m.cls := findClass_of_methodNamed B.named
  have hlocks := B.notSynchronized
  generalize hAe : va_A [] s.heap.size = A
  have hA : ∀ q : Nat, s.heap.size ≤ q → A q := fun q h => by rw [← hAe]; exact Or.inr h
  have hS : va_S A s.heap s.heap [] := va_S.rf
  have hl := lv_entry [.ref a_t, .int p1, .long p2] (n := 4) (Nat.le_of_ble_eq_true rfl)
  rw [lg_entry_eq]
  generalize (lg_sl [.ref a_t, .int p1, .long p2] ++ List.replicate (4 - (lg_sl [.ref a_t, .int p1, .long p2]).length) Slot.unset).toArray = ls at hl ⊢
  have hl : lv_has ls 4 [(0, .ref a_t), (1, .int p1), (2, .long p2)] := hl
  unfold g_X0_holds at h
  refine lv_lload_n hx hb dX0_holds_0 rfl (lv_at hl 2 rfl) ?_
  refine lv_aload_n hx hb dX0_holds_1 rfl (lv_at hl 0 rfl) ?_
  refine va_get (D := (dC, dI)) (ci := 4) (v := .ref a_t_low) (C := RX0) (T := TX0) (N := 11) hx hb hta inX0w hown hK hR0 0 rfl rfl 2 (by decide) (hta _ lk_X0_15) (fun _ h9 => h9) rfl dX0_holds_2 ?_
  refine lv_iload_n hx hb dX0_holds_5 rfl (lv_at hl 1 rfl) ?_
  obtain ⟨hc, h⟩ := gc_some h
  refine va_iald hx hb hK hR0 1 0 rfl rfl (inb_in hc) dX0_holds_6 ?_
  refine lv_i2l hx hb dX0_holds_7 rfl ?_
  refine W.lcmp hx hb dX0_holds_8 ?_
  refine lv_if_lt (tgt := 28) hx hb dX0_holds_9 (by decide) (fun c0 => ?_) (fun c0 => ?_)
  · have h := (if_pos c0).symm.trans h
    refine lv_iconst (v := 0) hx hb dX0_holds_28 (by decide) ?_
    have ho := Option.some.inj h
    exact W.zret (ty := .boolean) (v := 0) hx hb hr rfl (fun t ht hW => ⟨⟨0, (), rfl, by rw [← ho], ht⟩, hS.F ht⟩) hS.2.2 dX0_holds_29
  · have h := (if_neg c0).symm.trans h
    refine lv_lload_n hx hb dX0_holds_12 rfl (lv_at hl 2 rfl) ?_
    refine lv_aload_n hx hb dX0_holds_13 rfl (lv_at hl 0 rfl) ?_
    refine va_get (D := (dC, dI)) (ci := 4) (v := .ref a_t_high) (C := RX0) (T := TX0) (N := 11) hx hb hta inX0w hown hK hR0 0 rfl rfl 3 (by decide) (hta _ lk_X0_19) (fun _ h9 => h9) rfl dX0_holds_14 ?_
    refine lv_iload_n hx hb dX0_holds_17 rfl (lv_at hl 1 rfl) ?_
    obtain ⟨hc, h⟩ := gc_some h
    refine va_iald hx hb hK hR0 2 0 rfl rfl (inb_in hc) dX0_holds_18 ?_
    refine lv_i2l hx hb dX0_holds_19 rfl ?_
    refine W.lcmp hx hb dX0_holds_20 ?_
    refine lv_if_gt (tgt := 28) hx hb dX0_holds_21 (by decide) (fun c0 => ?_) (fun c0 => ?_)
    · have h := (if_pos c0).symm.trans h
      refine lv_iconst (v := 0) hx hb dX0_holds_28 (by decide) ?_
      have ho := Option.some.inj h
      exact W.zret (ty := .boolean) (v := 0) hx hb hr rfl (fun t ht hW => ⟨⟨0, (), rfl, by rw [← ho], ht⟩, hS.F ht⟩) hS.2.2 dX0_holds_29
    · have h := (if_neg c0).symm.trans h
      refine lv_iconst (v := 1) hx hb dX0_holds_24 (by decide) ?_
      refine lv_goto (tgt := 29) hx hb dX0_holds_25 (by decide) ?_
      have ho := Option.some.inj h
      exact W.zret (ty := .boolean) (v := 1) hx hb hr rfl (fun t ht hW => ⟨⟨1, (), rfl, by rw [← ho], ht⟩, hS.F ht⟩) hS.2.2 dX0_holds_29
set_option maxHeartbeats 4000000 in
set_option maxRecDepth 100000 in
theorem c_X1_cut (l : Launch) (dC : Nat → ClassId) (dI : Nat → Nat → Nat) (cT : Nat → ClassId) {Hh : Heap} {a_t : Nat} {a_t_many : Nat} {a_t_much : Nat} {t_many : Nat → Int32} {t_much : Nat → UInt32} {p1 : Int32} {p2 : Int32} {o : Int32} (h : g_X1_cut t_many t_much p1 p2 = some o) (hR0 : va_P (dC, dI) vwCl [(a_t, .inr (5, [.ref a_t_many, .ref a_t_much])), (a_t_many, .inl (cT 0, 6, .inl t_many)), (a_t_much, .inl (cT 4, 6, .inr (.inr (.inl t_much))))] Hh) : Met l yX1_cut (wA yX1_cut cX1_cut 3 (some .int)) ({ frames := 0, cells := 0, slots := 0, locals := 0 } : Room) (PK dC dI cT [.ref a_t, .int p1, .int p2] Hh) (va_Qi (fun x (_ : Unit) => x = o) (fun _ t => t.heap = Hh) (va_A [] Hh.size)) 0 0 (va_A [] Hh.size) := by
  refine Met.ofW (cc := cX1_cut) (maxL := 3) (ret := (some .int)) (by decide) rfl ?_
  intro p e s m args below meth c s₁ B hml hv
  obtain ⟨rfl, hH, hK⟩ := hv
  subst hH
  have hx := B.exec
  have hb := B.bytes
  have hr := B.returns
  have hta : ∀ w ∈ ALLW, w.before [.ref a_t, .int p1, .int p2].toArray s = true := fun w hw => atoms_spec (ws := wA yX1_cut cX1_cut 3 (some .int)) B.pre w (List.mem_cons_of_mem _ hw)
  have hown : s.vm.findClass RX1 = some m.cls := findClass_of_methodNamed B.named
  have hlocks := B.notSynchronized
  generalize hAe : va_A [] s.heap.size = A
  have hA : ∀ q : Nat, s.heap.size ≤ q → A q := fun q h => by rw [← hAe]; exact Or.inr h
  have hS : va_S A s.heap s.heap [] := va_S.rf
  have hl := lv_entry [.ref a_t, .int p1, .int p2] (n := 3) (Nat.le_of_ble_eq_true rfl)
  rw [lg_entry_eq]
  generalize (lg_sl [.ref a_t, .int p1, .int p2] ++ List.replicate (3 - (lg_sl [.ref a_t, .int p1, .int p2]).length) Slot.unset).toArray = ls at hl ⊢
  have hl : lv_has ls 3 [(0, .ref a_t), (1, .int p1), (2, .int p2)] := hl
  unfold g_X1_cut at h
  refine lv_iload_n hx hb dX1_cut_0 rfl (lv_at hl 1 rfl) ?_
  refine lv_if_eq (tgt := 14) hx hb dX1_cut_1 (by decide) (fun c0 => ?_) (fun c0 => ?_)
  · have h := (if_pos c0).symm.trans h
    refine lv_aload_n hx hb dX1_cut_14 rfl (lv_at hl 0 rfl) ?_
    refine va_get (D := (dC, dI)) (ci := 5) (v := .ref a_t_many) (C := RX1) (T := TX1) (N := 2) hx hb hta inX1w hown hK hR0 0 rfl rfl 0 (by decide) (hta _ lk_X1_9) (fun _ h9 => h9) rfl dX1_cut_15 ?_
    refine lv_iload_n hx hb dX1_cut_18 rfl (lv_at hl 2 rfl) ?_
    obtain ⟨hc, h⟩ := gc_some h
    refine va_iald hx hb hK hR0 1 0 rfl rfl (inb_in hc) dX1_cut_19 ?_
    refine lv_topi (fun v1 e_v1 => ?_)
    have h := gl_use e_v1 h
    have ho := Option.some.inj h
    exact W.iret (v := v1) hx hb hr (fun t ht hW => ⟨⟨v1, (), rfl, by rw [← ho], ht⟩, hS.F ht⟩) hS.2.2 dX1_cut_20
  · have h := (if_neg c0).symm.trans h
    refine lv_aload_n hx hb dX1_cut_4 rfl (lv_at hl 0 rfl) ?_
    refine va_get (D := (dC, dI)) (ci := 5) (v := .ref a_t_much) (C := RX1) (T := TX1) (N := 2) hx hb hta inX1w hown hK hR0 0 rfl rfl 1 (by decide) (hta _ lk_X1_15) (fun _ h9 => h9) rfl dX1_cut_5 ?_
    refine lv_iload_n hx hb dX1_cut_8 rfl (lv_at hl 2 rfl) ?_
    obtain ⟨hc, h⟩ := gc_some h
    refine va_fald hx hb hK hR0 2 4 rfl rfl (inb_in hc) dX1_cut_9 ?_
    refine lv_f2i hx hb dX1_cut_10 ?_
    refine lv_goto (tgt := 20) hx hb dX1_cut_11 (by decide) ?_
    refine lv_topi (fun v2 e_v2 => ?_)
    have h := gl_use e_v2 h
    have ho := Option.some.inj h
    exact W.iret (v := v2) hx hb hr (fun t ht hW => ⟨⟨v2, (), rfl, by rw [← ho], ht⟩, hS.F ht⟩) hS.2.2 dX1_cut_20
set_option maxHeartbeats 4000000 in
set_option maxRecDepth 100000 in
theorem c_X0_cutContent (l : Launch) (dC : Nat → ClassId) (dI : Nat → Nat → Nat) (cT : Nat → ClassId) {Hh : Heap} {a_t : Nat} {a_t_contents : Nat} {a_t_isBroth : Nat} {a_t_contents_many : Nat} {a_t_contents_much : Nat} {a_t_low : Nat} {a_t_high : Nat} {a_t_storesIn : Nat} {a_t_texts : Nat} {a_t_cooked : Nat} {t_isBroth : Nat → Int32} {t_contents_many : Nat → Int32} {t_contents_much : Nat → UInt32} {p1 : Int32} {t_cauldrons : Int32} {t_spells : Int32} {t_cookedSoFar : Int32} {t_storesSoFar : Int32} {o : Int32} (h : g_X0_cutContent t_isBroth t_contents_many t_contents_much p1 = some o) (hR0 : va_P (dC, dI) vwCl [(a_t, .inr (4, [.int t_cauldrons, .ref a_t_isBroth, .ref a_t_low, .ref a_t_high, .ref a_t_contents, .ref a_t_storesIn, .int t_spells, .ref a_t_texts, .ref a_t_cooked, .int t_cookedSoFar, .int t_storesSoFar])), (a_t_contents, .inr (5, [.ref a_t_contents_many, .ref a_t_contents_much])), (a_t_isBroth, .inl (cT 1, 6, .inl t_isBroth)), (a_t_contents_many, .inl (cT 0, 6, .inl t_contents_many)), (a_t_contents_much, .inl (cT 4, 6, .inr (.inr (.inl t_contents_much))))] Hh) : Met l yX0_cutContent (wA yX0_cutContent cX0_cutContent 2 (some .int)) ({ frames := 1, cells := 0, slots := 0, locals := 22 } : Room) (PK dC dI cT [.ref a_t, .int p1] Hh) (va_Qi (fun x (_ : Unit) => x = o) (fun _ t => t.heap = Hh) (va_A [] Hh.size)) 0 0 (va_A [] Hh.size) := by
  refine Met.ofW (cc := cX0_cutContent) (maxL := 2) (ret := (some .int)) (by decide) rfl ?_
  intro p e s m args below meth c s₁ B hml hv
  obtain ⟨rfl, hH, hK⟩ := hv
  subst hH
  have hx := B.exec
  have hb := B.bytes
  have hr := B.returns
  have hta : ∀ w ∈ ALLW, w.before [.ref a_t, .int p1].toArray s = true := fun w hw => atoms_spec (ws := wA yX0_cutContent cX0_cutContent 2 (some .int)) B.pre w (List.mem_cons_of_mem _ hw)
  have hown : s.vm.findClass RX0 = some m.cls := findClass_of_methodNamed B.named
  have hlocks := B.notSynchronized
  generalize hAe : va_A [] s.heap.size = A
  have hA : ∀ q : Nat, s.heap.size ≤ q → A q := fun q h => by rw [← hAe]; exact Or.inr h
  have hS : va_S A s.heap s.heap [] := va_S.rf
  have hl := lv_entry [.ref a_t, .int p1] (n := 2) (Nat.le_of_ble_eq_true rfl)
  rw [lg_entry_eq]
  generalize (lg_sl [.ref a_t, .int p1] ++ List.replicate (2 - (lg_sl [.ref a_t, .int p1]).length) Slot.unset).toArray = ls at hl ⊢
  have hl : lv_has ls 2 [(0, .ref a_t), (1, .int p1)] := hl
  unfold g_X0_cutContent at h
  refine lv_aload_n hx hb dX0_cutContent_0 rfl (lv_at hl 0 rfl) ?_
  refine va_get (D := (dC, dI)) (ci := 4) (v := .ref a_t_contents) (C := RX0) (T := TX0) (N := 11) hx hb hta inX0w hown hK hR0 0 rfl rfl 4 (by decide) (hta _ lk_X0_25) (fun _ h9 => h9) rfl dX0_cutContent_1 ?_
  refine lv_aload_n hx hb dX0_cutContent_4 rfl (lv_at hl 0 rfl) ?_
  refine va_get (D := (dC, dI)) (ci := 4) (v := .ref a_t_isBroth) (C := RX0) (T := TX0) (N := 11) hx hb hta inX0w hown hK hR0 0 rfl rfl 1 (by decide) (hta _ lk_X0_9) (fun _ h9 => h9) rfl dX0_cutContent_5 ?_
  refine lv_iload_n hx hb dX0_cutContent_8 rfl (lv_at hl 1 rfl) ?_
  obtain ⟨hc, h⟩ := gc_some h
  refine va_zald hx hb hK hR0 2 1 rfl rfl (inb_in hc) dX0_cutContent_9 ?_
  refine lv_iload_n hx hb dX0_cutContent_10 rfl (lv_at hl 1 rfl) ?_
  obtain ⟨r1, hq, h⟩ := gb_some h
  refine crI (va_runV (As := [.int (t_isBroth p1.toNatClampNeg), .int p1]) (rest := []) ⟨hx, hb, hml, hown, hta⟩ (c_X1_cut l dC dI cT hq (hR0.sub (ws' := [(a_t_contents, .inr (5, [.ref a_t_contents_many, .ref a_t_contents_much])), (a_t_contents_many, .inl (cT 0, 6, .inl t_contents_many)), (a_t_contents_much, .inl (cT 4, 6, .inr (.inr (.inl t_contents_much))))]) [1, 3, 4] rfl)) (cV hta lm_X0_74 md_X1_cut ⟨(Nat.le_of_ble_eq_true rfl), (Nat.le_of_ble_eq_true rfl)⟩) ⟨fbK, va_recv hK hR0 (ci := 5) (q0 := 1) rfl rfl, fun U hU hW => ⟨rfl, hU, va_K.moved hW.alike hK⟩⟩ rfl rfl hl.1 rfl (lv_room (Nat.le_of_ble_eq_true rfl)) dX0_cutContent_11 ⟨(Nat.le_of_ble_eq_true rfl), (Nat.le_of_ble_eq_true rfl)⟩) hS hA (fun locs hS => ?_)
  have ho := Option.some.inj h
  exact W.iret (v := r1) hx hb hr (fun t ht hW => ⟨⟨r1, (), rfl, by rw [← ho], ht⟩, hS.F ht⟩) hS.2.2 dX0_cutContent_14
set_option maxHeartbeats 4000000 in
set_option maxRecDepth 100000 in
theorem c_X0_cauldronsOfBroth (l : Launch) (dC : Nat → ClassId) (dI : Nat → Nat → Nat) (cT : Nat → ClassId) {Hh : Heap} {a_t : Nat} {a_t_isBroth : Nat} {a_t_low : Nat} {a_t_high : Nat} {a_t_contents : Nat} {a_t_storesIn : Nat} {a_t_texts : Nat} {a_t_cooked : Nat} {t_cauldrons : Int32} {t_isBroth : Nat → Int32} {t_spells : Int32} {t_cookedSoFar : Int32} {t_storesSoFar : Int32} {o : Int32} (h : g_X0_cauldronsOfBroth t_cauldrons t_isBroth = some o) (hR0 : va_P (dC, dI) vwCl [(a_t, .inr (4, [.int t_cauldrons, .ref a_t_isBroth, .ref a_t_low, .ref a_t_high, .ref a_t_contents, .ref a_t_storesIn, .int t_spells, .ref a_t_texts, .ref a_t_cooked, .int t_cookedSoFar, .int t_storesSoFar])), (a_t_isBroth, .inl (cT 1, 6, .inl t_isBroth))] Hh) : Met l yX0_cauldronsOfBroth (wA yX0_cauldronsOfBroth cX0_cauldronsOfBroth 3 (some .int)) ({ frames := 0, cells := 0, slots := 0, locals := 0 } : Room) (PK dC dI cT [.ref a_t] Hh) (va_Qi (fun x (_ : Unit) => x = o) (fun _ t => t.heap = Hh) (va_A [] Hh.size)) 0 0 (va_A [] Hh.size) := by
  refine Met.ofW (cc := cX0_cauldronsOfBroth) (maxL := 3) (ret := (some .int)) (by decide) rfl ?_
  intro p e s m args below meth c s₁ B hml hv
  obtain ⟨rfl, hH, hK⟩ := hv
  subst hH
  have hx := B.exec
  have hb := B.bytes
  have hr := B.returns
  have hta : ∀ w ∈ ALLW, w.before [.ref a_t].toArray s = true := fun w hw => atoms_spec (ws := wA yX0_cauldronsOfBroth cX0_cauldronsOfBroth 3 (some .int)) B.pre w (List.mem_cons_of_mem _ hw)
  have hown : s.vm.findClass RX0 = some m.cls := findClass_of_methodNamed B.named
  have hlocks := B.notSynchronized
  generalize hAe : va_A [] s.heap.size = A
  have hA : ∀ q : Nat, s.heap.size ≤ q → A q := fun q h => by rw [← hAe]; exact Or.inr h
  have hS : va_S A s.heap s.heap [] := va_S.rf
  have hl := lv_entry [.ref a_t] (n := 3) (Nat.le_of_ble_eq_true rfl)
  rw [lg_entry_eq]
  generalize (lg_sl [.ref a_t] ++ List.replicate (3 - (lg_sl [.ref a_t]).length) Slot.unset).toArray = ls at hl ⊢
  have hl : lv_has ls 3 [(0, .ref a_t)] := hl
  obtain ⟨Q, hQ⟩ : ∃ Q, Q = MQ below (va_Qi (fun x (_ : Unit) => x = o) (fun _ t => t.heap = s.heap) A) [.ref a_t].toArray s 0 0 A := ⟨_, rfl⟩
  rw [← hQ]
  have wB_4 : ∀ (n_4 : Nat), ∀ (x1_4 : Int32) (x2_4 : Int32) (locs : List Loc) (ls : Array Slot), g_X0_cauldronsOfBroth_b4 t_cauldrons t_isBroth n_4 x1_4 x2_4 = some o → va_S A s.heap s.heap locs → lv_has ls 3 [(0, .ref a_t), (1, .int x1_4), (2, .int x2_4)] → W p l e ({ frames := 0, cells := 0, slots := 0, locals := 0 } : Room) s m [.ref a_t].toArray below meth c s.heap locs 0 0 Q (F0 m 4 ls []) := by
    intro n_4
    induction n_4 with
    | zero =>
      intro x1_4 x2_4 locs ls h hS hl
      simp [g_X0_cauldronsOfBroth_b4] at h
    | succ n_4 ih_4 =>
      have wB_24 : ∀ (x1_24 : Int32) (x2_24 : Int32) (locs : List Loc) (ls : Array Slot), g_X0_cauldronsOfBroth_b24 t_cauldrons t_isBroth (g_X0_cauldronsOfBroth_b4 t_cauldrons t_isBroth n_4) x1_24 x2_24 = some o → va_S A s.heap s.heap locs → lv_has ls 3 [(0, .ref a_t), (1, .int x1_24), (2, .int x2_24)] → W p l e ({ frames := 0, cells := 0, slots := 0, locals := 0 } : Room) s m [.ref a_t].toArray below meth c s.heap locs 0 0 Q (F0 m 24 ls []) := by
        intro x1_24 x2_24 locs ls h hS hl
        unfold g_X0_cauldronsOfBroth_b24 at h
        obtain ⟨v1, e_v1⟩ : ∃ y : Int32, y = x2_24 + 1 := ⟨_, rfl⟩
        have h := gl_use e_v1 h
        refine lv_iinc (v := v1) (lv' := [(2, .int v1), (0, .ref a_t), (1, .int x1_24)]) hx hb dX0_cauldronsOfBroth_24 hl (k := 2) rfl (by rw [e_v1]; rfl) (by decide) rfl (fun ls hl => ?_)
        refine lv_goto (tgt := 4) hx hb dX0_cauldronsOfBroth_27 (by decide) ?_
        exact ih_4 x1_24 v1 _ _ h hS (lv_sub hl [1, 2, 0] rfl)
      intro x1_4 x2_4 locs ls h hS hl
      rw [g_X0_cauldronsOfBroth_b4] at h
      refine lv_iload_n hx hb dX0_cauldronsOfBroth_4 rfl (lv_at hl 2 rfl) ?_
      refine lv_aload_n hx hb dX0_cauldronsOfBroth_5 rfl (lv_at hl 0 rfl) ?_
      refine va_get (D := (dC, dI)) (ci := 4) (v := .int t_cauldrons) (C := RX0) (T := TX0) (N := 11) hx hb hta inX0w hown hK hR0 0 rfl rfl 0 (by decide) (hta _ lk_X0_41) (fun _ h9 => h9) rfl dX0_cauldronsOfBroth_6 ?_
      refine lv_icmp_ge (tgt := 30) hx hb dX0_cauldronsOfBroth_9 (by decide) (fun c0 => ?_) (fun c0 => ?_)
      · have h := (if_pos c0).symm.trans h
        refine lv_iload_n hx hb dX0_cauldronsOfBroth_30 rfl (lv_at hl 1 rfl) ?_
        have ho := Option.some.inj h
        rw [hQ]
        exact W.iret (v := x1_4) hx hb hr (fun t ht hW => ⟨⟨x1_4, (), rfl, by rw [← ho], ht⟩, hS.F ht⟩) hS.2.2 dX0_cauldronsOfBroth_31
      · have h := (if_neg c0).symm.trans h
        refine lv_aload_n hx hb dX0_cauldronsOfBroth_12 rfl (lv_at hl 0 rfl) ?_
        refine va_get (D := (dC, dI)) (ci := 4) (v := .ref a_t_isBroth) (C := RX0) (T := TX0) (N := 11) hx hb hta inX0w hown hK hR0 0 rfl rfl 1 (by decide) (hta _ lk_X0_9) (fun _ h9 => h9) rfl dX0_cauldronsOfBroth_13 ?_
        refine lv_iload_n hx hb dX0_cauldronsOfBroth_16 rfl (lv_at hl 2 rfl) ?_
        obtain ⟨hc, h⟩ := gc_some h
        refine va_zald hx hb hK hR0 1 1 rfl rfl (inb_in hc) dX0_cauldronsOfBroth_17 ?_
        refine lv_if_eq (tgt := 24) hx hb dX0_cauldronsOfBroth_18 (by decide) (fun c0 => ?_) (fun c0 => ?_)
        · have h := (if_pos c0).symm.trans h
          exact wB_24 x1_4 x2_4 _ _ h hS (lv_sub hl [0, 1, 2] rfl)
        · have h := (if_neg c0).symm.trans h
          obtain ⟨v2, e_v2⟩ : ∃ y : Int32, y = x1_4 + 1 := ⟨_, rfl⟩
          have h := gl_use e_v2 h
          refine lv_iinc (v := v2) (lv' := [(1, .int v2), (0, .ref a_t), (2, .int x2_4)]) hx hb dX0_cauldronsOfBroth_21 hl (k := 1) rfl (by rw [e_v2]; rfl) (by decide) rfl (fun ls hl => ?_)
          exact wB_24 v2 x2_4 _ _ h hS (lv_sub hl [1, 0, 2] rfl)
  unfold g_X0_cauldronsOfBroth at h
  refine lv_iconst (v := 0) hx hb dX0_cauldronsOfBroth_0 (by decide) ?_
  refine lv_istore_n (lv' := [(1, .int 0), (0, .ref a_t)]) hx hb dX0_cauldronsOfBroth_1 rfl hl (by decide) rfl (fun ls hl => ?_)
  refine lv_iconst (v := 0) hx hb dX0_cauldronsOfBroth_2 (by decide) ?_
  refine lv_istore_n (lv' := [(2, .int 0), (1, .int 0), (0, .ref a_t)]) hx hb dX0_cauldronsOfBroth_3 rfl hl (by decide) rfl (fun ls hl => ?_)
  exact wB_4 100 0 0 _ _ h hS (lv_sub hl [2, 1, 0] rfl)
set_option maxHeartbeats 4000000 in
set_option maxRecDepth 100000 in
theorem c_X0_allDrams (l : Launch) (dC : Nat → ClassId) (dI : Nat → Nat → Nat) (cT : Nat → ClassId) {Hh : Heap} {a_t : Nat} {a_t_isBroth : Nat} {a_t_contents : Nat} {a_t_contents_many : Nat} {a_t_low : Nat} {a_t_high : Nat} {a_t_storesIn : Nat} {a_t_texts : Nat} {a_t_cooked : Nat} {a_t_contents_much : Nat} {t_cauldrons : Int32} {t_isBroth : Nat → Int32} {t_contents_many : Nat → Int32} {t_spells : Int32} {t_cookedSoFar : Int32} {t_storesSoFar : Int32} {o : Int32} (h : g_X0_allDrams t_cauldrons t_isBroth t_contents_many = some o) (hR0 : va_P (dC, dI) vwCl [(a_t, .inr (4, [.int t_cauldrons, .ref a_t_isBroth, .ref a_t_low, .ref a_t_high, .ref a_t_contents, .ref a_t_storesIn, .int t_spells, .ref a_t_texts, .ref a_t_cooked, .int t_cookedSoFar, .int t_storesSoFar])), (a_t_isBroth, .inl (cT 1, 6, .inl t_isBroth)), (a_t_contents, .inr (5, [.ref a_t_contents_many, .ref a_t_contents_much])), (a_t_contents_many, .inl (cT 0, 6, .inl t_contents_many))] Hh) : Met l yX0_allDrams (wA yX0_allDrams cX0_allDrams 3 (some .int)) ({ frames := 0, cells := 0, slots := 0, locals := 0 } : Room) (PK dC dI cT [.ref a_t] Hh) (va_Qi (fun x (_ : Unit) => x = o) (fun _ t => t.heap = Hh) (va_A [] Hh.size)) 0 0 (va_A [] Hh.size) := by
  refine Met.ofW (cc := cX0_allDrams) (maxL := 3) (ret := (some .int)) (by decide) rfl ?_
  intro p e s m args below meth c s₁ B hml hv
  obtain ⟨rfl, hH, hK⟩ := hv
  subst hH
  have hx := B.exec
  have hb := B.bytes
  have hr := B.returns
  have hta : ∀ w ∈ ALLW, w.before [.ref a_t].toArray s = true := fun w hw => atoms_spec (ws := wA yX0_allDrams cX0_allDrams 3 (some .int)) B.pre w (List.mem_cons_of_mem _ hw)
  have hown : s.vm.findClass RX0 = some m.cls := findClass_of_methodNamed B.named
  have hlocks := B.notSynchronized
  generalize hAe : va_A [] s.heap.size = A
  have hA : ∀ q : Nat, s.heap.size ≤ q → A q := fun q h => by rw [← hAe]; exact Or.inr h
  have hS : va_S A s.heap s.heap [] := va_S.rf
  have hl := lv_entry [.ref a_t] (n := 3) (Nat.le_of_ble_eq_true rfl)
  rw [lg_entry_eq]
  generalize (lg_sl [.ref a_t] ++ List.replicate (3 - (lg_sl [.ref a_t]).length) Slot.unset).toArray = ls at hl ⊢
  have hl : lv_has ls 3 [(0, .ref a_t)] := hl
  obtain ⟨Q, hQ⟩ : ∃ Q, Q = MQ below (va_Qi (fun x (_ : Unit) => x = o) (fun _ t => t.heap = s.heap) A) [.ref a_t].toArray s 0 0 A := ⟨_, rfl⟩
  rw [← hQ]
  have wB_4 : ∀ (n_4 : Nat), ∀ (x1_4 : Int32) (x2_4 : Int32) (locs : List Loc) (ls : Array Slot), g_X0_allDrams_b4 t_cauldrons t_isBroth t_contents_many n_4 x1_4 x2_4 = some o → va_S A s.heap s.heap locs → lv_has ls 3 [(0, .ref a_t), (1, .int x1_4), (2, .int x2_4)] → W p l e ({ frames := 0, cells := 0, slots := 0, locals := 0 } : Room) s m [.ref a_t].toArray below meth c s.heap locs 0 0 Q (F0 m 4 ls []) := by
    intro n_4
    induction n_4 with
    | zero =>
      intro x1_4 x2_4 locs ls h hS hl
      simp [g_X0_allDrams_b4] at h
    | succ n_4 ih_4 =>
      have wB_33 : ∀ (x1_33 : Int32) (x2_33 : Int32) (locs : List Loc) (ls : Array Slot), g_X0_allDrams_b33 t_cauldrons t_isBroth t_contents_many (g_X0_allDrams_b4 t_cauldrons t_isBroth t_contents_many n_4) x1_33 x2_33 = some o → va_S A s.heap s.heap locs → lv_has ls 3 [(0, .ref a_t), (1, .int x1_33), (2, .int x2_33)] → W p l e ({ frames := 0, cells := 0, slots := 0, locals := 0 } : Room) s m [.ref a_t].toArray below meth c s.heap locs 0 0 Q (F0 m 33 ls []) := by
        intro x1_33 x2_33 locs ls h hS hl
        unfold g_X0_allDrams_b33 at h
        obtain ⟨v1, e_v1⟩ : ∃ y : Int32, y = x2_33 + 1 := ⟨_, rfl⟩
        have h := gl_use e_v1 h
        refine lv_iinc (v := v1) (lv' := [(2, .int v1), (0, .ref a_t), (1, .int x1_33)]) hx hb dX0_allDrams_33 hl (k := 2) rfl (by rw [e_v1]; rfl) (by decide) rfl (fun ls hl => ?_)
        refine lv_goto (tgt := 4) hx hb dX0_allDrams_36 (by decide) ?_
        exact ih_4 x1_33 v1 _ _ h hS (lv_sub hl [1, 2, 0] rfl)
      intro x1_4 x2_4 locs ls h hS hl
      rw [g_X0_allDrams_b4] at h
      refine lv_iload_n hx hb dX0_allDrams_4 rfl (lv_at hl 2 rfl) ?_
      refine lv_aload_n hx hb dX0_allDrams_5 rfl (lv_at hl 0 rfl) ?_
      refine va_get (D := (dC, dI)) (ci := 4) (v := .int t_cauldrons) (C := RX0) (T := TX0) (N := 11) hx hb hta inX0w hown hK hR0 0 rfl rfl 0 (by decide) (hta _ lk_X0_41) (fun _ h9 => h9) rfl dX0_allDrams_6 ?_
      refine lv_icmp_ge (tgt := 39) hx hb dX0_allDrams_9 (by decide) (fun c0 => ?_) (fun c0 => ?_)
      · have h := (if_pos c0).symm.trans h
        refine lv_iload_n hx hb dX0_allDrams_39 rfl (lv_at hl 1 rfl) ?_
        have ho := Option.some.inj h
        rw [hQ]
        exact W.iret (v := x1_4) hx hb hr (fun t ht hW => ⟨⟨x1_4, (), rfl, by rw [← ho], ht⟩, hS.F ht⟩) hS.2.2 dX0_allDrams_40
      · have h := (if_neg c0).symm.trans h
        refine lv_aload_n hx hb dX0_allDrams_12 rfl (lv_at hl 0 rfl) ?_
        refine va_get (D := (dC, dI)) (ci := 4) (v := .ref a_t_isBroth) (C := RX0) (T := TX0) (N := 11) hx hb hta inX0w hown hK hR0 0 rfl rfl 1 (by decide) (hta _ lk_X0_9) (fun _ h9 => h9) rfl dX0_allDrams_13 ?_
        refine lv_iload_n hx hb dX0_allDrams_16 rfl (lv_at hl 2 rfl) ?_
        obtain ⟨hc, h⟩ := gc_some h
        refine va_zald hx hb hK hR0 1 1 rfl rfl (inb_in hc) dX0_allDrams_17 ?_
        refine lv_if_ne (tgt := 33) hx hb dX0_allDrams_18 (by decide) (fun c0 => ?_) (fun c0 => ?_)
        · have h := (if_neg c0).symm.trans h
          exact wB_33 x1_4 x2_4 _ _ h hS (lv_sub hl [0, 1, 2] rfl)
        · have h := (if_pos c0).symm.trans h
          refine lv_iload_n hx hb dX0_allDrams_21 rfl (lv_at hl 1 rfl) ?_
          refine lv_aload_n hx hb dX0_allDrams_22 rfl (lv_at hl 0 rfl) ?_
          refine va_get (D := (dC, dI)) (ci := 4) (v := .ref a_t_contents) (C := RX0) (T := TX0) (N := 11) hx hb hta inX0w hown hK hR0 0 rfl rfl 4 (by decide) (hta _ lk_X0_25) (fun _ h9 => h9) rfl dX0_allDrams_23 ?_
          refine va_get (D := (dC, dI)) (ci := 5) (v := .ref a_t_contents_many) (C := RX1) (T := TX1) (N := 2) hx hb hta inX1w hown hK hR0 2 rfl rfl 0 (by decide) (hta _ lk_X0_58) (fun _ h9 => h9) rfl dX0_allDrams_26 ?_
          refine lv_iload_n hx hb dX0_allDrams_29 rfl (lv_at hl 2 rfl) ?_
          obtain ⟨hc, h⟩ := gc_some h
          refine va_iald hx hb hK hR0 3 0 rfl rfl (inb_in hc) dX0_allDrams_30 ?_
          refine lv_iadd hx hb dX0_allDrams_31 ?_
          refine lv_topi (fun v2 e_v2 => ?_)
          have h := gl_use e_v2 h
          refine lv_istore_n (lv' := [(1, .int v2), (0, .ref a_t), (2, .int x2_4)]) hx hb dX0_allDrams_32 rfl hl (by decide) rfl (fun ls hl => ?_)
          exact wB_33 v2 x2_4 _ _ h hS (lv_sub hl [1, 0, 2] rfl)
  unfold g_X0_allDrams at h
  refine lv_iconst (v := 0) hx hb dX0_allDrams_0 (by decide) ?_
  refine lv_istore_n (lv' := [(1, .int 0), (0, .ref a_t)]) hx hb dX0_allDrams_1 rfl hl (by decide) rfl (fun ls hl => ?_)
  refine lv_iconst (v := 0) hx hb dX0_allDrams_2 (by decide) ?_
  refine lv_istore_n (lv' := [(2, .int 0), (1, .int 0), (0, .ref a_t)]) hx hb dX0_allDrams_3 rfl hl (by decide) rfl (fun ls hl => ?_)
  exact wB_4 100 0 0 _ _ h hS (lv_sub hl [2, 1, 0] rfl)
set_option maxHeartbeats 4000000 in
set_option maxRecDepth 100000 in
theorem c_X8_lastAhead (l : Launch) (dC : Nat → ClassId) (dI : Nat → Nat → Nat) (cT : Nat → ClassId) {Hh : Heap} {a_t : Nat} {a_t_kinds : Nat} {a_t_values : Nat} {a_t_text : Nat} {a_t_firsts : Nat} {a_t_parts : Nat} {a_t_lastParts : Nat} {t_tokens : Int32} {t_kinds : Nat → Int32} {t_values : Nat → Int32} {p1 : Int32} {p2 : Int32} {p3 : Int32} {t_stores : Int32} {t_mostSpoons : Int32} {o : Int32} (h : g_X8_lastAhead t_tokens t_kinds t_values p1 p2 p3 = some o) (hR0 : va_P (dC, dI) vwCl [(a_t, .inr (11, [.ref a_t_text, .int t_tokens, .int t_stores, .int t_mostSpoons, .ref a_t_firsts, .ref a_t_kinds, .ref a_t_values, .ref a_t_parts, .ref a_t_lastParts])), (a_t_kinds, .inl (cT 0, 24, .inl t_kinds)), (a_t_values, .inl (cT 0, 24, .inl t_values))] Hh) : Met l yX8_lastAhead (wA yX8_lastAhead cX8_lastAhead 5 (some .int)) ({ frames := 1, cells := 0, slots := 0, locals := 21 } : Room) (PK dC dI cT [.ref a_t, .int p1, .int p2, .int p3] Hh) (va_Qi (fun x (_ : Unit) => x = o) (fun _ t => t.heap = Hh) (va_A [] Hh.size)) 0 0 (va_A [] Hh.size) := by
  refine Met.ofW (cc := cX8_lastAhead) (maxL := 5) (ret := (some .int)) (by decide) rfl ?_
  intro p e s m args below meth c s₁ B hml hv
  obtain ⟨rfl, hH, hK⟩ := hv
  subst hH
  have hx := B.exec
  have hb := B.bytes
  have hr := B.returns
  have hta : ∀ w ∈ ALLW, w.before [.ref a_t, .int p1, .int p2, .int p3].toArray s = true := fun w hw => atoms_spec (ws := wA yX8_lastAhead cX8_lastAhead 5 (some .int)) B.pre w (List.mem_cons_of_mem _ hw)
  have hown : s.vm.findClass RX8 = some m.cls := findClass_of_methodNamed B.named
  have hlocks := B.notSynchronized
  generalize hAe : va_A [] s.heap.size = A
  have hA : ∀ q : Nat, s.heap.size ≤ q → A q := fun q h => by rw [← hAe]; exact Or.inr h
  have hS : va_S A s.heap s.heap [] := va_S.rf
  have hl := lv_entry [.ref a_t, .int p1, .int p2, .int p3] (n := 5) (Nat.le_of_ble_eq_true rfl)
  rw [lg_entry_eq]
  generalize (lg_sl [.ref a_t, .int p1, .int p2, .int p3] ++ List.replicate (5 - (lg_sl [.ref a_t, .int p1, .int p2, .int p3]).length) Slot.unset).toArray = ls at hl ⊢
  have hl : lv_has ls 5 [(0, .ref a_t), (1, .int p1), (2, .int p2), (3, .int p3)] := hl
  obtain ⟨Q, hQ⟩ : ∃ Q, Q = MQ below (va_Qi (fun x (_ : Unit) => x = o) (fun _ t => t.heap = s.heap) A) [.ref a_t, .int p1, .int p2, .int p3].toArray s 0 0 A := ⟨_, rfl⟩
  rw [← hQ]
  have wB_12 : ∀ (n_12 : Nat), ∀ (x4_12 : Int32) (locs : List Loc) (ls : Array Slot), g_X8_lastAhead_b12 t_kinds t_values p1 p2 n_12 x4_12 = some o → va_S A s.heap s.heap locs → lv_has ls 5 [(0, .ref a_t), (1, .int p1), (2, .int p2), (4, .int x4_12)] → W p l e ({ frames := 1, cells := 0, slots := 0, locals := 21 } : Room) s m [.ref a_t, .int p1, .int p2, .int p3].toArray below meth c s.heap locs 0 0 Q (F0 m 12 ls []) := by
    intro n_12
    induction n_12 with
    | zero =>
      intro x4_12 locs ls h hS hl
      simp [g_X8_lastAhead_b12] at h
    | succ n_12 ih_12 =>
      have wB_42 : ∀ (x4_42 : Int32) (locs : List Loc) (ls : Array Slot), g_X8_lastAhead_b42 t_kinds t_values p1 p2 (g_X8_lastAhead_b12 t_kinds t_values p1 p2 n_12) x4_42 = some o → va_S A s.heap s.heap locs → lv_has ls 5 [(0, .ref a_t), (1, .int p1), (2, .int p2), (4, .int x4_42)] → W p l e ({ frames := 1, cells := 0, slots := 0, locals := 21 } : Room) s m [.ref a_t, .int p1, .int p2, .int p3].toArray below meth c s.heap locs 0 0 Q (F0 m 42 ls []) := by
        intro x4_42 locs ls h hS hl
        unfold g_X8_lastAhead_b42 at h
        obtain ⟨v2, e_v2⟩ : ∃ y : Int32, y = x4_42 + (-1) := ⟨_, rfl⟩
        have h := gl_use e_v2 h
        refine lv_iinc (v := v2) (lv' := [(4, .int v2), (0, .ref a_t), (1, .int p1), (2, .int p2)]) hx hb dX8_lastAhead_42 hl (k := 3) rfl (by rw [e_v2]; rfl) (by decide) rfl (fun ls hl => ?_)
        refine lv_goto (tgt := 12) hx hb dX8_lastAhead_45 (by decide) ?_
        exact ih_12 v2 _ _ h hS (lv_sub hl [1, 2, 3, 0] rfl)
      intro x4_12 locs ls h hS hl
      rw [g_X8_lastAhead_b12] at h
      refine lv_iload hx hb dX8_lastAhead_12 (lv_at hl 3 rfl) ?_
      refine lv_if_lt (tgt := 48) hx hb dX8_lastAhead_14 (by decide) (fun c0 => ?_) (fun c0 => ?_)
      · have h := (if_pos c0).symm.trans h
        refine lv_iconst (v := -1) hx hb dX8_lastAhead_48 (by decide) ?_
        have ho := Option.some.inj h
        rw [hQ]
        exact W.iret (v := (-1)) hx hb hr (fun t ht hW => ⟨⟨(-1), (), rfl, by rw [← ho], ht⟩, hS.F ht⟩) hS.2.2 dX8_lastAhead_49
      · have h := (if_neg c0).symm.trans h
        refine lv_aload_n hx hb dX8_lastAhead_17 rfl (lv_at hl 0 rfl) ?_
        refine va_get (D := (dC, dI)) (ci := 11) (v := .ref a_t_kinds) (C := RX8) (T := TX8) (N := 9) hx hb hta inX8w hown hK hR0 0 rfl rfl 5 (by decide) (hta _ lk_X8_60) (fun _ h9 => h9) rfl dX8_lastAhead_18 ?_
        refine lv_iload hx hb dX8_lastAhead_21 (lv_at hl 3 rfl) ?_
        obtain ⟨hc, h⟩ := gc_some h
        refine va_iald hx hb hK hR0 1 0 rfl rfl (inb_in hc) dX8_lastAhead_23 ?_
        refine lv_iload_n hx hb dX8_lastAhead_24 rfl (lv_at hl 1 rfl) ?_
        refine lv_icmp_ne (tgt := 42) hx hb dX8_lastAhead_25 (by decide) (fun c0 => ?_) (fun c0 => ?_)
        · have h := (if_neg c0).symm.trans h
          exact wB_42 x4_12 _ _ h hS (lv_sub hl [0, 1, 2, 3] rfl)
        · have h := (if_pos c0).symm.trans h
          refine lv_aload_n hx hb dX8_lastAhead_28 rfl (lv_at hl 0 rfl) ?_
          refine va_get (D := (dC, dI)) (ci := 11) (v := .ref a_t_values) (C := RX8) (T := TX8) (N := 9) hx hb hta inX8w hown hK hR0 0 rfl rfl 6 (by decide) (hta _ lk_X8_64) (fun _ h9 => h9) rfl dX8_lastAhead_29 ?_
          refine lv_iload hx hb dX8_lastAhead_32 (lv_at hl 3 rfl) ?_
          obtain ⟨hc, h⟩ := gc_some h
          refine va_iald hx hb hK hR0 2 0 rfl rfl (inb_in hc) dX8_lastAhead_34 ?_
          refine lv_iload_n hx hb dX8_lastAhead_35 rfl (lv_at hl 2 rfl) ?_
          refine lv_icmp_ne (tgt := 42) hx hb dX8_lastAhead_36 (by decide) (fun c0 => ?_) (fun c0 => ?_)
          · have h := (if_neg c0).symm.trans h
            exact wB_42 x4_12 _ _ h hS (lv_sub hl [0, 1, 2, 3] rfl)
          · have h := (if_pos c0).symm.trans h
            refine lv_iload hx hb dX8_lastAhead_39 (lv_at hl 3 rfl) ?_
            have ho := Option.some.inj h
            rw [hQ]
            exact W.iret (v := x4_12) hx hb hr (fun t ht hW => ⟨⟨x4_12, (), rfl, by rw [← ho], ht⟩, hS.F ht⟩) hS.2.2 dX8_lastAhead_41
  unfold g_X8_lastAhead at h
  refine lv_iload_n hx hb dX8_lastAhead_0 rfl (lv_at hl 3 rfl) ?_
  refine lv_aload_n hx hb dX8_lastAhead_1 rfl (lv_at hl 0 rfl) ?_
  refine va_get (D := (dC, dI)) (ci := 11) (v := .int t_tokens) (C := RX8) (T := TX8) (N := 9) hx hb hta inX8w hown hK hR0 0 rfl rfl 1 (by decide) (hta _ lk_X8_36) (fun _ h9 => h9) rfl dX8_lastAhead_2 ?_
  refine va_mmin hx hb (hml.trans hl.1.symm) hown (hta _ lm_X8_9) (hta _ mth_minint_s) (hta _ mth_i) (hta _ mth_minint_c) (Nat.le_of_ble_eq_true rfl) (Nat.le_of_ble_eq_true rfl) (Nat.le_of_ble_eq_true rfl) (Nat.le_of_ble_eq_true rfl) dX8_lastAhead_5 ?_
  refine lv_iconst (v := 1) hx hb dX8_lastAhead_8 (by decide) ?_
  refine lv_isub hx hb dX8_lastAhead_9 ?_
  refine lv_topi (fun v1 e_v1 => ?_)
  have h := gl_use e_v1 h
  refine lv_istore (lv' := [(4, .int v1), (0, .ref a_t), (1, .int p1), (2, .int p2), (3, .int p3)]) hx hb dX8_lastAhead_10 hl (by decide) rfl (fun ls hl => ?_)
  exact wB_12 100 v1 _ _ h hS (lv_sub hl [1, 2, 3, 0] rfl)
set_option maxHeartbeats 4000000 in
set_option maxRecDepth 100000 in
theorem c_X1_differences (l : Launch) (dC : Nat → ClassId) (dI : Nat → Nat → Nat) (cT : Nat → ClassId) {Hh : Heap} {a_t : Nat} {a_p1 : Nat} {a_t_many : Nat} {a_p1_many : Nat} {a_t_much : Nat} {a_p1_much : Nat} {t_many : Nat → Int32} {p1_many : Nat → Int32} {t_much : Nat → UInt32} {p1_much : Nat → UInt32} {o : Int32} (h : g_X1_differences t_many p1_many t_much p1_much = some o) (hR0 : va_P (dC, dI) vwCl [(a_t, .inr (5, [.ref a_t_many, .ref a_t_much])), (a_p1, .inr (5, [.ref a_p1_many, .ref a_p1_much])), (a_t_many, .inl (cT 0, 6, .inl t_many)), (a_p1_many, .inl (cT 0, 6, .inl p1_many)), (a_t_much, .inl (cT 4, 6, .inr (.inr (.inl t_much)))), (a_p1_much, .inl (cT 4, 6, .inr (.inr (.inl p1_much))))] Hh) : Met l yX1_differences (wA yX1_differences cX1_differences 4 (some .int)) ({ frames := 2, cells := 0, slots := 0, locals := 42 } : Room) (PK dC dI cT [.ref a_t, .ref a_p1] Hh) (va_Qi (fun x (_ : Unit) => x = o) (fun _ t => t.heap = Hh) (va_A [] Hh.size)) 0 0 (va_A [] Hh.size) := by
  refine Met.ofW (cc := cX1_differences) (maxL := 4) (ret := (some .int)) (by decide) rfl ?_
  intro p e s m args below meth c s₁ B hml hv
  obtain ⟨rfl, hH, hK⟩ := hv
  subst hH
  have hx := B.exec
  have hb := B.bytes
  have hr := B.returns
  have hta : ∀ w ∈ ALLW, w.before [.ref a_t, .ref a_p1].toArray s = true := fun w hw => atoms_spec (ws := wA yX1_differences cX1_differences 4 (some .int)) B.pre w (List.mem_cons_of_mem _ hw)
  have hown : s.vm.findClass RX1 = some m.cls := findClass_of_methodNamed B.named
  have hlocks := B.notSynchronized
  generalize hAe : va_A [] s.heap.size = A
  have hA : ∀ q : Nat, s.heap.size ≤ q → A q := fun q h => by rw [← hAe]; exact Or.inr h
  have hS : va_S A s.heap s.heap [] := va_S.rf
  have hl := lv_entry [.ref a_t, .ref a_p1] (n := 4) (Nat.le_of_ble_eq_true rfl)
  rw [lg_entry_eq]
  generalize (lg_sl [.ref a_t, .ref a_p1] ++ List.replicate (4 - (lg_sl [.ref a_t, .ref a_p1]).length) Slot.unset).toArray = ls at hl ⊢
  have hl : lv_has ls 4 [(0, .ref a_t), (1, .ref a_p1)] := hl
  obtain ⟨Q, hQ⟩ : ∃ Q, Q = MQ below (va_Qi (fun x (_ : Unit) => x = o) (fun _ t => t.heap = s.heap) A) [.ref a_t, .ref a_p1].toArray s 0 0 A := ⟨_, rfl⟩
  rw [← hQ]
  have wB_4 : ∀ (n_4 : Nat), ∀ (x2_4 : Int32) (x3_4 : Int32) (locs : List Loc) (ls : Array Slot), g_X1_differences_b4 t_many p1_many t_much p1_much n_4 x2_4 x3_4 = some o → va_S A s.heap s.heap locs → lv_has ls 4 [(0, .ref a_t), (1, .ref a_p1), (2, .int x2_4), (3, .int x3_4)] → W p l e ({ frames := 2, cells := 0, slots := 0, locals := 42 } : Room) s m [.ref a_t, .ref a_p1].toArray below meth c s.heap locs 0 0 Q (F0 m 4 ls []) := by
    intro n_4
    induction n_4 with
    | zero =>
      intro x2_4 x3_4 locs ls h hS hl
      simp [g_X1_differences_b4] at h
    | succ n_4 ih_4 =>
      have wB_46 : ∀ (x2_46 : Int32) (x3_46 : Int32) (locs : List Loc) (ls : Array Slot), g_X1_differences_b46 t_many p1_many t_much p1_much (g_X1_differences_b4 t_many p1_many t_much p1_much n_4) x2_46 x3_46 = some o → va_S A s.heap s.heap locs → lv_has ls 4 [(0, .ref a_t), (1, .ref a_p1), (2, .int x2_46), (3, .int x3_46)] → W p l e ({ frames := 2, cells := 0, slots := 0, locals := 42 } : Room) s m [.ref a_t, .ref a_p1].toArray below meth c s.heap locs 0 0 Q (F0 m 46 ls []) := by
        intro x2_46 x3_46 locs ls h hS hl
        unfold g_X1_differences_b46 at h
        obtain ⟨v1, e_v1⟩ : ∃ y : Int32, y = x3_46 + 1 := ⟨_, rfl⟩
        have h := gl_use e_v1 h
        refine lv_iinc (v := v1) (lv' := [(3, .int v1), (0, .ref a_t), (1, .ref a_p1), (2, .int x2_46)]) hx hb dX1_differences_46 hl (k := 3) rfl (by rw [e_v1]; rfl) (by decide) rfl (fun ls hl => ?_)
        refine lv_goto (tgt := 4) hx hb dX1_differences_49 (by decide) ?_
        exact ih_4 x2_46 v1 _ _ h hS (lv_sub hl [1, 2, 3, 0] rfl)
      have wB_43 : ∀ (x2_43 : Int32) (x3_43 : Int32) (locs : List Loc) (ls : Array Slot), g_X1_differences_b43 t_many p1_many t_much p1_much (g_X1_differences_b4 t_many p1_many t_much p1_much n_4) x2_43 x3_43 = some o → va_S A s.heap s.heap locs → lv_has ls 4 [(0, .ref a_t), (1, .ref a_p1), (2, .int x2_43), (3, .int x3_43)] → W p l e ({ frames := 2, cells := 0, slots := 0, locals := 42 } : Room) s m [.ref a_t, .ref a_p1].toArray below meth c s.heap locs 0 0 Q (F0 m 43 ls []) := by
        intro x2_43 x3_43 locs ls h hS hl
        unfold g_X1_differences_b43 at h
        obtain ⟨v2, e_v2⟩ : ∃ y : Int32, y = x2_43 + 1 := ⟨_, rfl⟩
        have h := gl_use e_v2 h
        refine lv_iinc (v := v2) (lv' := [(2, .int v2), (0, .ref a_t), (1, .ref a_p1), (3, .int x3_43)]) hx hb dX1_differences_43 hl (k := 2) rfl (by rw [e_v2]; rfl) (by decide) rfl (fun ls hl => ?_)
        exact wB_46 v2 x3_43 _ _ h hS (lv_sub hl [1, 2, 0, 3] rfl)
      intro x2_4 x3_4 locs ls h hS hl
      rw [g_X1_differences_b4] at h
      refine lv_iload_n hx hb dX1_differences_4 rfl (lv_at hl 3 rfl) ?_
      refine lv_bipush (v := 6) hx hb dX1_differences_5 (by decide) ?_
      refine lv_icmp_ge (tgt := 52) hx hb dX1_differences_7 (by decide) (fun c0 => ?_) (fun c0 => ?_)
      · have h := (if_pos c0).symm.trans h
        refine lv_iload_n hx hb dX1_differences_52 rfl (lv_at hl 2 rfl) ?_
        have ho := Option.some.inj h
        rw [hQ]
        exact W.iret (v := x2_4) hx hb hr (fun t ht hW => ⟨⟨x2_4, (), rfl, by rw [← ho], ht⟩, hS.F ht⟩) hS.2.2 dX1_differences_53
      · have h := (if_neg c0).symm.trans h
        refine lv_aload_n hx hb dX1_differences_10 rfl (lv_at hl 0 rfl) ?_
        refine va_get (D := (dC, dI)) (ci := 5) (v := .ref a_t_many) (C := RX1) (T := TX1) (N := 2) hx hb hta inX1w hown hK hR0 0 rfl rfl 0 (by decide) (hta _ lk_X1_9) (fun _ h9 => h9) rfl dX1_differences_11 ?_
        refine lv_iload_n hx hb dX1_differences_14 rfl (lv_at hl 3 rfl) ?_
        obtain ⟨hc, h⟩ := gc_some h
        refine va_iald hx hb hK hR0 2 0 rfl rfl (inb_in hc) dX1_differences_15 ?_
        refine lv_aload_n hx hb dX1_differences_16 rfl (lv_at hl 1 rfl) ?_
        refine va_get (D := (dC, dI)) (ci := 5) (v := .ref a_p1_many) (C := RX1) (T := TX1) (N := 2) hx hb hta inX1w hown hK hR0 1 rfl rfl 0 (by decide) (hta _ lk_X1_9) (fun _ h9 => h9) rfl dX1_differences_17 ?_
        refine lv_iload_n hx hb dX1_differences_20 rfl (lv_at hl 3 rfl) ?_
        obtain ⟨hc, h⟩ := gc_some h
        refine va_iald hx hb hK hR0 3 0 rfl rfl (inb_in hc) dX1_differences_21 ?_
        refine lv_icmp_ne (tgt := 43) hx hb dX1_differences_22 (by decide) (fun c0 => ?_) (fun c0 => ?_)
        · have h := (if_neg c0).symm.trans h
          exact wB_43 x2_4 x3_4 _ _ h hS (lv_sub hl [0, 1, 2, 3] rfl)
        · have h := (if_pos c0).symm.trans h
          refine lv_aload_n hx hb dX1_differences_25 rfl (lv_at hl 0 rfl) ?_
          refine va_get (D := (dC, dI)) (ci := 5) (v := .ref a_t_much) (C := RX1) (T := TX1) (N := 2) hx hb hta inX1w hown hK hR0 0 rfl rfl 1 (by decide) (hta _ lk_X1_15) (fun _ h9 => h9) rfl dX1_differences_26 ?_
          refine lv_iload_n hx hb dX1_differences_29 rfl (lv_at hl 3 rfl) ?_
          obtain ⟨hc, h⟩ := gc_some h
          refine va_fald hx hb hK hR0 4 4 rfl rfl (inb_in hc) dX1_differences_30 ?_
          refine lv_aload_n hx hb dX1_differences_31 rfl (lv_at hl 1 rfl) ?_
          refine va_get (D := (dC, dI)) (ci := 5) (v := .ref a_p1_much) (C := RX1) (T := TX1) (N := 2) hx hb hta inX1w hown hK hR0 1 rfl rfl 1 (by decide) (hta _ lk_X1_15) (fun _ h9 => h9) rfl dX1_differences_32 ?_
          refine lv_iload_n hx hb dX1_differences_35 rfl (lv_at hl 3 rfl) ?_
          obtain ⟨hc, h⟩ := gc_some h
          refine va_fald hx hb hK hR0 5 4 rfl rfl (inb_in hc) dX1_differences_36 ?_
          obtain ⟨r3, hq, h⟩ := gb_some h
          refine crI (va_runS (As := [.float (t_much x3_4.toNatClampNeg), .float (p1_much x3_4.toNatClampNeg)]) (rest := []) ⟨hx, hb, hml, hown, hta⟩ (c_X5_differ l dC dI cT hq) (cS hta lm_X1_19 md_X5_differ ⟨(Nat.le_of_ble_eq_true rfl), (Nat.le_of_ble_eq_true rfl)⟩) ⟨fbK, fun U hU hW => ⟨rfl, hU, va_K.moved hW.alike hK⟩⟩ rfl rfl hl.1 rfl (lv_room (Nat.le_of_ble_eq_true rfl)) dX1_differences_37 ⟨(Nat.le_of_ble_eq_true rfl), (Nat.le_of_ble_eq_true rfl)⟩) hS hA (fun locs hS => ?_)
          refine lv_if_eq (tgt := 46) hx hb dX1_differences_40 (by decide) (fun c0 => ?_) (fun c0 => ?_)
          · have h := (if_pos c0).symm.trans h
            exact wB_46 x2_4 x3_4 _ _ h hS (lv_sub hl [0, 1, 2, 3] rfl)
          · have h := (if_neg c0).symm.trans h
            exact wB_43 x2_4 x3_4 _ _ h hS (lv_sub hl [0, 1, 2, 3] rfl)
  unfold g_X1_differences at h
  refine lv_iconst (v := 0) hx hb dX1_differences_0 (by decide) ?_
  refine lv_istore_n (lv' := [(2, .int 0), (0, .ref a_t), (1, .ref a_p1)]) hx hb dX1_differences_1 rfl hl (by decide) rfl (fun ls hl => ?_)
  refine lv_iconst (v := 0) hx hb dX1_differences_2 (by decide) ?_
  refine lv_istore_n (lv' := [(3, .int 0), (2, .int 0), (0, .ref a_t), (1, .ref a_p1)]) hx hb dX1_differences_3 rfl hl (by decide) rfl (fun ls hl => ?_)
  exact wB_4 100 0 0 _ _ h hS (lv_sub hl [2, 3, 1, 0] rfl)
set_option maxHeartbeats 4000000 in
set_option maxRecDepth 100000 in
theorem c_X7_keep (l : Launch) (dC : Nat → ClassId) (dI : Nat → Nat → Nat) (cT : Nat → ClassId) {Hh : Heap} {a_t : Nat} {t_isKept : Int32} {t_reason : Int32} {t_detail : Int32} {t_hasCause : Int32} {p1 : Int32} {p2 : Int32} {t_cause : Int32} {t_causeDetail : Int32} {o : Int32 × Int32 × Int32 × Int32} (h : g_X7_keep t_isKept t_reason t_detail t_hasCause p1 p2 = some o) (hP0 : va_P (dC, dI) vwCl [(a_t, .inr (10, [.int t_isKept, .int t_reason, .int t_detail, .int t_hasCause, .int t_cause, .int t_causeDetail]))] Hh) (hD0 : va_D (fun _ => True) [(a_t, .inr (10, [.int t_isKept, .int t_reason, .int t_detail, .int t_hasCause, .int t_cause, .int t_causeDetail]))]) : Met l yX7_keep (wA yX7_keep cX7_keep 3 none) ({ frames := 0, cells := 0, slots := 0, locals := 0 } : Room) (PK dC dI cT [.ref a_t, .int p1, .int p2] Hh) (va_Qv (fun (_ : Unit) => True) (fun _ t => va_P (dC, dI) vwCl [(a_t, .inr (10, [.int o.1, .int o.2.1, .int o.2.2.1, .int o.2.2.2, .int t_cause, .int t_causeDetail]))] t.heap) (va_A [(a_t, .inr (10, [.int t_isKept, .int t_reason, .int t_detail, .int t_hasCause, .int t_cause, .int t_causeDetail]))] Hh.size)) 0 0 (va_A [(a_t, .inr (10, [.int t_isKept, .int t_reason, .int t_detail, .int t_hasCause, .int t_cause, .int t_causeDetail]))] Hh.size) := by
  refine Met.ofW (cc := cX7_keep) (maxL := 3) (ret := none) (by decide) rfl ?_
  intro p e s m args below meth c s₁ B hml hv
  obtain ⟨rfl, hH, hK⟩ := hv
  subst hH
  have hx := B.exec
  have hb := B.bytes
  have hr := B.returns
  have hta : ∀ w ∈ ALLW, w.before [.ref a_t, .int p1, .int p2].toArray s = true := fun w hw => atoms_spec (ws := wA yX7_keep cX7_keep 3 none) B.pre w (List.mem_cons_of_mem _ hw)
  have hown : s.vm.findClass RX7 = some m.cls := findClass_of_methodNamed B.named
  have hlocks := B.notSynchronized
  have hD := hD0.self (sz := s.heap.size)
  generalize hAe : va_A [(a_t, .inr (10, [.int t_isKept, .int t_reason, .int t_detail, .int t_hasCause, .int t_cause, .int t_causeDetail]))] s.heap.size = A at hD ⊢
  have hP := hP0
  have hA : ∀ q : Nat, s.heap.size ≤ q → A q := fun q h => by rw [← hAe]; exact Or.inr h
  have hS : va_S A s.heap s.heap [] := va_S.rf
  have hl := lv_entry [.ref a_t, .int p1, .int p2] (n := 3) (Nat.le_of_ble_eq_true rfl)
  rw [lg_entry_eq]
  generalize (lg_sl [.ref a_t, .int p1, .int p2] ++ List.replicate (3 - (lg_sl [.ref a_t, .int p1, .int p2]).length) Slot.unset).toArray = ls at hl ⊢
  have hl : lv_has ls 3 [(0, .ref a_t), (1, .int p1), (2, .int p2)] := hl
  unfold g_X7_keep at h
  refine lv_aload_n hx hb dX7_keep_0 rfl (lv_at hl 0 rfl) ?_
  refine lv_iconst (v := 1) hx hb dX7_keep_1 (by decide) ?_
  refine va_put (D := (dC, dI)) (ci := 10) (v := .int 1) (ty := .boolean) (C := RX7) (T := TX7) (N := 6) hx hb hta inX7w tyX7 tyX7_ok nmX7 hown hK hP hD hS 0 rfl rfl 0 (by decide) (hta _ lk_X7_7) (fun _ h9 => h9) rfl (by decide +kernel) rfl rfl (Nat.le_of_ble_eq_true rfl) dX7_keep_2 (fun H locs hP hD hS => ?_)
  have hP : va_P (dC, dI) vwCl [(a_t, .inr (10, [.int 1, .int t_reason, .int t_detail, .int t_hasCause, .int t_cause, .int t_causeDetail]))] H := hP
  have hD : va_D A [(a_t, .inr (10, [.int 1, .int t_reason, .int t_detail, .int t_hasCause, .int t_cause, .int t_causeDetail]))] := hD
  refine lv_aload_n hx hb dX7_keep_5 rfl (lv_at hl 0 rfl) ?_
  refine lv_iload_n hx hb dX7_keep_6 rfl (lv_at hl 1 rfl) ?_
  refine va_put (D := (dC, dI)) (ci := 10) (v := .int p1) (ty := .int) (C := RX7) (T := TX7) (N := 6) hx hb hta inX7w tyX7 tyX7_ok nmX7 hown hK hP hD hS 0 rfl rfl 1 (by decide) (hta _ lk_X7_13) (fun _ h9 => h9) rfl (by decide +kernel) rfl rfl (Nat.le_of_ble_eq_true rfl) dX7_keep_7 (fun H locs hP hD hS => ?_)
  have hP : va_P (dC, dI) vwCl [(a_t, .inr (10, [.int 1, .int p1, .int t_detail, .int t_hasCause, .int t_cause, .int t_causeDetail]))] H := hP
  have hD : va_D A [(a_t, .inr (10, [.int 1, .int p1, .int t_detail, .int t_hasCause, .int t_cause, .int t_causeDetail]))] := hD
  refine lv_aload_n hx hb dX7_keep_10 rfl (lv_at hl 0 rfl) ?_
  refine lv_iload_n hx hb dX7_keep_11 rfl (lv_at hl 2 rfl) ?_
  refine va_put (D := (dC, dI)) (ci := 10) (v := .int p2) (ty := .int) (C := RX7) (T := TX7) (N := 6) hx hb hta inX7w tyX7 tyX7_ok nmX7 hown hK hP hD hS 0 rfl rfl 2 (by decide) (hta _ lk_X7_17) (fun _ h9 => h9) rfl (by decide +kernel) rfl rfl (Nat.le_of_ble_eq_true rfl) dX7_keep_12 (fun H locs hP hD hS => ?_)
  have hP : va_P (dC, dI) vwCl [(a_t, .inr (10, [.int 1, .int p1, .int p2, .int t_hasCause, .int t_cause, .int t_causeDetail]))] H := hP
  have hD : va_D A [(a_t, .inr (10, [.int 1, .int p1, .int p2, .int t_hasCause, .int t_cause, .int t_causeDetail]))] := hD
  refine lv_aload_n hx hb dX7_keep_15 rfl (lv_at hl 0 rfl) ?_
  refine lv_iconst (v := 0) hx hb dX7_keep_16 (by decide) ?_
  refine va_put (D := (dC, dI)) (ci := 10) (v := .int 0) (ty := .boolean) (C := RX7) (T := TX7) (N := 6) hx hb hta inX7w tyX7 tyX7_ok nmX7 hown hK hP hD hS 0 rfl rfl 3 (by decide) (hta _ lk_X7_20) (fun _ h9 => h9) rfl (by decide +kernel) rfl rfl (Nat.le_of_ble_eq_true rfl) dX7_keep_17 (fun H locs hP hD hS => ?_)
  have hP : va_P (dC, dI) vwCl [(a_t, .inr (10, [.int 1, .int p1, .int p2, .int 0, .int t_cause, .int t_causeDetail]))] H := hP
  have hD : va_D A [(a_t, .inr (10, [.int 1, .int p1, .int p2, .int 0, .int t_cause, .int t_causeDetail]))] := hD
  have ho := Option.some.inj h
  exact W.vret hx hb hr (fun t ht hW => ⟨⟨(), rfl, trivial, by show va_P (dC, dI) vwCl _ t.heap; rw [ht, ← ho]; exact hP⟩, hS.F ht⟩) hS.2.2 dX7_keep_20
set_option maxHeartbeats 4000000 in
set_option maxRecDepth 100000 in
theorem c_X7_keepWithCause (l : Launch) (dC : Nat → ClassId) (dI : Nat → Nat → Nat) (cT : Nat → ClassId) {Hh : Heap} {a_t : Nat} {t_isKept : Int32} {t_reason : Int32} {t_detail : Int32} {t_hasCause : Int32} {t_cause : Int32} {t_causeDetail : Int32} {p1 : Int32} {p2 : Int32} {p3 : Int32} {p4 : Int32} {o : Int32 × Int32 × Int32 × Int32 × Int32 × Int32} (h : g_X7_keepWithCause t_isKept t_reason t_detail t_hasCause t_cause t_causeDetail p1 p2 p3 p4 = some o) (hP0 : va_P (dC, dI) vwCl [(a_t, .inr (10, [.int t_isKept, .int t_reason, .int t_detail, .int t_hasCause, .int t_cause, .int t_causeDetail]))] Hh) (hD0 : va_D (fun _ => True) [(a_t, .inr (10, [.int t_isKept, .int t_reason, .int t_detail, .int t_hasCause, .int t_cause, .int t_causeDetail]))]) : Met l yX7_keepWithCause (wA yX7_keepWithCause cX7_keepWithCause 5 none) ({ frames := 1, cells := 0, slots := 0, locals := 22 } : Room) (PK dC dI cT [.ref a_t, .int p1, .int p2, .int p3, .int p4] Hh) (va_Qv (fun (_ : Unit) => True) (fun _ t => va_P (dC, dI) vwCl [(a_t, .inr (10, [.int o.1, .int o.2.1, .int o.2.2.1, .int o.2.2.2.1, .int o.2.2.2.2.1, .int o.2.2.2.2.2]))] t.heap) (va_A [(a_t, .inr (10, [.int t_isKept, .int t_reason, .int t_detail, .int t_hasCause, .int t_cause, .int t_causeDetail]))] Hh.size)) 0 0 (va_A [(a_t, .inr (10, [.int t_isKept, .int t_reason, .int t_detail, .int t_hasCause, .int t_cause, .int t_causeDetail]))] Hh.size) := by
  refine Met.ofW (cc := cX7_keepWithCause) (maxL := 5) (ret := none) (by decide) rfl ?_
  intro p e s m args below meth c s₁ B hml hv
  obtain ⟨rfl, hH, hK⟩ := hv
  subst hH
  have hx := B.exec
  have hb := B.bytes
  have hr := B.returns
  have hta : ∀ w ∈ ALLW, w.before [.ref a_t, .int p1, .int p2, .int p3, .int p4].toArray s = true := fun w hw => atoms_spec (ws := wA yX7_keepWithCause cX7_keepWithCause 5 none) B.pre w (List.mem_cons_of_mem _ hw)
  have hown : s.vm.findClass RX7 = some m.cls := findClass_of_methodNamed B.named
  have hlocks := B.notSynchronized
  have hD := hD0.self (sz := s.heap.size)
  generalize hAe : va_A [(a_t, .inr (10, [.int t_isKept, .int t_reason, .int t_detail, .int t_hasCause, .int t_cause, .int t_causeDetail]))] s.heap.size = A at hD ⊢
  have hP := hP0
  have hA : ∀ q : Nat, s.heap.size ≤ q → A q := fun q h => by rw [← hAe]; exact Or.inr h
  have hS : va_S A s.heap s.heap [] := va_S.rf
  have hl := lv_entry [.ref a_t, .int p1, .int p2, .int p3, .int p4] (n := 5) (Nat.le_of_ble_eq_true rfl)
  rw [lg_entry_eq]
  generalize (lg_sl [.ref a_t, .int p1, .int p2, .int p3, .int p4] ++ List.replicate (5 - (lg_sl [.ref a_t, .int p1, .int p2, .int p3, .int p4]).length) Slot.unset).toArray = ls at hl ⊢
  have hl : lv_has ls 5 [(0, .ref a_t), (1, .int p1), (2, .int p2), (3, .int p3), (4, .int p4)] := hl
  unfold g_X7_keepWithCause at h
  refine lv_aload_n hx hb dX7_keepWithCause_0 rfl (lv_at hl 0 rfl) ?_
  refine lv_iload_n hx hb dX7_keepWithCause_1 rfl (lv_at hl 1 rfl) ?_
  refine lv_iload_n hx hb dX7_keepWithCause_2 rfl (lv_at hl 2 rfl) ?_
  obtain ⟨r1, hq, h⟩ := gb_some h
  refine cxV (X2 := [(a_t, .inr (10, [.int r1.1, .int r1.2.1, .int r1.2.2.1, .int r1.2.2.2, .int t_cause, .int t_causeDetail]))]) (va_runV (As := [.int p1, .int p2]) (rest := []) ⟨hx, hb, hml, hown, hta⟩ (c_X7_keep l dC dI cT hq (hP.sub (ws' := [(a_t, .inr (10, [.int t_isKept, .int t_reason, .int t_detail, .int t_hasCause, .int t_cause, .int t_causeDetail]))]) [0] rfl) (ds hD [0] (by decide) rfl)) (cV hta lm_X7_23 md_X7_keep ⟨(Nat.le_of_ble_eq_true rfl), (Nat.le_of_ble_eq_true rfl)⟩) ⟨fbK, va_recv hK hP (ci := 10) (q0 := 0) rfl rfl, fun U hU hW => ⟨rfl, hU, va_K.moved hW.alike hK⟩⟩ rfl rfl hl.1 rfl (lv_room (Nat.le_of_ble_eq_true rfl)) dX7_keepWithCause_3 ⟨(Nat.le_of_ble_eq_true rfl), (Nat.le_of_ble_eq_true rfl)⟩) hS hA hP hD [0] rfl [.inl 0] rfl rfl rfl (fun H locs hP hD hS => ?_)
  refine lv_aload_n hx hb dX7_keepWithCause_6 rfl (lv_at hl 0 rfl) ?_
  refine lv_iconst (v := 1) hx hb dX7_keepWithCause_7 (by decide) ?_
  refine va_put (D := (dC, dI)) (ci := 10) (v := .int 1) (ty := .boolean) (C := RX7) (T := TX7) (N := 6) hx hb hta inX7w tyX7 tyX7_ok nmX7 hown hK hP hD hS 0 rfl rfl 3 (by decide) (hta _ lk_X7_20) (fun _ h9 => h9) rfl (by decide +kernel) rfl rfl (Nat.le_of_ble_eq_true rfl) dX7_keepWithCause_8 (fun H locs hP hD hS => ?_)
  have hP : va_P (dC, dI) vwCl [(a_t, .inr (10, [.int r1.1, .int r1.2.1, .int r1.2.2.1, .int 1, .int t_cause, .int t_causeDetail]))] H := hP
  have hD : va_D A [(a_t, .inr (10, [.int r1.1, .int r1.2.1, .int r1.2.2.1, .int 1, .int t_cause, .int t_causeDetail]))] := hD
  refine lv_aload_n hx hb dX7_keepWithCause_11 rfl (lv_at hl 0 rfl) ?_
  refine lv_iload_n hx hb dX7_keepWithCause_12 rfl (lv_at hl 3 rfl) ?_
  refine va_put (D := (dC, dI)) (ci := 10) (v := .int p3) (ty := .int) (C := RX7) (T := TX7) (N := 6) hx hb hta inX7w tyX7 tyX7_ok nmX7 hown hK hP hD hS 0 rfl rfl 4 (by decide) (hta _ lk_X7_27) (fun _ h9 => h9) rfl (by decide +kernel) rfl rfl (Nat.le_of_ble_eq_true rfl) dX7_keepWithCause_13 (fun H locs hP hD hS => ?_)
  have hP : va_P (dC, dI) vwCl [(a_t, .inr (10, [.int r1.1, .int r1.2.1, .int r1.2.2.1, .int 1, .int p3, .int t_causeDetail]))] H := hP
  have hD : va_D A [(a_t, .inr (10, [.int r1.1, .int r1.2.1, .int r1.2.2.1, .int 1, .int p3, .int t_causeDetail]))] := hD
  refine lv_aload_n hx hb dX7_keepWithCause_16 rfl (lv_at hl 0 rfl) ?_
  refine lv_iload hx hb dX7_keepWithCause_17 (lv_at hl 4 rfl) ?_
  refine va_put (D := (dC, dI)) (ci := 10) (v := .int p4) (ty := .int) (C := RX7) (T := TX7) (N := 6) hx hb hta inX7w tyX7 tyX7_ok nmX7 hown hK hP hD hS 0 rfl rfl 5 (by decide) (hta _ lk_X7_30) (fun _ h9 => h9) rfl (by decide +kernel) rfl rfl (Nat.le_of_ble_eq_true rfl) dX7_keepWithCause_19 (fun H locs hP hD hS => ?_)
  have hP : va_P (dC, dI) vwCl [(a_t, .inr (10, [.int r1.1, .int r1.2.1, .int r1.2.2.1, .int 1, .int p3, .int p4]))] H := hP
  have hD : va_D A [(a_t, .inr (10, [.int r1.1, .int r1.2.1, .int r1.2.2.1, .int 1, .int p3, .int p4]))] := hD
  have ho := Option.some.inj h
  exact W.vret hx hb hr (fun t ht hW => ⟨⟨(), rfl, trivial, by show va_P (dC, dI) vwCl _ t.heap; rw [ht, ← ho]; exact hP⟩, hS.F ht⟩) hS.2.2 dX7_keepWithCause_22
