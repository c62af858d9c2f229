set_option maxHeartbeats 4000000 in
set_option maxRecDepth 100000 in
theorem c_X0_copy (l : Launch) (dC : Nat → ClassId) (dI : Nat → Nat → Nat) (cT : Nat → ClassId) {Hh : Heap} {sq : Nat → Nat → Nat} {a_t : Nat} {a_p1 : Nat} {a_t_contents : Nat} {a_p1_contents : Nat} {a_t_contents_many : Nat} {a_p1_contents_many : Nat} {a_t_contents_much : Nat} {a_p1_contents_much : Nat} {a_t_isBroth : Nat} {a_p1_isBroth : Nat} {a_t_low : Nat} {a_p1_low : Nat} {a_t_high : Nat} {a_p1_high : Nat} {a_t_storesIn : Nat} {a_p1_storesIn : Nat} {a_t_texts : Nat} {a_p1_texts : Nat} {a_t_cooked : Nat} {a_p1_cooked : Nat} {LS : List Nat} {SE : Nat → SV} {t_cauldrons : Int32} {t_spells : Int32} {t_cookedSoFar : Int32} {t_storesSoFar : Int32} {p1_cauldrons : Int32} {p1_spells : Int32} {p1_cookedSoFar : Int32} {p1_storesSoFar : Int32} {t_contents_many : Nat → Int32} {p1_contents_many : Nat → Int32} {t_contents_much : Nat → UInt32} {p1_contents_much : Nat → UInt32} {t_isBroth : Nat → Int32} {p1_isBroth : Nat → Int32} {t_low : Nat → Int32} {p1_low : Nat → Int32} {t_high : Nat → Int32} {p1_high : Nat → Int32} {t_storesIn : Nat → Int32} {p1_storesIn : Nat → Int32} {t_texts : Nat → Option Nat} {p1_texts : Nat → Option Nat} {t_cooked : Nat → Int32} {p1_cooked : Nat → Int32} {o : Int32 × Int32 × Int32 × Int32 × (Nat → Int32) × (Nat → UInt32) × (Nat → Int32) × (Nat → Int32) × (Nat → Int32) × (Nat → Int32) × (Nat → Option Nat) × (Nat → Int32)} (h : g_X0_copy LS SE t_cauldrons t_spells t_cookedSoFar t_storesSoFar p1_cauldrons p1_spells p1_cookedSoFar p1_storesSoFar t_contents_many p1_contents_many t_contents_much p1_contents_much t_isBroth p1_isBroth t_low p1_low t_high p1_high t_storesIn p1_storesIn t_texts p1_texts t_cooked p1_cooked = some o) (hP0 : va_P (dC, dI) vwCl [(a_t, .inr (4, [.int t_cauldrons, .ref a_t_isBroth, .ref a_t_low, .ref a_t_high, .ref a_t_contents, .ref a_t_storesIn, .int t_spells, .ref a_t_texts, .ref a_t_cooked, .int t_cookedSoFar, .int t_storesSoFar])), (a_t_contents_many, .inl (cT 0, 6, .inl t_contents_many)), (a_t_contents_much, .inl (cT 4, 6, .inr (.inr (.inl t_contents_much)))), (a_t_isBroth, .inl (cT 1, 6, .inl t_isBroth)), (a_t_low, .inl (cT 0, 6, .inl t_low)), (a_t_high, .inl (cT 0, 6, .inl t_high)), (a_t_storesIn, .inl (cT 0, 6, .inl t_storesIn)), (a_t_texts, .inl (cT 7, 4, .inr (.inr (.inr (.inr t_texts))))), (a_t_cooked, .inl (cT 0, 4, .inl t_cooked))] Hh) (hR0 : va_P (dC, dI) vwCl [(a_p1, .inr (4, [.int p1_cauldrons, .ref a_p1_isBroth, .ref a_p1_low, .ref a_p1_high, .ref a_p1_contents, .ref a_p1_storesIn, .int p1_spells, .ref a_p1_texts, .ref a_p1_cooked, .int p1_cookedSoFar, .int p1_storesSoFar])), (a_t_contents, .inr (5, [.ref a_t_contents_many, .ref a_t_contents_much])), (a_p1_contents, .inr (5, [.ref a_p1_contents_many, .ref a_p1_contents_much])), (a_p1_contents_many, .inl (cT 0, 6, .inl p1_contents_many)), (a_p1_contents_much, .inl (cT 4, 6, .inr (.inr (.inl p1_contents_much)))), (a_p1_isBroth, .inl (cT 1, 6, .inl p1_isBroth)), (a_p1_low, .inl (cT 0, 6, .inl p1_low)), (a_p1_high, .inl (cT 0, 6, .inl p1_high)), (a_p1_storesIn, .inl (cT 0, 6, .inl p1_storesIn)), (a_p1_texts, .inl (cT 7, 4, .inr (.inr (.inr (.inr p1_texts))))), (a_p1_cooked, .inl (cT 0, 4, .inl p1_cooked))] Hh) (hD0 : va_D (fun _ => True) [(a_t, .inr (4, [.int t_cauldrons, .ref a_t_isBroth, .ref a_t_low, .ref a_t_high, .ref a_t_contents, .ref a_t_storesIn, .int t_spells, .ref a_t_texts, .ref a_t_cooked, .int t_cookedSoFar, .int t_storesSoFar])), (a_t_contents_many, .inl (cT 0, 6, .inl t_contents_many)), (a_t_contents_much, .inl (cT 4, 6, .inr (.inr (.inl t_contents_much)))), (a_t_isBroth, .inl (cT 1, 6, .inl t_isBroth)), (a_t_low, .inl (cT 0, 6, .inl t_low)), (a_t_high, .inl (cT 0, 6, .inl t_high)), (a_t_storesIn, .inl (cT 0, 6, .inl t_storesIn)), (a_t_texts, .inl (cT 7, 4, .inr (.inr (.inr (.inr t_texts))))), (a_t_cooked, .inl (cT 0, 4, .inl t_cooked))]) (hN0 : ∀ (k : Nat) (q : Nat × va_E), ([(a_p1, .inr (4, [.int p1_cauldrons, .ref a_p1_isBroth, .ref a_p1_low, .ref a_p1_high, .ref a_p1_contents, .ref a_p1_storesIn, .int p1_spells, .ref a_p1_texts, .ref a_p1_cooked, .int p1_cookedSoFar, .int p1_storesSoFar])), (a_t_contents, .inr (5, [.ref a_t_contents_many, .ref a_t_contents_much])), (a_p1_contents, .inr (5, [.ref a_p1_contents_many, .ref a_p1_contents_much])), (a_p1_contents_many, .inl (cT 0, 6, .inl p1_contents_many)), (a_p1_contents_much, .inl (cT 4, 6, .inr (.inr (.inl p1_contents_much)))), (a_p1_isBroth, .inl (cT 1, 6, .inl p1_isBroth)), (a_p1_low, .inl (cT 0, 6, .inl p1_low)), (a_p1_high, .inl (cT 0, 6, .inl p1_high)), (a_p1_storesIn, .inl (cT 0, 6, .inl p1_storesIn)), (a_p1_texts, .inl (cT 7, 4, .inr (.inr (.inr (.inr p1_texts))))), (a_p1_cooked, .inl (cT 0, 4, .inl p1_cooked))] : va_W)[k]? = some q → ¬ va_A [(a_t, .inr (4, [.int t_cauldrons, .ref a_t_isBroth, .ref a_t_low, .ref a_t_high, .ref a_t_contents, .ref a_t_storesIn, .int t_spells, .ref a_t_texts, .ref a_t_cooked, .int t_cookedSoFar, .int t_storesSoFar])), (a_t_contents_many, .inl (cT 0, 6, .inl t_contents_many)), (a_t_contents_much, .inl (cT 4, 6, .inr (.inr (.inl t_contents_much)))), (a_t_isBroth, .inl (cT 1, 6, .inl t_isBroth)), (a_t_low, .inl (cT 0, 6, .inl t_low)), (a_t_high, .inl (cT 0, 6, .inl t_high)), (a_t_storesIn, .inl (cT 0, 6, .inl t_storesIn)), (a_t_texts, .inl (cT 7, 4, .inr (.inr (.inr (.inr t_texts))))), (a_t_cooked, .inl (cT 0, 4, .inl t_cooked))] Hh.size q.1) (hSP : ∀ a ∈ LS, va_P (dC, dI) vwCl (spc cT sq SE a) Hh) (hSN : ∀ a ∈ LS, ∀ (k : Nat) (q : Nat × va_E), (spc cT sq SE a)[k]? = some q → ¬ va_A [(a_t, .inr (4, [.int t_cauldrons, .ref a_t_isBroth, .ref a_t_low, .ref a_t_high, .ref a_t_contents, .ref a_t_storesIn, .int t_spells, .ref a_t_texts, .ref a_t_cooked, .int t_cookedSoFar, .int t_storesSoFar])), (a_t_contents_many, .inl (cT 0, 6, .inl t_contents_many)), (a_t_contents_much, .inl (cT 4, 6, .inr (.inr (.inl t_contents_much)))), (a_t_isBroth, .inl (cT 1, 6, .inl t_isBroth)), (a_t_low, .inl (cT 0, 6, .inl t_low)), (a_t_high, .inl (cT 0, 6, .inl t_high)), (a_t_storesIn, .inl (cT 0, 6, .inl t_storesIn)), (a_t_texts, .inl (cT 7, 4, .inr (.inr (.inr (.inr t_texts))))), (a_t_cooked, .inl (cT 0, 4, .inl t_cooked))] Hh.size q.1) : Met l yX0_copy (wA yX0_copy cX0_copy 3 none) ({ frames := 1, cells := 0, slots := 0, locals := 22 } : Room) (PK dC dI cT [.ref a_t, .ref a_p1] Hh) (va_Qv (fun (_ : Unit) => True) (fun _ t => va_P (dC, dI) vwCl [(a_t, .inr (4, [.int o.1, .ref a_t_isBroth, .ref a_t_low, .ref a_t_high, .ref a_t_contents, .ref a_t_storesIn, .int o.2.1, .ref a_t_texts, .ref a_t_cooked, .int o.2.2.1, .int o.2.2.2.1])), (a_t_contents_many, .inl (cT 0, 6, .inl o.2.2.2.2.1)), (a_t_contents_much, .inl (cT 4, 6, .inr (.inr (.inl o.2.2.2.2.2.1)))), (a_t_isBroth, .inl (cT 1, 6, .inl o.2.2.2.2.2.2.1)), (a_t_low, .inl (cT 0, 6, .inl o.2.2.2.2.2.2.2.1)), (a_t_high, .inl (cT 0, 6, .inl o.2.2.2.2.2.2.2.2.1)), (a_t_storesIn, .inl (cT 0, 6, .inl o.2.2.2.2.2.2.2.2.2.1)), (a_t_texts, .inl (cT 7, 4, .inr (.inr (.inr (.inr o.2.2.2.2.2.2.2.2.2.2.1))))), (a_t_cooked, .inl (cT 0, 4, .inl o.2.2.2.2.2.2.2.2.2.2.2))] t.heap) (va_A [(a_t, .inr (4, [.int t_cauldrons, .ref a_t_isBroth, .ref a_t_low, .ref a_t_high, .ref a_t_contents, .ref a_t_storesIn, .int t_spells, .ref a_t_texts, .ref a_t_cooked, .int t_cookedSoFar, .int t_storesSoFar])), (a_t_contents_many, .inl (cT 0, 6, .inl t_contents_many)), (a_t_contents_much, .inl (cT 4, 6, .inr (.inr (.inl t_contents_much)))), (a_t_isBroth, .inl (cT 1, 6, .inl t_isBroth)), (a_t_low, .inl (cT 0, 6, .inl t_low)), (a_t_high, .inl (cT 0, 6, .inl t_high)), (a_t_storesIn, .inl (cT 0, 6, .inl t_storesIn)), (a_t_texts, .inl (cT 7, 4, .inr (.inr (.inr (.inr t_texts))))), (a_t_cooked, .inl (cT 0, 4, .inl t_cooked))] Hh.size)) 0 0 (va_A [(a_t, .inr (4, [.int t_cauldrons, .ref a_t_isBroth, .ref a_t_low, .ref a_t_high, .ref a_t_contents, .ref a_t_storesIn, .int t_spells, .ref a_t_texts, .ref a_t_cooked, .int t_cookedSoFar, .int t_storesSoFar])), (a_t_contents_many, .inl (cT 0, 6, .inl t_contents_many)), (a_t_contents_much, .inl (cT 4, 6, .inr (.inr (.inl t_contents_much)))), (a_t_isBroth, .inl (cT 1, 6, .inl t_isBroth)), (a_t_low, .inl (cT 0, 6, .inl t_low)), (a_t_high, .inl (cT 0, 6, .inl t_high)), (a_t_storesIn, .inl (cT 0, 6, .inl t_storesIn)), (a_t_texts, .inl (cT 7, 4, .inr (.inr (.inr (.inr t_texts))))), (a_t_cooked, .inl (cT 0, 4, .inl t_cooked))] Hh.size) := by
  refine Met.ofW (cc := cX0_copy) (maxL := 3) (ret := none) (by decide) rfl ?_
  intro p e s m args below meth c s₁ B hml hv
  obtain ⟨rfl, hH, hK⟩ := hv
  subst hH
  have hx := B.exec
  have hb := B.bytes
  have hr := B.returns
  have hta : ∀ w ∈ ALLW, w.before [.ref a_t, .ref a_p1].toArray s = true := fun w hw => atoms_spec (ws := wA yX0_copy cX0_copy 3 none) B.pre w (List.mem_cons_of_mem _ hw)
  have hown : s.vm.findClass RX0 = some m.cls := findClass_of_methodNamed B.named
  have hlocks := B.notSynchronized
  have hD := hD0.self (sz := s.heap.size)
  have hNA := hN0
  generalize hAe : va_A [(a_t, .inr (4, [.int t_cauldrons, .ref a_t_isBroth, .ref a_t_low, .ref a_t_high, .ref a_t_contents, .ref a_t_storesIn, .int t_spells, .ref a_t_texts, .ref a_t_cooked, .int t_cookedSoFar, .int t_storesSoFar])), (a_t_contents_many, .inl (cT 0, 6, .inl t_contents_many)), (a_t_contents_much, .inl (cT 4, 6, .inr (.inr (.inl t_contents_much)))), (a_t_isBroth, .inl (cT 1, 6, .inl t_isBroth)), (a_t_low, .inl (cT 0, 6, .inl t_low)), (a_t_high, .inl (cT 0, 6, .inl t_high)), (a_t_storesIn, .inl (cT 0, 6, .inl t_storesIn)), (a_t_texts, .inl (cT 7, 4, .inr (.inr (.inr (.inr t_texts))))), (a_t_cooked, .inl (cT 0, 4, .inl t_cooked))] s.heap.size = A at hD hNA hSN ⊢
  have hP := hP0
  have hA : ∀ q : Nat, s.heap.size ≤ q → A q := fun q h => by rw [← hAe]; exact Or.inr h
  have hS : va_S A s.heap s.heap [] := va_S.rf
  have hl := lv_entry [.ref a_t, .ref a_p1] (n := 3) (Nat.le_of_ble_eq_true rfl)
  rw [lg_entry_eq]
  generalize (lg_sl [.ref a_t, .ref a_p1] ++ List.replicate (3 - (lg_sl [.ref a_t, .ref a_p1]).length) Slot.unset).toArray = ls at hl ⊢
  have hl : lv_has ls 3 [(0, .ref a_t), (1, .ref a_p1)] := hl
  obtain ⟨Q, hQ⟩ : ∃ Q, Q = MQ below (va_Qv (fun (_ : Unit) => True) (fun _ t => va_P (dC, dI) vwCl [(a_t, .inr (4, [.int o.1, .ref a_t_isBroth, .ref a_t_low, .ref a_t_high, .ref a_t_contents, .ref a_t_storesIn, .int o.2.1, .ref a_t_texts, .ref a_t_cooked, .int o.2.2.1, .int o.2.2.2.1])), (a_t_contents_many, .inl (cT 0, 6, .inl o.2.2.2.2.1)), (a_t_contents_much, .inl (cT 4, 6, .inr (.inr (.inl o.2.2.2.2.2.1)))), (a_t_isBroth, .inl (cT 1, 6, .inl o.2.2.2.2.2.2.1)), (a_t_low, .inl (cT 0, 6, .inl o.2.2.2.2.2.2.2.1)), (a_t_high, .inl (cT 0, 6, .inl o.2.2.2.2.2.2.2.2.1)), (a_t_storesIn, .inl (cT 0, 6, .inl o.2.2.2.2.2.2.2.2.2.1)), (a_t_texts, .inl (cT 7, 4, .inr (.inr (.inr (.inr o.2.2.2.2.2.2.2.2.2.2.1))))), (a_t_cooked, .inl (cT 0, 4, .inl o.2.2.2.2.2.2.2.2.2.2.2))] t.heap) A) [.ref a_t, .ref a_p1].toArray s 0 0 A := ⟨_, rfl⟩
  rw [← hQ]
  have wB_91 : ∀ (n_91 : Nat), ∀ (t_contents_many_91 : Nat → Int32) (t_contents_much_91 : Nat → UInt32) (t_cooked_91 : Nat → Int32) (t_high_91 : Nat → Int32) (t_isBroth_91 : Nat → Int32) (t_low_91 : Nat → Int32) (t_storesIn_91 : Nat → Int32) (t_texts_91 : Nat → Option Nat) (x2_91 : Int32) (H : Heap) (locs : List Loc) (ls : Array Slot), g_X0_copy_b91 LS p1_cauldrons p1_spells p1_cookedSoFar p1_storesSoFar p1_texts p1_cooked n_91 t_contents_many_91 t_contents_much_91 t_cooked_91 t_high_91 t_isBroth_91 t_low_91 t_storesIn_91 t_texts_91 x2_91 = some o → va_P (dC, dI) vwCl [(a_t, .inr (4, [.int p1_cauldrons, .ref a_t_isBroth, .ref a_t_low, .ref a_t_high, .ref a_t_contents, .ref a_t_storesIn, .int p1_spells, .ref a_t_texts, .ref a_t_cooked, .int t_cookedSoFar, .int t_storesSoFar])), (a_t_contents_many, .inl (cT 0, 6, .inl t_contents_many_91)), (a_t_contents_much, .inl (cT 4, 6, .inr (.inr (.inl t_contents_much_91)))), (a_t_isBroth, .inl (cT 1, 6, .inl t_isBroth_91)), (a_t_low, .inl (cT 0, 6, .inl t_low_91)), (a_t_high, .inl (cT 0, 6, .inl t_high_91)), (a_t_storesIn, .inl (cT 0, 6, .inl t_storesIn_91)), (a_t_texts, .inl (cT 7, 4, .inr (.inr (.inr (.inr t_texts_91))))), (a_t_cooked, .inl (cT 0, 4, .inl t_cooked_91))] H → va_D A [(a_t, .inr (4, [.int p1_cauldrons, .ref a_t_isBroth, .ref a_t_low, .ref a_t_high, .ref a_t_contents, .ref a_t_storesIn, .int p1_spells, .ref a_t_texts, .ref a_t_cooked, .int t_cookedSoFar, .int t_storesSoFar])), (a_t_contents_many, .inl (cT 0, 6, .inl t_contents_many_91)), (a_t_contents_much, .inl (cT 4, 6, .inr (.inr (.inl t_contents_much_91)))), (a_t_isBroth, .inl (cT 1, 6, .inl t_isBroth_91)), (a_t_low, .inl (cT 0, 6, .inl t_low_91)), (a_t_high, .inl (cT 0, 6, .inl t_high_91)), (a_t_storesIn, .inl (cT 0, 6, .inl t_storesIn_91)), (a_t_texts, .inl (cT 7, 4, .inr (.inr (.inr (.inr t_texts_91))))), (a_t_cooked, .inl (cT 0, 4, .inl t_cooked_91))] → va_S A s.heap H locs → lv_has ls 3 [(0, .ref a_t), (1, .ref a_p1), (2, .int x2_91)] → W p l e ({ frames := 1, cells := 0, slots := 0, locals := 22 } : Room) s m [.ref a_t, .ref a_p1].toArray below meth c H locs 0 0 Q (F0 m 91 ls []) := by
    intro n_91
    induction n_91 with
    | zero =>
      intro t_contents_many_91 t_contents_much_91 t_cooked_91 t_high_91 t_isBroth_91 t_low_91 t_storesIn_91 t_texts_91 x2_91 H locs ls h hP hD hS hl
      simp [g_X0_copy_b91] at h
    | succ n_91 ih_91 =>
      intro t_contents_many_91 t_contents_much_91 t_cooked_91 t_high_91 t_isBroth_91 t_low_91 t_storesIn_91 t_texts_91 x2_91 H locs ls h hP hD hS hl
      rw [g_X0_copy_b91] at h
      refine lv_iload_n hx hb dX0_copy_91 rfl (lv_at hl 2 rfl) ?_
      refine lv_iconst (v := 4) hx hb dX0_copy_92 (by decide) ?_
      refine lv_icmp_ge (tgt := 126) hx hb dX0_copy_93 (by decide) (fun c0 => ?_) (fun c0 => ?_)
      · have h := (if_pos c0).symm.trans h
        refine lv_aload_n hx hb dX0_copy_126 rfl (lv_at hl 0 rfl) ?_
        refine lv_aload_n hx hb dX0_copy_127 rfl (lv_at hl 1 rfl) ?_
        refine va_get (D := (dC, dI)) (ci := 4) (v := .int p1_cookedSoFar) (C := RX0) (T := TX0) (N := 11) hx hb hta inX0w hown hK (rk hR0 hNA hS) 0 rfl rfl 9 (by decide) (hta _ lk_X0_52) (fun _ h9 => h9) rfl dX0_copy_128 ?_
        refine va_put (D := (dC, dI)) (ci := 4) (v := .int p1_cookedSoFar) (ty := .int) (C := RX0) (T := TX0) (N := 11) hx hb hta inX0w tyX0 tyX0_ok nmX0 hown hK hP hD hS 0 rfl rfl 9 (by decide) (hta _ lk_X0_52) (fun _ h9 => h9) rfl (by decide +kernel) rfl rfl (Nat.le_of_ble_eq_true rfl) dX0_copy_131 (fun H locs hP hD hS => ?_)
        have hP : va_P (dC, dI) vwCl [(a_t, .inr (4, [.int p1_cauldrons, .ref a_t_isBroth, .ref a_t_low, .ref a_t_high, .ref a_t_contents, .ref a_t_storesIn, .int p1_spells, .ref a_t_texts, .ref a_t_cooked, .int p1_cookedSoFar, .int t_storesSoFar])), (a_t_contents_many, .inl (cT 0, 6, .inl t_contents_many_91)), (a_t_contents_much, .inl (cT 4, 6, .inr (.inr (.inl t_contents_much_91)))), (a_t_isBroth, .inl (cT 1, 6, .inl t_isBroth_91)), (a_t_low, .inl (cT 0, 6, .inl t_low_91)), (a_t_high, .inl (cT 0, 6, .inl t_high_91)), (a_t_storesIn, .inl (cT 0, 6, .inl t_storesIn_91)), (a_t_texts, .inl (cT 7, 4, .inr (.inr (.inr (.inr t_texts_91))))), (a_t_cooked, .inl (cT 0, 4, .inl t_cooked_91))] H := hP
        have hD : va_D A [(a_t, .inr (4, [.int p1_cauldrons, .ref a_t_isBroth, .ref a_t_low, .ref a_t_high, .ref a_t_contents, .ref a_t_storesIn, .int p1_spells, .ref a_t_texts, .ref a_t_cooked, .int p1_cookedSoFar, .int t_storesSoFar])), (a_t_contents_many, .inl (cT 0, 6, .inl t_contents_many_91)), (a_t_contents_much, .inl (cT 4, 6, .inr (.inr (.inl t_contents_much_91)))), (a_t_isBroth, .inl (cT 1, 6, .inl t_isBroth_91)), (a_t_low, .inl (cT 0, 6, .inl t_low_91)), (a_t_high, .inl (cT 0, 6, .inl t_high_91)), (a_t_storesIn, .inl (cT 0, 6, .inl t_storesIn_91)), (a_t_texts, .inl (cT 7, 4, .inr (.inr (.inr (.inr t_texts_91))))), (a_t_cooked, .inl (cT 0, 4, .inl t_cooked_91))] := hD
        refine lv_aload_n hx hb dX0_copy_134 rfl (lv_at hl 0 rfl) ?_
        refine lv_aload_n hx hb dX0_copy_135 rfl (lv_at hl 1 rfl) ?_
        refine va_get (D := (dC, dI)) (ci := 4) (v := .int p1_storesSoFar) (C := RX0) (T := TX0) (N := 11) hx hb hta inX0w hown hK (rk hR0 hNA hS) 0 rfl rfl 10 (by decide) (hta _ lk_X0_55) (fun _ h9 => h9) rfl dX0_copy_136 ?_
        refine va_put (D := (dC, dI)) (ci := 4) (v := .int p1_storesSoFar) (ty := .int) (C := RX0) (T := TX0) (N := 11) hx hb hta inX0w tyX0 tyX0_ok nmX0 hown hK hP hD hS 0 rfl rfl 10 (by decide) (hta _ lk_X0_55) (fun _ h9 => h9) rfl (by decide +kernel) rfl rfl (Nat.le_of_ble_eq_true rfl) dX0_copy_139 (fun H locs hP hD hS => ?_)
        have hP : va_P (dC, dI) vwCl [(a_t, .inr (4, [.int p1_cauldrons, .ref a_t_isBroth, .ref a_t_low, .ref a_t_high, .ref a_t_contents, .ref a_t_storesIn, .int p1_spells, .ref a_t_texts, .ref a_t_cooked, .int p1_cookedSoFar, .int p1_storesSoFar])), (a_t_contents_many, .inl (cT 0, 6, .inl t_contents_many_91)), (a_t_contents_much, .inl (cT 4, 6, .inr (.inr (.inl t_contents_much_91)))), (a_t_isBroth, .inl (cT 1, 6, .inl t_isBroth_91)), (a_t_low, .inl (cT 0, 6, .inl t_low_91)), (a_t_high, .inl (cT 0, 6, .inl t_high_91)), (a_t_storesIn, .inl (cT 0, 6, .inl t_storesIn_91)), (a_t_texts, .inl (cT 7, 4, .inr (.inr (.inr (.inr t_texts_91))))), (a_t_cooked, .inl (cT 0, 4, .inl t_cooked_91))] H := hP
        have hD : va_D A [(a_t, .inr (4, [.int p1_cauldrons, .ref a_t_isBroth, .ref a_t_low, .ref a_t_high, .ref a_t_contents, .ref a_t_storesIn, .int p1_spells, .ref a_t_texts, .ref a_t_cooked, .int p1_cookedSoFar, .int p1_storesSoFar])), (a_t_contents_many, .inl (cT 0, 6, .inl t_contents_many_91)), (a_t_contents_much, .inl (cT 4, 6, .inr (.inr (.inl t_contents_much_91)))), (a_t_isBroth, .inl (cT 1, 6, .inl t_isBroth_91)), (a_t_low, .inl (cT 0, 6, .inl t_low_91)), (a_t_high, .inl (cT 0, 6, .inl t_high_91)), (a_t_storesIn, .inl (cT 0, 6, .inl t_storesIn_91)), (a_t_texts, .inl (cT 7, 4, .inr (.inr (.inr (.inr t_texts_91))))), (a_t_cooked, .inl (cT 0, 4, .inl t_cooked_91))] := hD
        have ho := Option.some.inj h
        rw [hQ]
        exact W.vret hx hb hr (fun t ht hW => ⟨⟨(), rfl, trivial, by show va_P (dC, dI) vwCl _ t.heap; rw [ht, ← ho]; exact hP⟩, hS.F ht⟩) hS.2.2 dX0_copy_142
      · have h := (if_neg c0).symm.trans h
        refine lv_aload_n hx hb dX0_copy_96 rfl (lv_at hl 0 rfl) ?_
        refine va_get (D := (dC, dI)) (ci := 4) (v := .ref a_t_texts) (C := RX0) (T := TX0) (N := 11) hx hb hta inX0w hown hK hP 0 rfl rfl 7 (by decide) (hta _ lk_X0_34) (fun _ h9 => h9) rfl dX0_copy_97 ?_
        refine lv_iload_n hx hb dX0_copy_100 rfl (lv_at hl 2 rfl) ?_
        refine lv_aload_n hx hb dX0_copy_101 rfl (lv_at hl 1 rfl) ?_
        refine va_get (D := (dC, dI)) (ci := 4) (v := .ref a_p1_texts) (C := RX0) (T := TX0) (N := 11) hx hb hta inX0w hown hK (rk hR0 hNA hS) 0 rfl rfl 7 (by decide) (hta _ lk_X0_34) (fun _ h9 => h9) rfl dX0_copy_102 ?_
        refine lv_iload_n hx hb dX0_copy_105 rfl (lv_at hl 2 rfl) ?_
        obtain ⟨hc, h⟩ := gc_some h
        refine va_aldq hx hb hK (rk hR0 hNA hS) 9 7 rfl rfl (inb_in hc) dX0_copy_106 ?_
        obtain ⟨hc, h⟩ := gc_some h
        obtain ⟨hc2, h⟩ := gc_some h
        refine va_astR hx hb hK hP hD hS 7 7 (E := "CauldronTypes$Spell") rfl rfl (fun v9 e9 => any_of hK (rk (hSP v9 (oin9_in hc2 v9 e9)) (hSN v9 (oin9_in hc2 v9 e9)) hS) (q0 := 0) (ci := 11) (r := (RX8, TX8, 9)) rfl rfl) (inb_in hc) dX0_copy_107 (fun H locs hP hD hS => ?_)
        have hP : va_P (dC, dI) vwCl [(a_t, .inr (4, [.int p1_cauldrons, .ref a_t_isBroth, .ref a_t_low, .ref a_t_high, .ref a_t_contents, .ref a_t_storesIn, .int p1_spells, .ref a_t_texts, .ref a_t_cooked, .int t_cookedSoFar, .int t_storesSoFar])), (a_t_contents_many, .inl (cT 0, 6, .inl t_contents_many_91)), (a_t_contents_much, .inl (cT 4, 6, .inr (.inr (.inl t_contents_much_91)))), (a_t_isBroth, .inl (cT 1, 6, .inl t_isBroth_91)), (a_t_low, .inl (cT 0, 6, .inl t_low_91)), (a_t_high, .inl (cT 0, 6, .inl t_high_91)), (a_t_storesIn, .inl (cT 0, 6, .inl t_storesIn_91)), (a_t_texts, .inl (cT 7, 4, .inr (.inr (.inr (.inr (va_up t_texts_91 x2_91.toNatClampNeg (p1_texts x2_91.toNatClampNeg))))))), (a_t_cooked, .inl (cT 0, 4, .inl t_cooked_91))] H := hP
        have hD : va_D A [(a_t, .inr (4, [.int p1_cauldrons, .ref a_t_isBroth, .ref a_t_low, .ref a_t_high, .ref a_t_contents, .ref a_t_storesIn, .int p1_spells, .ref a_t_texts, .ref a_t_cooked, .int t_cookedSoFar, .int t_storesSoFar])), (a_t_contents_many, .inl (cT 0, 6, .inl t_contents_many_91)), (a_t_contents_much, .inl (cT 4, 6, .inr (.inr (.inl t_contents_much_91)))), (a_t_isBroth, .inl (cT 1, 6, .inl t_isBroth_91)), (a_t_low, .inl (cT 0, 6, .inl t_low_91)), (a_t_high, .inl (cT 0, 6, .inl t_high_91)), (a_t_storesIn, .inl (cT 0, 6, .inl t_storesIn_91)), (a_t_texts, .inl (cT 7, 4, .inr (.inr (.inr (.inr (va_up t_texts_91 x2_91.toNatClampNeg (p1_texts x2_91.toNatClampNeg))))))), (a_t_cooked, .inl (cT 0, 4, .inl t_cooked_91))] := hD
        refine lv_aload_n hx hb dX0_copy_108 rfl (lv_at hl 0 rfl) ?_
        refine va_get (D := (dC, dI)) (ci := 4) (v := .ref a_t_cooked) (C := RX0) (T := TX0) (N := 11) hx hb hta inX0w hown hK hP 0 rfl rfl 8 (by decide) (hta _ lk_X0_38) (fun _ h9 => h9) rfl dX0_copy_109 ?_
        refine lv_iload_n hx hb dX0_copy_112 rfl (lv_at hl 2 rfl) ?_
        refine lv_aload_n hx hb dX0_copy_113 rfl (lv_at hl 1 rfl) ?_
        refine va_get (D := (dC, dI)) (ci := 4) (v := .ref a_p1_cooked) (C := RX0) (T := TX0) (N := 11) hx hb hta inX0w hown hK (rk hR0 hNA hS) 0 rfl rfl 8 (by decide) (hta _ lk_X0_38) (fun _ h9 => h9) rfl dX0_copy_114 ?_
        refine lv_iload_n hx hb dX0_copy_117 rfl (lv_at hl 2 rfl) ?_
        obtain ⟨hc, h⟩ := gc_some h
        refine va_iald hx hb hK (rk hR0 hNA hS) 10 0 rfl rfl (inb_in hc) dX0_copy_118 ?_
        obtain ⟨hc, h⟩ := gc_some h
        refine va_iast hx hb hK hP hD hS 8 0 rfl rfl (inb_in hc) dX0_copy_119 (fun H locs hP hD hS => ?_)
        have hP : va_P (dC, dI) vwCl [(a_t, .inr (4, [.int p1_cauldrons, .ref a_t_isBroth, .ref a_t_low, .ref a_t_high, .ref a_t_contents, .ref a_t_storesIn, .int p1_spells, .ref a_t_texts, .ref a_t_cooked, .int t_cookedSoFar, .int t_storesSoFar])), (a_t_contents_many, .inl (cT 0, 6, .inl t_contents_many_91)), (a_t_contents_much, .inl (cT 4, 6, .inr (.inr (.inl t_contents_much_91)))), (a_t_isBroth, .inl (cT 1, 6, .inl t_isBroth_91)), (a_t_low, .inl (cT 0, 6, .inl t_low_91)), (a_t_high, .inl (cT 0, 6, .inl t_high_91)), (a_t_storesIn, .inl (cT 0, 6, .inl t_storesIn_91)), (a_t_texts, .inl (cT 7, 4, .inr (.inr (.inr (.inr (va_up t_texts_91 x2_91.toNatClampNeg (p1_texts x2_91.toNatClampNeg))))))), (a_t_cooked, .inl (cT 0, 4, .inl (upd t_cooked_91 x2_91.toNatClampNeg (p1_cooked x2_91.toNatClampNeg))))] H := hP
        have hD : va_D A [(a_t, .inr (4, [.int p1_cauldrons, .ref a_t_isBroth, .ref a_t_low, .ref a_t_high, .ref a_t_contents, .ref a_t_storesIn, .int p1_spells, .ref a_t_texts, .ref a_t_cooked, .int t_cookedSoFar, .int t_storesSoFar])), (a_t_contents_many, .inl (cT 0, 6, .inl t_contents_many_91)), (a_t_contents_much, .inl (cT 4, 6, .inr (.inr (.inl t_contents_much_91)))), (a_t_isBroth, .inl (cT 1, 6, .inl t_isBroth_91)), (a_t_low, .inl (cT 0, 6, .inl t_low_91)), (a_t_high, .inl (cT 0, 6, .inl t_high_91)), (a_t_storesIn, .inl (cT 0, 6, .inl t_storesIn_91)), (a_t_texts, .inl (cT 7, 4, .inr (.inr (.inr (.inr (va_up t_texts_91 x2_91.toNatClampNeg (p1_texts x2_91.toNatClampNeg))))))), (a_t_cooked, .inl (cT 0, 4, .inl (upd t_cooked_91 x2_91.toNatClampNeg (p1_cooked x2_91.toNatClampNeg))))] := hD
        obtain ⟨v1, e_v1⟩ : ∃ y : Int32, y = x2_91 + 1 := ⟨_, rfl⟩
        have h := gl_use e_v1 h
        refine lv_iinc (v := v1) (lv' := [(2, .int v1), (0, .ref a_t), (1, .ref a_p1)]) hx hb dX0_copy_120 hl (k := 2) rfl (by rw [e_v1]; rfl) (by decide) rfl (fun ls hl => ?_)
        refine lv_goto (tgt := 91) hx hb dX0_copy_123 (by decide) ?_
        exact ih_91 t_contents_many_91 t_contents_much_91 (upd t_cooked_91 x2_91.toNatClampNeg (p1_cooked x2_91.toNatClampNeg)) t_high_91 t_isBroth_91 t_low_91 t_storesIn_91 (va_up t_texts_91 x2_91.toNatClampNeg (p1_texts x2_91.toNatClampNeg)) v1 _ _ _ h hP hD hS (lv_sub hl [1, 2, 0] rfl)
  have wB_10 : ∀ (n_10 : Nat), ∀ (t_high_10 : Nat → Int32) (t_isBroth_10 : Nat → Int32) (t_low_10 : Nat → Int32) (t_storesIn_10 : Nat → Int32) (x2_10 : Int32) (H : Heap) (locs : List Loc) (ls : Array Slot), g_X0_copy_b10 LS p1_cauldrons p1_spells p1_cookedSoFar p1_storesSoFar t_contents_many p1_contents_many t_contents_much p1_contents_much p1_isBroth p1_low p1_high p1_storesIn t_texts p1_texts t_cooked p1_cooked n_10 t_high_10 t_isBroth_10 t_low_10 t_storesIn_10 x2_10 = some o → va_P (dC, dI) vwCl [(a_t, .inr (4, [.int p1_cauldrons, .ref a_t_isBroth, .ref a_t_low, .ref a_t_high, .ref a_t_contents, .ref a_t_storesIn, .int t_spells, .ref a_t_texts, .ref a_t_cooked, .int t_cookedSoFar, .int t_storesSoFar])), (a_t_contents_many, .inl (cT 0, 6, .inl t_contents_many)), (a_t_contents_much, .inl (cT 4, 6, .inr (.inr (.inl t_contents_much)))), (a_t_isBroth, .inl (cT 1, 6, .inl t_isBroth_10)), (a_t_low, .inl (cT 0, 6, .inl t_low_10)), (a_t_high, .inl (cT 0, 6, .inl t_high_10)), (a_t_storesIn, .inl (cT 0, 6, .inl t_storesIn_10)), (a_t_texts, .inl (cT 7, 4, .inr (.inr (.inr (.inr t_texts))))), (a_t_cooked, .inl (cT 0, 4, .inl t_cooked))] H → va_D A [(a_t, .inr (4, [.int p1_cauldrons, .ref a_t_isBroth, .ref a_t_low, .ref a_t_high, .ref a_t_contents, .ref a_t_storesIn, .int t_spells, .ref a_t_texts, .ref a_t_cooked, .int t_cookedSoFar, .int t_storesSoFar])), (a_t_contents_many, .inl (cT 0, 6, .inl t_contents_many)), (a_t_contents_much, .inl (cT 4, 6, .inr (.inr (.inl t_contents_much)))), (a_t_isBroth, .inl (cT 1, 6, .inl t_isBroth_10)), (a_t_low, .inl (cT 0, 6, .inl t_low_10)), (a_t_high, .inl (cT 0, 6, .inl t_high_10)), (a_t_storesIn, .inl (cT 0, 6, .inl t_storesIn_10)), (a_t_texts, .inl (cT 7, 4, .inr (.inr (.inr (.inr t_texts))))), (a_t_cooked, .inl (cT 0, 4, .inl t_cooked))] → va_S A s.heap H locs → lv_has ls 3 [(0, .ref a_t), (1, .ref a_p1), (2, .int x2_10)] → W p l e ({ frames := 1, cells := 0, slots := 0, locals := 22 } : Room) s m [.ref a_t, .ref a_p1].toArray below meth c H locs 0 0 Q (F0 m 10 ls []) := by
    intro n_10
    induction n_10 with
    | zero =>
      intro t_high_10 t_isBroth_10 t_low_10 t_storesIn_10 x2_10 H locs ls h hP hD hS hl
      simp [g_X0_copy_b10] at h
    | succ n_10 ih_10 =>
      intro t_high_10 t_isBroth_10 t_low_10 t_storesIn_10 x2_10 H locs ls h hP hD hS hl
      rw [g_X0_copy_b10] at h
      refine lv_iload_n hx hb dX0_copy_10 rfl (lv_at hl 2 rfl) ?_
      refine lv_bipush (v := 6) hx hb dX0_copy_11 (by decide) ?_
      refine lv_icmp_ge (tgt := 70) hx hb dX0_copy_13 (by decide) (fun c0 => ?_) (fun c0 => ?_)
      · have h := (if_pos c0).symm.trans h
        refine lv_aload_n hx hb dX0_copy_70 rfl (lv_at hl 0 rfl) ?_
        refine va_get (D := (dC, dI)) (ci := 4) (v := .ref a_t_contents) (C := RX0) (T := TX0) (N := 11) hx hb hta inX0w hown hK hP 0 rfl rfl 4 (by decide) (hta _ lk_X0_25) (fun _ h9 => h9) rfl dX0_copy_71 ?_
        refine lv_aload_n hx hb dX0_copy_74 rfl (lv_at hl 1 rfl) ?_
        refine va_get (D := (dC, dI)) (ci := 4) (v := .ref a_p1_contents) (C := RX0) (T := TX0) (N := 11) hx hb hta inX0w hown hK (rk hR0 hNA hS) 0 rfl rfl 4 (by decide) (hta _ lk_X0_25) (fun _ h9 => h9) rfl dX0_copy_75 ?_
        obtain ⟨r2, hq, h⟩ := gb_some h
        refine cxV (X2 := [(a_t, .inr (4, [.int p1_cauldrons, .ref a_t_isBroth, .ref a_t_low, .ref a_t_high, .ref a_t_contents, .ref a_t_storesIn, .int t_spells, .ref a_t_texts, .ref a_t_cooked, .int t_cookedSoFar, .int t_storesSoFar])), (a_t_contents_many, .inl (cT 0, 6, .inl r2.1)), (a_t_contents_much, .inl (cT 4, 6, .inr (.inr (.inl r2.2)))), (a_t_isBroth, .inl (cT 1, 6, .inl t_isBroth_10)), (a_t_low, .inl (cT 0, 6, .inl t_low_10)), (a_t_high, .inl (cT 0, 6, .inl t_high_10)), (a_t_storesIn, .inl (cT 0, 6, .inl t_storesIn_10)), (a_t_texts, .inl (cT 7, 4, .inr (.inr (.inr (.inr t_texts))))), (a_t_cooked, .inl (cT 0, 4, .inl t_cooked))]) (va_runV (As := [.ref a_p1_contents]) (rest := []) ⟨hx, hb, hml, hown, hta⟩ (c_X1_copy l dC dI cT hq (hP.sub (ws' := [(a_t_contents_many, .inl (cT 0, 6, .inl t_contents_many)), (a_t_contents_much, .inl (cT 4, 6, .inr (.inr (.inl t_contents_much))))]) [1, 2] rfl) ((va_P.app hP (rk hR0 hNA hS)).sub (ws' := [(a_t_contents, .inr (5, [.ref a_t_contents_many, .ref a_t_contents_much])), (a_p1_contents, .inr (5, [.ref a_p1_contents_many, .ref a_p1_contents_much])), (a_p1_contents_many, .inl (cT 0, 6, .inl p1_contents_many)), (a_p1_contents_much, .inl (cT 4, 6, .inr (.inr (.inl p1_contents_much))))]) [10, 11, 12, 13] rfl) (ds hD [1, 2] (by decide) rfl) (nac hP hD [1, 2] rfl (va_free hD hS hA [1, 2] rfl) hNA [.inl 1, .inl 2, .inl 3, .inl 4] rfl rfl)) (cV hta lm_X0_45 md_X1_copy ⟨(Nat.le_of_ble_eq_true rfl), (Nat.le_of_ble_eq_true rfl)⟩) ⟨fbK, va_recv hK (rk hR0 hNA hS) (ci := 5) (q0 := 1) rfl rfl, fun U hU hW => ⟨rfl, hU, va_K.moved hW.alike hK⟩⟩ rfl rfl hl.1 rfl (lv_room (Nat.le_of_ble_eq_true rfl)) dX0_copy_78 ⟨(Nat.le_of_ble_eq_true rfl), (Nat.le_of_ble_eq_true rfl)⟩) hS hA hP hD [1, 2] rfl [.inr 0, .inl 0, .inl 1, .inr 3, .inr 4, .inr 5, .inr 6, .inr 7, .inr 8] rfl rfl rfl (fun H locs hP hD hS => ?_)
        refine lv_aload_n hx hb dX0_copy_81 rfl (lv_at hl 0 rfl) ?_
        refine lv_aload_n hx hb dX0_copy_82 rfl (lv_at hl 1 rfl) ?_
        refine va_get (D := (dC, dI)) (ci := 4) (v := .int p1_spells) (C := RX0) (T := TX0) (N := 11) hx hb hta inX0w hown hK (rk hR0 hNA hS) 0 rfl rfl 6 (by decide) (hta _ lk_X0_49) (fun _ h9 => h9) rfl dX0_copy_83 ?_
        refine va_put (D := (dC, dI)) (ci := 4) (v := .int p1_spells) (ty := .int) (C := RX0) (T := TX0) (N := 11) hx hb hta inX0w tyX0 tyX0_ok nmX0 hown hK hP hD hS 0 rfl rfl 6 (by decide) (hta _ lk_X0_49) (fun _ h9 => h9) rfl (by decide +kernel) rfl rfl (Nat.le_of_ble_eq_true rfl) dX0_copy_86 (fun H locs hP hD hS => ?_)
        have hP : va_P (dC, dI) vwCl [(a_t, .inr (4, [.int p1_cauldrons, .ref a_t_isBroth, .ref a_t_low, .ref a_t_high, .ref a_t_contents, .ref a_t_storesIn, .int p1_spells, .ref a_t_texts, .ref a_t_cooked, .int t_cookedSoFar, .int t_storesSoFar])), (a_t_contents_many, .inl (cT 0, 6, .inl r2.1)), (a_t_contents_much, .inl (cT 4, 6, .inr (.inr (.inl r2.2)))), (a_t_isBroth, .inl (cT 1, 6, .inl t_isBroth_10)), (a_t_low, .inl (cT 0, 6, .inl t_low_10)), (a_t_high, .inl (cT 0, 6, .inl t_high_10)), (a_t_storesIn, .inl (cT 0, 6, .inl t_storesIn_10)), (a_t_texts, .inl (cT 7, 4, .inr (.inr (.inr (.inr t_texts))))), (a_t_cooked, .inl (cT 0, 4, .inl t_cooked))] H := hP
        have hD : va_D A [(a_t, .inr (4, [.int p1_cauldrons, .ref a_t_isBroth, .ref a_t_low, .ref a_t_high, .ref a_t_contents, .ref a_t_storesIn, .int p1_spells, .ref a_t_texts, .ref a_t_cooked, .int t_cookedSoFar, .int t_storesSoFar])), (a_t_contents_many, .inl (cT 0, 6, .inl r2.1)), (a_t_contents_much, .inl (cT 4, 6, .inr (.inr (.inl r2.2)))), (a_t_isBroth, .inl (cT 1, 6, .inl t_isBroth_10)), (a_t_low, .inl (cT 0, 6, .inl t_low_10)), (a_t_high, .inl (cT 0, 6, .inl t_high_10)), (a_t_storesIn, .inl (cT 0, 6, .inl t_storesIn_10)), (a_t_texts, .inl (cT 7, 4, .inr (.inr (.inr (.inr t_texts))))), (a_t_cooked, .inl (cT 0, 4, .inl t_cooked))] := hD
        refine lv_iconst (v := 0) hx hb dX0_copy_89 (by decide) ?_
        refine lv_istore_n (lv' := [(2, .int 0), (0, .ref a_t), (1, .ref a_p1)]) hx hb dX0_copy_90 rfl hl (by decide) rfl (fun ls hl => ?_)
        exact wB_91 100 r2.1 r2.2 t_cooked t_high_10 t_isBroth_10 t_low_10 t_storesIn_10 t_texts 0 _ _ _ h hP hD hS (lv_sub hl [1, 2, 0] rfl)
      · have h := (if_neg c0).symm.trans h
        refine lv_aload_n hx hb dX0_copy_16 rfl (lv_at hl 0 rfl) ?_
        refine va_get (D := (dC, dI)) (ci := 4) (v := .ref a_t_isBroth) (C := RX0) (T := TX0) (N := 11) hx hb hta inX0w hown hK hP 0 rfl rfl 1 (by decide) (hta _ lk_X0_9) (fun _ h9 => h9) rfl dX0_copy_17 ?_
        refine lv_iload_n hx hb dX0_copy_20 rfl (lv_at hl 2 rfl) ?_
        refine lv_aload_n hx hb dX0_copy_21 rfl (lv_at hl 1 rfl) ?_
        refine va_get (D := (dC, dI)) (ci := 4) (v := .ref a_p1_isBroth) (C := RX0) (T := TX0) (N := 11) hx hb hta inX0w hown hK (rk hR0 hNA hS) 0 rfl rfl 1 (by decide) (hta _ lk_X0_9) (fun _ h9 => h9) rfl dX0_copy_22 ?_
        refine lv_iload_n hx hb dX0_copy_25 rfl (lv_at hl 2 rfl) ?_
        obtain ⟨hc, h⟩ := gc_some h
        refine va_zald hx hb hK (rk hR0 hNA hS) 5 1 rfl rfl (inb_in hc) dX0_copy_26 ?_
        obtain ⟨hc, h⟩ := gc_some h
        refine va_zast hx hb hK hP hD hS 3 1 rfl rfl (inb_in hc) dX0_copy_27 (fun H locs hP hD hS => ?_)
        have hP : va_P (dC, dI) vwCl [(a_t, .inr (4, [.int p1_cauldrons, .ref a_t_isBroth, .ref a_t_low, .ref a_t_high, .ref a_t_contents, .ref a_t_storesIn, .int t_spells, .ref a_t_texts, .ref a_t_cooked, .int t_cookedSoFar, .int t_storesSoFar])), (a_t_contents_many, .inl (cT 0, 6, .inl t_contents_many)), (a_t_contents_much, .inl (cT 4, 6, .inr (.inr (.inl t_contents_much)))), (a_t_isBroth, .inl (cT 1, 6, .inl (upd t_isBroth_10 x2_10.toNatClampNeg (vp_nar .boolean (p1_isBroth x2_10.toNatClampNeg))))), (a_t_low, .inl (cT 0, 6, .inl t_low_10)), (a_t_high, .inl (cT 0, 6, .inl t_high_10)), (a_t_storesIn, .inl (cT 0, 6, .inl t_storesIn_10)), (a_t_texts, .inl (cT 7, 4, .inr (.inr (.inr (.inr t_texts))))), (a_t_cooked, .inl (cT 0, 4, .inl t_cooked))] H := hP
        have hD : va_D A [(a_t, .inr (4, [.int p1_cauldrons, .ref a_t_isBroth, .ref a_t_low, .ref a_t_high, .ref a_t_contents, .ref a_t_storesIn, .int t_spells, .ref a_t_texts, .ref a_t_cooked, .int t_cookedSoFar, .int t_storesSoFar])), (a_t_contents_many, .inl (cT 0, 6, .inl t_contents_many)), (a_t_contents_much, .inl (cT 4, 6, .inr (.inr (.inl t_contents_much)))), (a_t_isBroth, .inl (cT 1, 6, .inl (upd t_isBroth_10 x2_10.toNatClampNeg (vp_nar .boolean (p1_isBroth x2_10.toNatClampNeg))))), (a_t_low, .inl (cT 0, 6, .inl t_low_10)), (a_t_high, .inl (cT 0, 6, .inl t_high_10)), (a_t_storesIn, .inl (cT 0, 6, .inl t_storesIn_10)), (a_t_texts, .inl (cT 7, 4, .inr (.inr (.inr (.inr t_texts))))), (a_t_cooked, .inl (cT 0, 4, .inl t_cooked))] := hD
        refine lv_aload_n hx hb dX0_copy_28 rfl (lv_at hl 0 rfl) ?_
        refine va_get (D := (dC, dI)) (ci := 4) (v := .ref a_t_low) (C := RX0) (T := TX0) (N := 11) hx hb hta inX0w hown hK hP 0 rfl rfl 2 (by decide) (hta _ lk_X0_15) (fun _ h9 => h9) rfl dX0_copy_29 ?_
        refine lv_iload_n hx hb dX0_copy_32 rfl (lv_at hl 2 rfl) ?_
        refine lv_aload_n hx hb dX0_copy_33 rfl (lv_at hl 1 rfl) ?_
        refine va_get (D := (dC, dI)) (ci := 4) (v := .ref a_p1_low) (C := RX0) (T := TX0) (N := 11) hx hb hta inX0w hown hK (rk hR0 hNA hS) 0 rfl rfl 2 (by decide) (hta _ lk_X0_15) (fun _ h9 => h9) rfl dX0_copy_34 ?_
        refine lv_iload_n hx hb dX0_copy_37 rfl (lv_at hl 2 rfl) ?_
        obtain ⟨hc, h⟩ := gc_some h
        refine va_iald hx hb hK (rk hR0 hNA hS) 6 0 rfl rfl (inb_in hc) dX0_copy_38 ?_
        obtain ⟨hc, h⟩ := gc_some h
        refine va_iast hx hb hK hP hD hS 4 0 rfl rfl (inb_in hc) dX0_copy_39 (fun H locs hP hD hS => ?_)
        have hP : va_P (dC, dI) vwCl [(a_t, .inr (4, [.int p1_cauldrons, .ref a_t_isBroth, .ref a_t_low, .ref a_t_high, .ref a_t_contents, .ref a_t_storesIn, .int t_spells, .ref a_t_texts, .ref a_t_cooked, .int t_cookedSoFar, .int t_storesSoFar])), (a_t_contents_many, .inl (cT 0, 6, .inl t_contents_many)), (a_t_contents_much, .inl (cT 4, 6, .inr (.inr (.inl t_contents_much)))), (a_t_isBroth, .inl (cT 1, 6, .inl (upd t_isBroth_10 x2_10.toNatClampNeg (vp_nar .boolean (p1_isBroth x2_10.toNatClampNeg))))), (a_t_low, .inl (cT 0, 6, .inl (upd t_low_10 x2_10.toNatClampNeg (p1_low x2_10.toNatClampNeg)))), (a_t_high, .inl (cT 0, 6, .inl t_high_10)), (a_t_storesIn, .inl (cT 0, 6, .inl t_storesIn_10)), (a_t_texts, .inl (cT 7, 4, .inr (.inr (.inr (.inr t_texts))))), (a_t_cooked, .inl (cT 0, 4, .inl t_cooked))] H := hP
        have hD : va_D A [(a_t, .inr (4, [.int p1_cauldrons, .ref a_t_isBroth, .ref a_t_low, .ref a_t_high, .ref a_t_contents, .ref a_t_storesIn, .int t_spells, .ref a_t_texts, .ref a_t_cooked, .int t_cookedSoFar, .int t_storesSoFar])), (a_t_contents_many, .inl (cT 0, 6, .inl t_contents_many)), (a_t_contents_much, .inl (cT 4, 6, .inr (.inr (.inl t_contents_much)))), (a_t_isBroth, .inl (cT 1, 6, .inl (upd t_isBroth_10 x2_10.toNatClampNeg (vp_nar .boolean (p1_isBroth x2_10.toNatClampNeg))))), (a_t_low, .inl (cT 0, 6, .inl (upd t_low_10 x2_10.toNatClampNeg (p1_low x2_10.toNatClampNeg)))), (a_t_high, .inl (cT 0, 6, .inl t_high_10)), (a_t_storesIn, .inl (cT 0, 6, .inl t_storesIn_10)), (a_t_texts, .inl (cT 7, 4, .inr (.inr (.inr (.inr t_texts))))), (a_t_cooked, .inl (cT 0, 4, .inl t_cooked))] := hD
        refine lv_aload_n hx hb dX0_copy_40 rfl (lv_at hl 0 rfl) ?_
        refine va_get (D := (dC, dI)) (ci := 4) (v := .ref a_t_high) (C := RX0) (T := TX0) (N := 11) hx hb hta inX0w hown hK hP 0 rfl rfl 3 (by decide) (hta _ lk_X0_19) (fun _ h9 => h9) rfl dX0_copy_41 ?_
        refine lv_iload_n hx hb dX0_copy_44 rfl (lv_at hl 2 rfl) ?_
        refine lv_aload_n hx hb dX0_copy_45 rfl (lv_at hl 1 rfl) ?_
        refine va_get (D := (dC, dI)) (ci := 4) (v := .ref a_p1_high) (C := RX0) (T := TX0) (N := 11) hx hb hta inX0w hown hK (rk hR0 hNA hS) 0 rfl rfl 3 (by decide) (hta _ lk_X0_19) (fun _ h9 => h9) rfl dX0_copy_46 ?_
        refine lv_iload_n hx hb dX0_copy_49 rfl (lv_at hl 2 rfl) ?_
        obtain ⟨hc, h⟩ := gc_some h
        refine va_iald hx hb hK (rk hR0 hNA hS) 7 0 rfl rfl (inb_in hc) dX0_copy_50 ?_
        obtain ⟨hc, h⟩ := gc_some h
        refine va_iast hx hb hK hP hD hS 5 0 rfl rfl (inb_in hc) dX0_copy_51 (fun H locs hP hD hS => ?_)
        have hP : va_P (dC, dI) vwCl [(a_t, .inr (4, [.int p1_cauldrons, .ref a_t_isBroth, .ref a_t_low, .ref a_t_high, .ref a_t_contents, .ref a_t_storesIn, .int t_spells, .ref a_t_texts, .ref a_t_cooked, .int t_cookedSoFar, .int t_storesSoFar])), (a_t_contents_many, .inl (cT 0, 6, .inl t_contents_many)), (a_t_contents_much, .inl (cT 4, 6, .inr (.inr (.inl t_contents_much)))), (a_t_isBroth, .inl (cT 1, 6, .inl (upd t_isBroth_10 x2_10.toNatClampNeg (vp_nar .boolean (p1_isBroth x2_10.toNatClampNeg))))), (a_t_low, .inl (cT 0, 6, .inl (upd t_low_10 x2_10.toNatClampNeg (p1_low x2_10.toNatClampNeg)))), (a_t_high, .inl (cT 0, 6, .inl (upd t_high_10 x2_10.toNatClampNeg (p1_high x2_10.toNatClampNeg)))), (a_t_storesIn, .inl (cT 0, 6, .inl t_storesIn_10)), (a_t_texts, .inl (cT 7, 4, .inr (.inr (.inr (.inr t_texts))))), (a_t_cooked, .inl (cT 0, 4, .inl t_cooked))] H := hP
        have hD : va_D A [(a_t, .inr (4, [.int p1_cauldrons, .ref a_t_isBroth, .ref a_t_low, .ref a_t_high, .ref a_t_contents, .ref a_t_storesIn, .int t_spells, .ref a_t_texts, .ref a_t_cooked, .int t_cookedSoFar, .int t_storesSoFar])), (a_t_contents_many, .inl (cT 0, 6, .inl t_contents_many)), (a_t_contents_much, .inl (cT 4, 6, .inr (.inr (.inl t_contents_much)))), (a_t_isBroth, .inl (cT 1, 6, .inl (upd t_isBroth_10 x2_10.toNatClampNeg (vp_nar .boolean (p1_isBroth x2_10.toNatClampNeg))))), (a_t_low, .inl (cT 0, 6, .inl (upd t_low_10 x2_10.toNatClampNeg (p1_low x2_10.toNatClampNeg)))), (a_t_high, .inl (cT 0, 6, .inl (upd t_high_10 x2_10.toNatClampNeg (p1_high x2_10.toNatClampNeg)))), (a_t_storesIn, .inl (cT 0, 6, .inl t_storesIn_10)), (a_t_texts, .inl (cT 7, 4, .inr (.inr (.inr (.inr t_texts))))), (a_t_cooked, .inl (cT 0, 4, .inl t_cooked))] := hD
        refine lv_aload_n hx hb dX0_copy_52 rfl (lv_at hl 0 rfl) ?_
        refine va_get (D := (dC, dI)) (ci := 4) (v := .ref a_t_storesIn) (C := RX0) (T := TX0) (N := 11) hx hb hta inX0w hown hK hP 0 rfl rfl 5 (by decide) (hta _ lk_X0_29) (fun _ h9 => h9) rfl dX0_copy_53 ?_
        refine lv_iload_n hx hb dX0_copy_56 rfl (lv_at hl 2 rfl) ?_
        refine lv_aload_n hx hb dX0_copy_57 rfl (lv_at hl 1 rfl) ?_
        refine va_get (D := (dC, dI)) (ci := 4) (v := .ref a_p1_storesIn) (C := RX0) (T := TX0) (N := 11) hx hb hta inX0w hown hK (rk hR0 hNA hS) 0 rfl rfl 5 (by decide) (hta _ lk_X0_29) (fun _ h9 => h9) rfl dX0_copy_58 ?_
        refine lv_iload_n hx hb dX0_copy_61 rfl (lv_at hl 2 rfl) ?_
        obtain ⟨hc, h⟩ := gc_some h
        refine va_iald hx hb hK (rk hR0 hNA hS) 8 0 rfl rfl (inb_in hc) dX0_copy_62 ?_
        obtain ⟨hc, h⟩ := gc_some h
        refine va_iast hx hb hK hP hD hS 6 0 rfl rfl (inb_in hc) dX0_copy_63 (fun H locs hP hD hS => ?_)
        have hP : va_P (dC, dI) vwCl [(a_t, .inr (4, [.int p1_cauldrons, .ref a_t_isBroth, .ref a_t_low, .ref a_t_high, .ref a_t_contents, .ref a_t_storesIn, .int t_spells, .ref a_t_texts, .ref a_t_cooked, .int t_cookedSoFar, .int t_storesSoFar])), (a_t_contents_many, .inl (cT 0, 6, .inl t_contents_many)), (a_t_contents_much, .inl (cT 4, 6, .inr (.inr (.inl t_contents_much)))), (a_t_isBroth, .inl (cT 1, 6, .inl (upd t_isBroth_10 x2_10.toNatClampNeg (vp_nar .boolean (p1_isBroth x2_10.toNatClampNeg))))), (a_t_low, .inl (cT 0, 6, .inl (upd t_low_10 x2_10.toNatClampNeg (p1_low x2_10.toNatClampNeg)))), (a_t_high, .inl (cT 0, 6, .inl (upd t_high_10 x2_10.toNatClampNeg (p1_high x2_10.toNatClampNeg)))), (a_t_storesIn, .inl (cT 0, 6, .inl (upd t_storesIn_10 x2_10.toNatClampNeg (p1_storesIn x2_10.toNatClampNeg)))), (a_t_texts, .inl (cT 7, 4, .inr (.inr (.inr (.inr t_texts))))), (a_t_cooked, .inl (cT 0, 4, .inl t_cooked))] H := hP
        have hD : va_D A [(a_t, .inr (4, [.int p1_cauldrons, .ref a_t_isBroth, .ref a_t_low, .ref a_t_high, .ref a_t_contents, .ref a_t_storesIn, .int t_spells, .ref a_t_texts, .ref a_t_cooked, .int t_cookedSoFar, .int t_storesSoFar])), (a_t_contents_many, .inl (cT 0, 6, .inl t_contents_many)), (a_t_contents_much, .inl (cT 4, 6, .inr (.inr (.inl t_contents_much)))), (a_t_isBroth, .inl (cT 1, 6, .inl (upd t_isBroth_10 x2_10.toNatClampNeg (vp_nar .boolean (p1_isBroth x2_10.toNatClampNeg))))), (a_t_low, .inl (cT 0, 6, .inl (upd t_low_10 x2_10.toNatClampNeg (p1_low x2_10.toNatClampNeg)))), (a_t_high, .inl (cT 0, 6, .inl (upd t_high_10 x2_10.toNatClampNeg (p1_high x2_10.toNatClampNeg)))), (a_t_storesIn, .inl (cT 0, 6, .inl (upd t_storesIn_10 x2_10.toNatClampNeg (p1_storesIn x2_10.toNatClampNeg)))), (a_t_texts, .inl (cT 7, 4, .inr (.inr (.inr (.inr t_texts))))), (a_t_cooked, .inl (cT 0, 4, .inl t_cooked))] := hD
        obtain ⟨v3, e_v3⟩ : ∃ y : Int32, y = x2_10 + 1 := ⟨_, rfl⟩
        have h := gl_use e_v3 h
        refine lv_iinc (v := v3) (lv' := [(2, .int v3), (0, .ref a_t), (1, .ref a_p1)]) hx hb dX0_copy_64 hl (k := 2) rfl (by rw [e_v3]; rfl) (by decide) rfl (fun ls hl => ?_)
        refine lv_goto (tgt := 10) hx hb dX0_copy_67 (by decide) ?_
        exact ih_10 (upd t_high_10 x2_10.toNatClampNeg (p1_high x2_10.toNatClampNeg)) (upd t_isBroth_10 x2_10.toNatClampNeg (vp_nar .boolean (p1_isBroth x2_10.toNatClampNeg))) (upd t_low_10 x2_10.toNatClampNeg (p1_low x2_10.toNatClampNeg)) (upd t_storesIn_10 x2_10.toNatClampNeg (p1_storesIn x2_10.toNatClampNeg)) v3 _ _ _ h hP hD hS (lv_sub hl [1, 2, 0] rfl)
  unfold g_X0_copy at h
  refine lv_aload_n hx hb dX0_copy_0 rfl (lv_at hl 0 rfl) ?_
  refine lv_aload_n hx hb dX0_copy_1 rfl (lv_at hl 1 rfl) ?_
  refine va_get (D := (dC, dI)) (ci := 4) (v := .int p1_cauldrons) (C := RX0) (T := TX0) (N := 11) hx hb hta inX0w hown hK (rk hR0 hNA hS) 0 rfl rfl 0 (by decide) (hta _ lk_X0_41) (fun _ h9 => h9) rfl dX0_copy_2 ?_
  refine va_put (D := (dC, dI)) (ci := 4) (v := .int p1_cauldrons) (ty := .int) (C := RX0) (T := TX0) (N := 11) hx hb hta inX0w tyX0 tyX0_ok nmX0 hown hK hP hD hS 0 rfl rfl 0 (by decide) (hta _ lk_X0_41) (fun _ h9 => h9) rfl (by decide +kernel) rfl rfl (Nat.le_of_ble_eq_true rfl) dX0_copy_5 (fun H locs hP hD hS => ?_)
  have hP : va_P (dC, dI) vwCl [(a_t, .inr (4, [.int p1_cauldrons, .ref a_t_isBroth, .ref a_t_low, .ref a_t_high, .ref a_t_contents, .ref a_t_storesIn, .int t_spells, .ref a_t_texts, .ref a_t_cooked, .int t_cookedSoFar, .int t_storesSoFar])), (a_t_contents_many, .inl (cT 0, 6, .inl t_contents_many)), (a_t_contents_much, .inl (cT 4, 6, .inr (.inr (.inl t_contents_much)))), (a_t_isBroth, .inl (cT 1, 6, .inl t_isBroth)), (a_t_low, .inl (cT 0, 6, .inl t_low)), (a_t_high, .inl (cT 0, 6, .inl t_high)), (a_t_storesIn, .inl (cT 0, 6, .inl t_storesIn)), (a_t_texts, .inl (cT 7, 4, .inr (.inr (.inr (.inr t_texts))))), (a_t_cooked, .inl (cT 0, 4, .inl t_cooked))] H := hP
  have hD : va_D A [(a_t, .inr (4, [.int p1_cauldrons, .ref a_t_isBroth, .ref a_t_low, .ref a_t_high, .ref a_t_contents, .ref a_t_storesIn, .int t_spells, .ref a_t_texts, .ref a_t_cooked, .int t_cookedSoFar, .int t_storesSoFar])), (a_t_contents_many, .inl (cT 0, 6, .inl t_contents_many)), (a_t_contents_much, .inl (cT 4, 6, .inr (.inr (.inl t_contents_much)))), (a_t_isBroth, .inl (cT 1, 6, .inl t_isBroth)), (a_t_low, .inl (cT 0, 6, .inl t_low)), (a_t_high, .inl (cT 0, 6, .inl t_high)), (a_t_storesIn, .inl (cT 0, 6, .inl t_storesIn)), (a_t_texts, .inl (cT 7, 4, .inr (.inr (.inr (.inr t_texts))))), (a_t_cooked, .inl (cT 0, 4, .inl t_cooked))] := hD
  refine lv_iconst (v := 0) hx hb dX0_copy_8 (by decide) ?_
  refine lv_istore_n (lv' := [(2, .int 0), (0, .ref a_t), (1, .ref a_p1)]) hx hb dX0_copy_9 rfl hl (by decide) rfl (fun ls hl => ?_)
  exact wB_10 100 t_high t_isBroth t_low t_storesIn 0 _ _ _ h hP hD hS (lv_sub hl [1, 2, 0] rfl)
set_option maxHeartbeats 4000000 in
set_option maxRecDepth 100000 in
theorem c_X0_spellAt (l : Launch) (dC : Nat → ClassId) (dI : Nat → Nat → Nat) (cT : Nat → ClassId) {Hh : Heap} {a_t : Nat} {a_t_texts : Nat} {a_t_isBroth : Nat} {a_t_low : Nat} {a_t_high : Nat} {a_t_contents : Nat} {a_t_storesIn : Nat} {a_t_cooked : Nat} {t_spells : Int32} {t_texts : Nat → Option Nat} {p1 : Int32} {t_cauldrons : Int32} {t_cookedSoFar : Int32} {t_storesSoFar : Int32} {o : Option Nat} (h : g_X0_spellAt t_spells t_texts p1 = some o) (hR0 : va_P (dC, dI) vwCl [(a_t, .inr (4, [.int t_cauldrons, .ref a_t_isBroth, .ref a_t_low, .ref a_t_high, .ref a_t_contents, .ref a_t_storesIn, .int t_spells, .ref a_t_texts, .ref a_t_cooked, .int t_cookedSoFar, .int t_storesSoFar])), (a_t_texts, .inl (cT 7, 4, .inr (.inr (.inr (.inr t_texts)))))] Hh) : Met l yX0_spellAt (wA yX0_spellAt cX0_spellAt 2 (some (.object "CauldronTypes$Spell"))) ({ frames := 0, cells := 0, slots := 0, locals := 0 } : Room) (PK dC dI cT [.ref a_t, .int p1] Hh) (va_Qq (fun x (_ : Unit) => x = o) (fun _ t => t.heap = Hh) (va_A [] Hh.size)) 0 0 (va_A [] Hh.size) := by
  refine Met.ofW (cc := cX0_spellAt) (maxL := 2) (ret := (some (.object "CauldronTypes$Spell"))) (by decide) rfl ?_
  intro p e s m args below meth c s₁ B hml hv
  obtain ⟨rfl, hH, hK⟩ := hv
  subst hH
  have hx := B.exec
  have hb := B.bytes
  have hr := B.returns
  have hta : ∀ w ∈ ALLW, w.before [.ref a_t, .int p1].toArray s = true := fun w hw => atoms_spec (ws := wA yX0_spellAt cX0_spellAt 2 (some (.object "CauldronTypes$Spell"))) B.pre w (List.mem_cons_of_mem _ hw)
  have hown : s.vm.findClass RX0 = some m.cls := findClass_of_methodNamed B.named
  have hlocks := B.notSynchronized
  generalize hAe : va_A [] s.heap.size = A
  have hA : ∀ q : Nat, s.heap.size ≤ q → A q := fun q h => by rw [← hAe]; exact Or.inr h
  have hS : va_S A s.heap s.heap [] := va_S.rf
  have hl := lv_entry [.ref a_t, .int p1] (n := 2) (Nat.le_of_ble_eq_true rfl)
  rw [lg_entry_eq]
  generalize (lg_sl [.ref a_t, .int p1] ++ List.replicate (2 - (lg_sl [.ref a_t, .int p1]).length) Slot.unset).toArray = ls at hl ⊢
  have hl : lv_has ls 2 [(0, .ref a_t), (1, .int p1)] := hl
  unfold g_X0_spellAt at h
  refine lv_iload_n hx hb dX0_spellAt_0 rfl (lv_at hl 1 rfl) ?_
  refine lv_if_lt (tgt := 26) hx hb dX0_spellAt_1 (by decide) (fun c0 => ?_) (fun c0 => ?_)
  · have h := (if_pos c0).symm.trans h
    refine lv_null hx hb dX0_spellAt_26 ?_
    have ho := Option.some.inj h
    exact W.aret (v := .null) hx hb hr (Or.inl ⟨_, rfl⟩) (Or.inl rfl) (fun t ht hW => ⟨⟨none, (), rfl, by rw [← ho], ht⟩, hS.F ht⟩) hS.2.2 dX0_spellAt_27
  · have h := (if_neg c0).symm.trans h
    refine lv_iload_n hx hb dX0_spellAt_4 rfl (lv_at hl 1 rfl) ?_
    refine lv_aload_n hx hb dX0_spellAt_5 rfl (lv_at hl 0 rfl) ?_
    refine va_get (D := (dC, dI)) (ci := 4) (v := .int t_spells) (C := RX0) (T := TX0) (N := 11) hx hb hta inX0w hown hK hR0 0 rfl rfl 6 (by decide) (hta _ lk_X0_49) (fun _ h9 => h9) rfl dX0_spellAt_6 ?_
    refine lv_icmp_ge (tgt := 26) hx hb dX0_spellAt_9 (by decide) (fun c0 => ?_) (fun c0 => ?_)
    · have h := (if_pos c0).symm.trans h
      refine lv_null hx hb dX0_spellAt_26 ?_
      have ho := Option.some.inj h
      exact W.aret (v := .null) hx hb hr (Or.inl ⟨_, rfl⟩) (Or.inl rfl) (fun t ht hW => ⟨⟨none, (), rfl, by rw [← ho], ht⟩, hS.F ht⟩) hS.2.2 dX0_spellAt_27
    · have h := (if_neg c0).symm.trans h
      refine lv_iload_n hx hb dX0_spellAt_12 rfl (lv_at hl 1 rfl) ?_
      refine lv_iconst (v := 4) hx hb dX0_spellAt_13 (by decide) ?_
      refine lv_icmp_ge (tgt := 26) hx hb dX0_spellAt_14 (by decide) (fun c0 => ?_) (fun c0 => ?_)
      · have h := (if_pos c0).symm.trans h
        refine lv_null hx hb dX0_spellAt_26 ?_
        have ho := Option.some.inj h
        exact W.aret (v := .null) hx hb hr (Or.inl ⟨_, rfl⟩) (Or.inl rfl) (fun t ht hW => ⟨⟨none, (), rfl, by rw [← ho], ht⟩, hS.F ht⟩) hS.2.2 dX0_spellAt_27
      · have h := (if_neg c0).symm.trans h
        refine lv_aload_n hx hb dX0_spellAt_17 rfl (lv_at hl 0 rfl) ?_
        refine va_get (D := (dC, dI)) (ci := 4) (v := .ref a_t_texts) (C := RX0) (T := TX0) (N := 11) hx hb hta inX0w hown hK hR0 0 rfl rfl 7 (by decide) (hta _ lk_X0_34) (fun _ h9 => h9) rfl dX0_spellAt_18 ?_
        refine lv_iload_n hx hb dX0_spellAt_21 rfl (lv_at hl 1 rfl) ?_
        obtain ⟨hc, h⟩ := gc_some h
        refine va_aldq hx hb hK hR0 1 7 rfl rfl (inb_in hc) dX0_spellAt_22 ?_
        refine lv_goto (tgt := 27) hx hb dX0_spellAt_23 (by decide) ?_
        have ho := Option.some.inj h
        exact W.aret (v := va_rf (t_texts p1.toNatClampNeg)) hx hb hr (Or.inl ⟨_, rfl⟩) (va_rf_or _) (fun t ht hW => ⟨⟨(t_texts p1.toNatClampNeg), (), rfl, by rw [← ho], ht⟩, hS.F ht⟩) hS.2.2 dX0_spellAt_27
set_option maxHeartbeats 4000000 in
set_option maxRecDepth 100000 in
theorem c_X0_putDown (l : Launch) (dC : Nat → ClassId) (dI : Nat → Nat → Nat) (cT : Nat → ClassId) {Hh : Heap} {a_t : Nat} {a_t_texts : Nat} {a_t_cooked : Nat} {a_t_isBroth : Nat} {a_t_low : Nat} {a_t_high : Nat} {a_t_contents : Nat} {a_t_storesIn : Nat} {a_p1_text : Nat} {a_p1_firsts : Nat} {a_p1_kinds : Nat} {a_p1_values : Nat} {a_p1_parts : Nat} {a_p1_lastParts : Nat} {t_spells : Int32} {t_texts : Nat → Option Nat} {t_cooked : Nat → Int32} {a_p1 : Nat} {t_cauldrons : Int32} {t_cookedSoFar : Int32} {t_storesSoFar : Int32} {p1_tokens : Int32} {p1_stores : Int32} {p1_mostSpoons : Int32} {o : Int32 × Int32 × (Nat → Option Nat) × (Nat → Int32)} (h : g_X0_putDown t_spells t_texts t_cooked a_p1 = some o) (hP0 : va_P (dC, dI) vwCl [(a_t, .inr (4, [.int t_cauldrons, .ref a_t_isBroth, .ref a_t_low, .ref a_t_high, .ref a_t_contents, .ref a_t_storesIn, .int t_spells, .ref a_t_texts, .ref a_t_cooked, .int t_cookedSoFar, .int t_storesSoFar])), (a_t_texts, .inl (cT 7, 4, .inr (.inr (.inr (.inr t_texts))))), (a_t_cooked, .inl (cT 0, 4, .inl t_cooked))] Hh) (hR0 : va_P (dC, dI) vwCl [(a_p1, .inr (11, [.ref a_p1_text, .int p1_tokens, .int p1_stores, .int p1_mostSpoons, .ref a_p1_firsts, .ref a_p1_kinds, .ref a_p1_values, .ref a_p1_parts, .ref a_p1_lastParts]))] Hh) (hD0 : va_D (fun _ => True) [(a_t, .inr (4, [.int t_cauldrons, .ref a_t_isBroth, .ref a_t_low, .ref a_t_high, .ref a_t_contents, .ref a_t_storesIn, .int t_spells, .ref a_t_texts, .ref a_t_cooked, .int t_cookedSoFar, .int t_storesSoFar])), (a_t_texts, .inl (cT 7, 4, .inr (.inr (.inr (.inr t_texts))))), (a_t_cooked, .inl (cT 0, 4, .inl t_cooked))]) (hN0 : ∀ (k : Nat) (q : Nat × va_E), ([(a_p1, .inr (11, [.ref a_p1_text, .int p1_tokens, .int p1_stores, .int p1_mostSpoons, .ref a_p1_firsts, .ref a_p1_kinds, .ref a_p1_values, .ref a_p1_parts, .ref a_p1_lastParts]))] : va_W)[k]? = some q → ¬ va_A [(a_t, .inr (4, [.int t_cauldrons, .ref a_t_isBroth, .ref a_t_low, .ref a_t_high, .ref a_t_contents, .ref a_t_storesIn, .int t_spells, .ref a_t_texts, .ref a_t_cooked, .int t_cookedSoFar, .int t_storesSoFar])), (a_t_texts, .inl (cT 7, 4, .inr (.inr (.inr (.inr t_texts))))), (a_t_cooked, .inl (cT 0, 4, .inl t_cooked))] Hh.size q.1) : Met l yX0_putDown (wA yX0_putDown cX0_putDown 3 (some .int)) ({ frames := 0, cells := 0, slots := 0, locals := 0 } : Room) (PK dC dI cT [.ref a_t, .ref a_p1] Hh) (va_Qi (fun x (_ : Unit) => x = o.1) (fun _ t => va_P (dC, dI) vwCl [(a_t, .inr (4, [.int t_cauldrons, .ref a_t_isBroth, .ref a_t_low, .ref a_t_high, .ref a_t_contents, .ref a_t_storesIn, .int o.2.1, .ref a_t_texts, .ref a_t_cooked, .int t_cookedSoFar, .int t_storesSoFar])), (a_t_texts, .inl (cT 7, 4, .inr (.inr (.inr (.inr o.2.2.1))))), (a_t_cooked, .inl (cT 0, 4, .inl o.2.2.2))] t.heap) (va_A [(a_t, .inr (4, [.int t_cauldrons, .ref a_t_isBroth, .ref a_t_low, .ref a_t_high, .ref a_t_contents, .ref a_t_storesIn, .int t_spells, .ref a_t_texts, .ref a_t_cooked, .int t_cookedSoFar, .int t_storesSoFar])), (a_t_texts, .inl (cT 7, 4, .inr (.inr (.inr (.inr t_texts))))), (a_t_cooked, .inl (cT 0, 4, .inl t_cooked))] Hh.size)) 0 0 (va_A [(a_t, .inr (4, [.int t_cauldrons, .ref a_t_isBroth, .ref a_t_low, .ref a_t_high, .ref a_t_contents, .ref a_t_storesIn, .int t_spells, .ref a_t_texts, .ref a_t_cooked, .int t_cookedSoFar, .int t_storesSoFar])), (a_t_texts, .inl (cT 7, 4, .inr (.inr (.inr (.inr t_texts))))), (a_t_cooked, .inl (cT 0, 4, .inl t_cooked))] Hh.size) := by
  refine Met.ofW (cc := cX0_putDown) (maxL := 3) (ret := (some .int)) (by decide) rfl ?_
  intro p e s m args below meth c s₁ B hml hv
  obtain ⟨rfl, hH, hK⟩ := hv
  subst hH
  have hx := B.exec
  have hb := B.bytes
  have hr := B.returns
  have hta : ∀ w ∈ ALLW, w.before [.ref a_t, .ref a_p1].toArray s = true := fun w hw => atoms_spec (ws := wA yX0_putDown cX0_putDown 3 (some .int)) B.pre w (List.mem_cons_of_mem _ hw)
  have hown : s.vm.findClass RX0 = some m.cls := findClass_of_methodNamed B.named
  have hlocks := B.notSynchronized
  have hD := hD0.self (sz := s.heap.size)
  have hNA := hN0
  generalize hAe : va_A [(a_t, .inr (4, [.int t_cauldrons, .ref a_t_isBroth, .ref a_t_low, .ref a_t_high, .ref a_t_contents, .ref a_t_storesIn, .int t_spells, .ref a_t_texts, .ref a_t_cooked, .int t_cookedSoFar, .int t_storesSoFar])), (a_t_texts, .inl (cT 7, 4, .inr (.inr (.inr (.inr t_texts))))), (a_t_cooked, .inl (cT 0, 4, .inl t_cooked))] s.heap.size = A at hD hNA ⊢
  have hP := hP0
  have hA : ∀ q : Nat, s.heap.size ≤ q → A q := fun q h => by rw [← hAe]; exact Or.inr h
  have hS : va_S A s.heap s.heap [] := va_S.rf
  have hl := lv_entry [.ref a_t, .ref a_p1] (n := 3) (Nat.le_of_ble_eq_true rfl)
  rw [lg_entry_eq]
  generalize (lg_sl [.ref a_t, .ref a_p1] ++ List.replicate (3 - (lg_sl [.ref a_t, .ref a_p1]).length) Slot.unset).toArray = ls at hl ⊢
  have hl : lv_has ls 3 [(0, .ref a_t), (1, .ref a_p1)] := hl
  unfold g_X0_putDown at h
  refine lv_aload_n hx hb dX0_putDown_0 rfl (lv_at hl 0 rfl) ?_
  refine va_get (D := (dC, dI)) (ci := 4) (v := .int t_spells) (C := RX0) (T := TX0) (N := 11) hx hb hta inX0w hown hK hP 0 rfl rfl 6 (by decide) (hta _ lk_X0_49) (fun _ h9 => h9) rfl dX0_putDown_1 ?_
  refine lv_istore_n (lv' := [(2, .int t_spells), (0, .ref a_t), (1, .ref a_p1)]) hx hb dX0_putDown_4 rfl hl (by decide) rfl (fun ls hl => ?_)
  refine lv_iload_n hx hb dX0_putDown_5 rfl (lv_at hl 0 rfl) ?_
  refine lv_if_lt (tgt := 14) hx hb dX0_putDown_6 (by decide) (fun c0 => ?_) (fun c0 => ?_)
  · have h := (if_pos c0).symm.trans h
    refine lv_iconst (v := -1) hx hb dX0_putDown_14 (by decide) ?_
    have ho := Option.some.inj h
    exact W.iret (v := (-1)) hx hb hr (fun t ht hW => ⟨⟨(-1), (), rfl, by rw [← ho], by show va_P (dC, dI) vwCl _ t.heap; rw [ht, ← ho]; exact hP⟩, hS.F ht⟩) hS.2.2 dX0_putDown_15
  · have h := (if_neg c0).symm.trans h
    refine lv_iload_n hx hb dX0_putDown_9 rfl (lv_at hl 0 rfl) ?_
    refine lv_iconst (v := 4) hx hb dX0_putDown_10 (by decide) ?_
    refine lv_icmp_lt (tgt := 16) hx hb dX0_putDown_11 (by decide) (fun c0 => ?_) (fun c0 => ?_)
    · have h := (if_pos c0).symm.trans h
      refine lv_aload_n hx hb dX0_putDown_16 rfl (lv_at hl 1 rfl) ?_
      refine lv_dup hx hb dX0_putDown_17 rfl ?_
      refine va_get (D := (dC, dI)) (ci := 4) (v := .int t_spells) (C := RX0) (T := TX0) (N := 11) hx hb hta inX0w hown hK hP 0 rfl rfl 6 (by decide) (hta _ lk_X0_49) (fun _ h9 => h9) rfl dX0_putDown_18 ?_
      refine lv_iconst (v := 1) hx hb dX0_putDown_21 (by decide) ?_
      refine lv_iadd hx hb dX0_putDown_22 ?_
      refine lv_topi (fun v1 e_v1 => ?_)
      have h := gl_use e_v1 h
      refine va_put (D := (dC, dI)) (ci := 4) (v := .int v1) (ty := .int) (C := RX0) (T := TX0) (N := 11) hx hb hta inX0w tyX0 tyX0_ok nmX0 hown hK hP hD hS 0 rfl rfl 6 (by decide) (hta _ lk_X0_49) (fun _ h9 => h9) rfl (by decide +kernel) rfl rfl (Nat.le_of_ble_eq_true rfl) dX0_putDown_23 (fun H locs hP hD hS => ?_)
      have hP : va_P (dC, dI) vwCl [(a_t, .inr (4, [.int t_cauldrons, .ref a_t_isBroth, .ref a_t_low, .ref a_t_high, .ref a_t_contents, .ref a_t_storesIn, .int v1, .ref a_t_texts, .ref a_t_cooked, .int t_cookedSoFar, .int t_storesSoFar])), (a_t_texts, .inl (cT 7, 4, .inr (.inr (.inr (.inr t_texts))))), (a_t_cooked, .inl (cT 0, 4, .inl t_cooked))] H := hP
      have hD : va_D A [(a_t, .inr (4, [.int t_cauldrons, .ref a_t_isBroth, .ref a_t_low, .ref a_t_high, .ref a_t_contents, .ref a_t_storesIn, .int v1, .ref a_t_texts, .ref a_t_cooked, .int t_cookedSoFar, .int t_storesSoFar])), (a_t_texts, .inl (cT 7, 4, .inr (.inr (.inr (.inr t_texts))))), (a_t_cooked, .inl (cT 0, 4, .inl t_cooked))] := hD
      refine lv_aload_n hx hb dX0_putDown_26 rfl (lv_at hl 1 rfl) ?_
      refine va_get (D := (dC, dI)) (ci := 4) (v := .ref a_t_texts) (C := RX0) (T := TX0) (N := 11) hx hb hta inX0w hown hK hP 0 rfl rfl 7 (by decide) (hta _ lk_X0_34) (fun _ h9 => h9) rfl dX0_putDown_27 ?_
      refine lv_iload_n hx hb dX0_putDown_30 rfl (lv_at hl 0 rfl) ?_
      refine lv_aload_n hx hb dX0_putDown_31 rfl (lv_at hl 2 rfl) ?_
      obtain ⟨hc, h⟩ := gc_some h
      refine va_astqM hx hb hK hP hD hS 1 7 (E := "CauldronTypes$Spell") rfl rfl (any_of hK (rk hR0 hNA hS) (q0 := 0) (ci := 11) (r := (RX8, TX8, 9)) rfl rfl) (inb_in hc) dX0_putDown_32 (fun H locs hP hD hS => ?_)
      have hP : va_P (dC, dI) vwCl [(a_t, .inr (4, [.int t_cauldrons, .ref a_t_isBroth, .ref a_t_low, .ref a_t_high, .ref a_t_contents, .ref a_t_storesIn, .int v1, .ref a_t_texts, .ref a_t_cooked, .int t_cookedSoFar, .int t_storesSoFar])), (a_t_texts, .inl (cT 7, 4, .inr (.inr (.inr (.inr (va_up t_texts t_spells.toNatClampNeg (some a_p1))))))), (a_t_cooked, .inl (cT 0, 4, .inl t_cooked))] H := hP
      have hD : va_D A [(a_t, .inr (4, [.int t_cauldrons, .ref a_t_isBroth, .ref a_t_low, .ref a_t_high, .ref a_t_contents, .ref a_t_storesIn, .int v1, .ref a_t_texts, .ref a_t_cooked, .int t_cookedSoFar, .int t_storesSoFar])), (a_t_texts, .inl (cT 7, 4, .inr (.inr (.inr (.inr (va_up t_texts t_spells.toNatClampNeg (some a_p1))))))), (a_t_cooked, .inl (cT 0, 4, .inl t_cooked))] := hD
      refine lv_aload_n hx hb dX0_putDown_33 rfl (lv_at hl 1 rfl) ?_
      refine va_get (D := (dC, dI)) (ci := 4) (v := .ref a_t_cooked) (C := RX0) (T := TX0) (N := 11) hx hb hta inX0w hown hK hP 0 rfl rfl 8 (by decide) (hta _ lk_X0_38) (fun _ h9 => h9) rfl dX0_putDown_34 ?_
      refine lv_iload_n hx hb dX0_putDown_37 rfl (lv_at hl 0 rfl) ?_
      refine lv_iconst (v := 0) hx hb dX0_putDown_38 (by decide) ?_
      obtain ⟨hc, h⟩ := gc_some h
      refine va_iast hx hb hK hP hD hS 2 0 rfl rfl (inb_in hc) dX0_putDown_39 (fun H locs hP hD hS => ?_)
      have hP : va_P (dC, dI) vwCl [(a_t, .inr (4, [.int t_cauldrons, .ref a_t_isBroth, .ref a_t_low, .ref a_t_high, .ref a_t_contents, .ref a_t_storesIn, .int v1, .ref a_t_texts, .ref a_t_cooked, .int t_cookedSoFar, .int t_storesSoFar])), (a_t_texts, .inl (cT 7, 4, .inr (.inr (.inr (.inr (va_up t_texts t_spells.toNatClampNeg (some a_p1))))))), (a_t_cooked, .inl (cT 0, 4, .inl (upd t_cooked t_spells.toNatClampNeg 0)))] H := hP
      have hD : va_D A [(a_t, .inr (4, [.int t_cauldrons, .ref a_t_isBroth, .ref a_t_low, .ref a_t_high, .ref a_t_contents, .ref a_t_storesIn, .int v1, .ref a_t_texts, .ref a_t_cooked, .int t_cookedSoFar, .int t_storesSoFar])), (a_t_texts, .inl (cT 7, 4, .inr (.inr (.inr (.inr (va_up t_texts t_spells.toNatClampNeg (some a_p1))))))), (a_t_cooked, .inl (cT 0, 4, .inl (upd t_cooked t_spells.toNatClampNeg 0)))] := hD
      refine lv_iload_n hx hb dX0_putDown_40 rfl (lv_at hl 0 rfl) ?_
      have ho := Option.some.inj h
      exact W.iret (v := t_spells) hx hb hr (fun t ht hW => ⟨⟨t_spells, (), rfl, by rw [← ho], by show va_P (dC, dI) vwCl _ t.heap; rw [ht, ← ho]; exact hP⟩, hS.F ht⟩) hS.2.2 dX0_putDown_41
    · have h := (if_neg c0).symm.trans h
      refine lv_iconst (v := -1) hx hb dX0_putDown_14 (by decide) ?_
      have ho := Option.some.inj h
      exact W.iret (v := (-1)) hx hb hr (fun t ht hW => ⟨⟨(-1), (), rfl, by rw [← ho], by show va_P (dC, dI) vwCl _ t.heap; rw [ht, ← ho]; exact hP⟩, hS.F ht⟩) hS.2.2 dX0_putDown_15
set_option maxHeartbeats 4000000 in
set_option maxRecDepth 100000 in
theorem c_X0_strikeOut (l : Launch) (dC : Nat → ClassId) (dI : Nat → Nat → Nat) (cT : Nat → ClassId) {Hh : Heap} {sq : Nat → Nat → Nat} {a_t : Nat} {a_t_texts : Nat} {a_t_cooked : Nat} {a_t_isBroth : Nat} {a_t_low : Nat} {a_t_high : Nat} {a_t_contents : Nat} {a_t_storesIn : Nat} {LS : List Nat} {SE : Nat → SV} {t_spells : Int32} {t_texts : Nat → Option Nat} {t_cooked : Nat → Int32} {p1 : Int32} {t_cauldrons : Int32} {t_cookedSoFar : Int32} {t_storesSoFar : Int32} {o : Int32 × (Nat → Option Nat) × (Nat → Int32)} (h : g_X0_strikeOut LS SE t_spells t_texts t_cooked p1 = some o) (hP0 : va_P (dC, dI) vwCl [(a_t, .inr (4, [.int t_cauldrons, .ref a_t_isBroth, .ref a_t_low, .ref a_t_high, .ref a_t_contents, .ref a_t_storesIn, .int t_spells, .ref a_t_texts, .ref a_t_cooked, .int t_cookedSoFar, .int t_storesSoFar])), (a_t_texts, .inl (cT 7, 4, .inr (.inr (.inr (.inr t_texts))))), (a_t_cooked, .inl (cT 0, 4, .inl t_cooked))] Hh) (hD0 : va_D (fun _ => True) [(a_t, .inr (4, [.int t_cauldrons, .ref a_t_isBroth, .ref a_t_low, .ref a_t_high, .ref a_t_contents, .ref a_t_storesIn, .int t_spells, .ref a_t_texts, .ref a_t_cooked, .int t_cookedSoFar, .int t_storesSoFar])), (a_t_texts, .inl (cT 7, 4, .inr (.inr (.inr (.inr t_texts))))), (a_t_cooked, .inl (cT 0, 4, .inl t_cooked))]) (hSP : ∀ a ∈ LS, va_P (dC, dI) vwCl (spc cT sq SE a) Hh) (hSN : ∀ a ∈ LS, ∀ (k : Nat) (q : Nat × va_E), (spc cT sq SE a)[k]? = some q → ¬ va_A [(a_t, .inr (4, [.int t_cauldrons, .ref a_t_isBroth, .ref a_t_low, .ref a_t_high, .ref a_t_contents, .ref a_t_storesIn, .int t_spells, .ref a_t_texts, .ref a_t_cooked, .int t_cookedSoFar, .int t_storesSoFar])), (a_t_texts, .inl (cT 7, 4, .inr (.inr (.inr (.inr t_texts))))), (a_t_cooked, .inl (cT 0, 4, .inl t_cooked))] Hh.size q.1) : Met l yX0_strikeOut (wA yX0_strikeOut cX0_strikeOut 3 none) ({ frames := 1, cells := 0, slots := 0, locals := 21 } : Room) (PK dC dI cT [.ref a_t, .int p1] Hh) (va_Qv (fun (_ : Unit) => True) (fun _ t => va_P (dC, dI) vwCl [(a_t, .inr (4, [.int t_cauldrons, .ref a_t_isBroth, .ref a_t_low, .ref a_t_high, .ref a_t_contents, .ref a_t_storesIn, .int o.1, .ref a_t_texts, .ref a_t_cooked, .int t_cookedSoFar, .int t_storesSoFar])), (a_t_texts, .inl (cT 7, 4, .inr (.inr (.inr (.inr o.2.1))))), (a_t_cooked, .inl (cT 0, 4, .inl o.2.2))] t.heap) (va_A [(a_t, .inr (4, [.int t_cauldrons, .ref a_t_isBroth, .ref a_t_low, .ref a_t_high, .ref a_t_contents, .ref a_t_storesIn, .int t_spells, .ref a_t_texts, .ref a_t_cooked, .int t_cookedSoFar, .int t_storesSoFar])), (a_t_texts, .inl (cT 7, 4, .inr (.inr (.inr (.inr t_texts))))), (a_t_cooked, .inl (cT 0, 4, .inl t_cooked))] Hh.size)) 0 0 (va_A [(a_t, .inr (4, [.int t_cauldrons, .ref a_t_isBroth, .ref a_t_low, .ref a_t_high, .ref a_t_contents, .ref a_t_storesIn, .int t_spells, .ref a_t_texts, .ref a_t_cooked, .int t_cookedSoFar, .int t_storesSoFar])), (a_t_texts, .inl (cT 7, 4, .inr (.inr (.inr (.inr t_texts))))), (a_t_cooked, .inl (cT 0, 4, .inl t_cooked))] Hh.size) := by
  refine Met.ofW (cc := cX0_strikeOut) (maxL := 3) (ret := none) (by decide) rfl ?_
  intro p e s m args below meth c s₁ B hml hv
  obtain ⟨rfl, hH, hK⟩ := hv
  subst hH
  have hx := B.exec
  have hb := B.bytes
  have hr := B.returns
  have hta : ∀ w ∈ ALLW, w.before [.ref a_t, .int p1].toArray s = true := fun w hw => atoms_spec (ws := wA yX0_strikeOut cX0_strikeOut 3 none) B.pre w (List.mem_cons_of_mem _ hw)
  have hown : s.vm.findClass RX0 = some m.cls := findClass_of_methodNamed B.named
  have hlocks := B.notSynchronized
  have hD := hD0.self (sz := s.heap.size)
  generalize hAe : va_A [(a_t, .inr (4, [.int t_cauldrons, .ref a_t_isBroth, .ref a_t_low, .ref a_t_high, .ref a_t_contents, .ref a_t_storesIn, .int t_spells, .ref a_t_texts, .ref a_t_cooked, .int t_cookedSoFar, .int t_storesSoFar])), (a_t_texts, .inl (cT 7, 4, .inr (.inr (.inr (.inr t_texts))))), (a_t_cooked, .inl (cT 0, 4, .inl t_cooked))] s.heap.size = A at hD hSN ⊢
  have hP := hP0
  have hA : ∀ q : Nat, s.heap.size ≤ q → A q := fun q h => by rw [← hAe]; exact Or.inr h
  have hS : va_S A s.heap s.heap [] := va_S.rf
  have hl := lv_entry [.ref a_t, .int p1] (n := 3) (Nat.le_of_ble_eq_true rfl)
  rw [lg_entry_eq]
  generalize (lg_sl [.ref a_t, .int p1] ++ List.replicate (3 - (lg_sl [.ref a_t, .int p1]).length) Slot.unset).toArray = ls at hl ⊢
  have hl : lv_has ls 3 [(0, .ref a_t), (1, .int p1)] := hl
  obtain ⟨Q, hQ⟩ : ∃ Q, Q = MQ below (va_Qv (fun (_ : Unit) => True) (fun _ t => va_P (dC, dI) vwCl [(a_t, .inr (4, [.int t_cauldrons, .ref a_t_isBroth, .ref a_t_low, .ref a_t_high, .ref a_t_contents, .ref a_t_storesIn, .int o.1, .ref a_t_texts, .ref a_t_cooked, .int t_cookedSoFar, .int t_storesSoFar])), (a_t_texts, .inl (cT 7, 4, .inr (.inr (.inr (.inr o.2.1))))), (a_t_cooked, .inl (cT 0, 4, .inl o.2.2))] t.heap) A) [.ref a_t, .int p1].toArray s 0 0 A := ⟨_, rfl⟩
  rw [← hQ]
  have wB_6 : ∀ (n_6 : Nat), ∀ (t_cooked_6 : Nat → Int32) (t_texts_6 : Nat → Option Nat) (x2_6 : Int32) (H : Heap) (locs : List Loc) (ls : Array Slot), g_X0_strikeOut_b6 LS t_spells n_6 t_cooked_6 t_texts_6 x2_6 = some o → va_P (dC, dI) vwCl [(a_t, .inr (4, [.int t_cauldrons, .ref a_t_isBroth, .ref a_t_low, .ref a_t_high, .ref a_t_contents, .ref a_t_storesIn, .int t_spells, .ref a_t_texts, .ref a_t_cooked, .int t_cookedSoFar, .int t_storesSoFar])), (a_t_texts, .inl (cT 7, 4, .inr (.inr (.inr (.inr t_texts_6))))), (a_t_cooked, .inl (cT 0, 4, .inl t_cooked_6))] H → va_D A [(a_t, .inr (4, [.int t_cauldrons, .ref a_t_isBroth, .ref a_t_low, .ref a_t_high, .ref a_t_contents, .ref a_t_storesIn, .int t_spells, .ref a_t_texts, .ref a_t_cooked, .int t_cookedSoFar, .int t_storesSoFar])), (a_t_texts, .inl (cT 7, 4, .inr (.inr (.inr (.inr t_texts_6))))), (a_t_cooked, .inl (cT 0, 4, .inl t_cooked_6))] → va_S A s.heap H locs → lv_has ls 3 [(0, .ref a_t), (2, .int x2_6)] → W p l e ({ frames := 1, cells := 0, slots := 0, locals := 21 } : Room) s m [.ref a_t, .int p1].toArray below meth c H locs 0 0 Q (F0 m 6 ls []) := by
    intro n_6
    induction n_6 with
    | zero =>
      intro t_cooked_6 t_texts_6 x2_6 H locs ls h hP hD hS hl
      simp [g_X0_strikeOut_b6] at h
    | succ n_6 ih_6 =>
      intro t_cooked_6 t_texts_6 x2_6 H locs ls h hP hD hS hl
      rw [g_X0_strikeOut_b6] at h
      refine lv_iload_n hx hb dX0_strikeOut_6 rfl (lv_at hl 1 rfl) ?_
      refine lv_iconst (v := 3) hx hb dX0_strikeOut_7 (by decide) ?_
      refine lv_icmp_ge (tgt := 45) hx hb dX0_strikeOut_8 (by decide) (fun c0 => ?_) (fun c0 => ?_)
      · have h := (if_pos c0).symm.trans h
        refine lv_aload_n hx hb dX0_strikeOut_45 rfl (lv_at hl 0 rfl) ?_
        refine lv_dup hx hb dX0_strikeOut_46 rfl ?_
        refine va_get (D := (dC, dI)) (ci := 4) (v := .int t_spells) (C := RX0) (T := TX0) (N := 11) hx hb hta inX0w hown hK hP 0 rfl rfl 6 (by decide) (hta _ lk_X0_49) (fun _ h9 => h9) rfl dX0_strikeOut_47 ?_
        refine lv_iconst (v := 1) hx hb dX0_strikeOut_50 (by decide) ?_
        refine lv_isub hx hb dX0_strikeOut_51 ?_
        refine lv_topi (fun v2 e_v2 => ?_)
        have h := gl_use e_v2 h
        refine va_put (D := (dC, dI)) (ci := 4) (v := .int v2) (ty := .int) (C := RX0) (T := TX0) (N := 11) hx hb hta inX0w tyX0 tyX0_ok nmX0 hown hK hP hD hS 0 rfl rfl 6 (by decide) (hta _ lk_X0_49) (fun _ h9 => h9) rfl (by decide +kernel) rfl rfl (Nat.le_of_ble_eq_true rfl) dX0_strikeOut_52 (fun H locs hP hD hS => ?_)
        have hP : va_P (dC, dI) vwCl [(a_t, .inr (4, [.int t_cauldrons, .ref a_t_isBroth, .ref a_t_low, .ref a_t_high, .ref a_t_contents, .ref a_t_storesIn, .int v2, .ref a_t_texts, .ref a_t_cooked, .int t_cookedSoFar, .int t_storesSoFar])), (a_t_texts, .inl (cT 7, 4, .inr (.inr (.inr (.inr t_texts_6))))), (a_t_cooked, .inl (cT 0, 4, .inl t_cooked_6))] H := hP
        have hD : va_D A [(a_t, .inr (4, [.int t_cauldrons, .ref a_t_isBroth, .ref a_t_low, .ref a_t_high, .ref a_t_contents, .ref a_t_storesIn, .int v2, .ref a_t_texts, .ref a_t_cooked, .int t_cookedSoFar, .int t_storesSoFar])), (a_t_texts, .inl (cT 7, 4, .inr (.inr (.inr (.inr t_texts_6))))), (a_t_cooked, .inl (cT 0, 4, .inl t_cooked_6))] := hD
        have ho := Option.some.inj h
        rw [hQ]
        exact W.vret hx hb hr (fun t ht hW => ⟨⟨(), rfl, trivial, by show va_P (dC, dI) vwCl _ t.heap; rw [ht, ← ho]; exact hP⟩, hS.F ht⟩) hS.2.2 dX0_strikeOut_55
      · have h := (if_neg c0).symm.trans h
        refine lv_aload_n hx hb dX0_strikeOut_11 rfl (lv_at hl 0 rfl) ?_
        refine va_get (D := (dC, dI)) (ci := 4) (v := .ref a_t_texts) (C := RX0) (T := TX0) (N := 11) hx hb hta inX0w hown hK hP 0 rfl rfl 7 (by decide) (hta _ lk_X0_34) (fun _ h9 => h9) rfl dX0_strikeOut_12 ?_
        refine lv_iload_n hx hb dX0_strikeOut_15 rfl (lv_at hl 1 rfl) ?_
        refine lv_aload_n hx hb dX0_strikeOut_16 rfl (lv_at hl 0 rfl) ?_
        refine va_get (D := (dC, dI)) (ci := 4) (v := .ref a_t_texts) (C := RX0) (T := TX0) (N := 11) hx hb hta inX0w hown hK hP 0 rfl rfl 7 (by decide) (hta _ lk_X0_34) (fun _ h9 => h9) rfl dX0_strikeOut_17 ?_
        refine lv_iload_n hx hb dX0_strikeOut_20 rfl (lv_at hl 1 rfl) ?_
        refine lv_iconst (v := 1) hx hb dX0_strikeOut_21 (by decide) ?_
        refine lv_iadd hx hb dX0_strikeOut_22 ?_
        obtain ⟨hc, h⟩ := gc_some h
        refine va_aldq hx hb hK hP 1 7 rfl rfl (inb_in hc) dX0_strikeOut_23 ?_
        obtain ⟨hc, h⟩ := gc_some h
        obtain ⟨hc2, h⟩ := gc_some h
        refine va_astR hx hb hK hP hD hS 1 7 (E := "CauldronTypes$Spell") rfl rfl (fun v9 e9 => any_of hK (rk (hSP v9 (oin9_in hc2 v9 e9)) (hSN v9 (oin9_in hc2 v9 e9)) hS) (q0 := 0) (ci := 11) (r := (RX8, TX8, 9)) rfl rfl) (inb_in hc) dX0_strikeOut_24 (fun H locs hP hD hS => ?_)
        have hP : va_P (dC, dI) vwCl [(a_t, .inr (4, [.int t_cauldrons, .ref a_t_isBroth, .ref a_t_low, .ref a_t_high, .ref a_t_contents, .ref a_t_storesIn, .int t_spells, .ref a_t_texts, .ref a_t_cooked, .int t_cookedSoFar, .int t_storesSoFar])), (a_t_texts, .inl (cT 7, 4, .inr (.inr (.inr (.inr (va_up t_texts_6 x2_6.toNatClampNeg (t_texts_6 (x2_6 + 1).toNatClampNeg))))))), (a_t_cooked, .inl (cT 0, 4, .inl t_cooked_6))] H := hP
        have hD : va_D A [(a_t, .inr (4, [.int t_cauldrons, .ref a_t_isBroth, .ref a_t_low, .ref a_t_high, .ref a_t_contents, .ref a_t_storesIn, .int t_spells, .ref a_t_texts, .ref a_t_cooked, .int t_cookedSoFar, .int t_storesSoFar])), (a_t_texts, .inl (cT 7, 4, .inr (.inr (.inr (.inr (va_up t_texts_6 x2_6.toNatClampNeg (t_texts_6 (x2_6 + 1).toNatClampNeg))))))), (a_t_cooked, .inl (cT 0, 4, .inl t_cooked_6))] := hD
        refine lv_aload_n hx hb dX0_strikeOut_25 rfl (lv_at hl 0 rfl) ?_
        refine va_get (D := (dC, dI)) (ci := 4) (v := .ref a_t_cooked) (C := RX0) (T := TX0) (N := 11) hx hb hta inX0w hown hK hP 0 rfl rfl 8 (by decide) (hta _ lk_X0_38) (fun _ h9 => h9) rfl dX0_strikeOut_26 ?_
        refine lv_iload_n hx hb dX0_strikeOut_29 rfl (lv_at hl 1 rfl) ?_
        refine lv_aload_n hx hb dX0_strikeOut_30 rfl (lv_at hl 0 rfl) ?_
        refine va_get (D := (dC, dI)) (ci := 4) (v := .ref a_t_cooked) (C := RX0) (T := TX0) (N := 11) hx hb hta inX0w hown hK hP 0 rfl rfl 8 (by decide) (hta _ lk_X0_38) (fun _ h9 => h9) rfl dX0_strikeOut_31 ?_
        refine lv_iload_n hx hb dX0_strikeOut_34 rfl (lv_at hl 1 rfl) ?_
        refine lv_iconst (v := 1) hx hb dX0_strikeOut_35 (by decide) ?_
        refine lv_iadd hx hb dX0_strikeOut_36 ?_
        obtain ⟨hc, h⟩ := gc_some h
        refine va_iald hx hb hK hP 2 0 rfl rfl (inb_in hc) dX0_strikeOut_37 ?_
        obtain ⟨hc, h⟩ := gc_some h
        refine va_iast hx hb hK hP hD hS 2 0 rfl rfl (inb_in hc) dX0_strikeOut_38 (fun H locs hP hD hS => ?_)
        have hP : va_P (dC, dI) vwCl [(a_t, .inr (4, [.int t_cauldrons, .ref a_t_isBroth, .ref a_t_low, .ref a_t_high, .ref a_t_contents, .ref a_t_storesIn, .int t_spells, .ref a_t_texts, .ref a_t_cooked, .int t_cookedSoFar, .int t_storesSoFar])), (a_t_texts, .inl (cT 7, 4, .inr (.inr (.inr (.inr (va_up t_texts_6 x2_6.toNatClampNeg (t_texts_6 (x2_6 + 1).toNatClampNeg))))))), (a_t_cooked, .inl (cT 0, 4, .inl (upd t_cooked_6 x2_6.toNatClampNeg (t_cooked_6 (x2_6 + 1).toNatClampNeg))))] H := hP
        have hD : va_D A [(a_t, .inr (4, [.int t_cauldrons, .ref a_t_isBroth, .ref a_t_low, .ref a_t_high, .ref a_t_contents, .ref a_t_storesIn, .int t_spells, .ref a_t_texts, .ref a_t_cooked, .int t_cookedSoFar, .int t_storesSoFar])), (a_t_texts, .inl (cT 7, 4, .inr (.inr (.inr (.inr (va_up t_texts_6 x2_6.toNatClampNeg (t_texts_6 (x2_6 + 1).toNatClampNeg))))))), (a_t_cooked, .inl (cT 0, 4, .inl (upd t_cooked_6 x2_6.toNatClampNeg (t_cooked_6 (x2_6 + 1).toNatClampNeg))))] := hD
        obtain ⟨v3, e_v3⟩ : ∃ y : Int32, y = x2_6 + 1 := ⟨_, rfl⟩
        have h := gl_use e_v3 h
        refine lv_iinc (v := v3) (lv' := [(2, .int v3), (0, .ref a_t)]) hx hb dX0_strikeOut_39 hl (k := 1) rfl (by rw [e_v3]; rfl) (by decide) rfl (fun ls hl => ?_)
        refine lv_goto (tgt := 6) hx hb dX0_strikeOut_42 (by decide) ?_
        exact ih_6 (upd t_cooked_6 x2_6.toNatClampNeg (t_cooked_6 (x2_6 + 1).toNatClampNeg)) (va_up t_texts_6 x2_6.toNatClampNeg (t_texts_6 (x2_6 + 1).toNatClampNeg)) v3 _ _ _ h hP hD hS (lv_sub hl [1, 0] rfl)
  unfold g_X0_strikeOut at h
  refine lv_iload_n hx hb dX0_strikeOut_0 rfl (lv_at hl 1 rfl) ?_
  refine lv_iconst (v := 0) hx hb dX0_strikeOut_1 (by decide) ?_
  refine va_mmax hx hb (hml.trans hl.1.symm) hown (hta _ lm_X0_67) (hta _ mth_maxint_s) (hta _ mth_i) (hta _ mth_maxint_c) (Nat.le_of_ble_eq_true rfl) (Nat.le_of_ble_eq_true rfl) (Nat.le_of_ble_eq_true rfl) (Nat.le_of_ble_eq_true rfl) dX0_strikeOut_2 ?_
  refine lv_topi (fun v1 e_v1 => ?_)
  have h := gl_use e_v1 h
  refine lv_istore_n (lv' := [(2, .int v1), (0, .ref a_t), (1, .int p1)]) hx hb dX0_strikeOut_5 rfl hl (by decide) rfl (fun ls hl => ?_)
  exact wB_6 100 t_cooked t_texts v1 _ _ _ h hP hD hS (lv_sub hl [1, 0] rfl)
set_option maxHeartbeats 4000000 in
set_option maxRecDepth 100000 in
theorem c_X0_settle (l : Launch) (dC : Nat → ClassId) (dI : Nat → Nat → Nat) (cT : Nat → ClassId) {Hh : Heap} {a_t : Nat} {a_p2 : Nat} {a_t_contents : Nat} {a_p2_now : Nat} {a_t_contents_many : Nat} {a_p2_now_many : Nat} {a_t_contents_much : Nat} {a_p2_now_much : Nat} {a_t_cooked : Nat} {a_t_storesIn : Nat} {a_p2_storesIn : Nat} {a_t_isBroth : Nat} {a_t_low : Nat} {a_t_high : Nat} {a_t_texts : Nat} {a_p2_before : Nat} {a_p2_isBroth : Nat} {a_p2_many : Nat} {a_p2_much : Nat} {t_cookedSoFar : Int32} {t_storesSoFar : Int32} {t_contents_many : Nat → Int32} {p2_now_many : Nat → Int32} {t_contents_much : Nat → UInt32} {p2_now_much : Nat → UInt32} {t_cooked : Nat → Int32} {t_storesIn : Nat → Int32} {p2_storesIn : Nat → Int32} {p1 : Int32} {t_cauldrons : Int32} {t_spells : Int32} {p2_boilsAt : Int32} {p2_cause : Int32} {p2_causeDetail : Int32} {p2_spoons : Int32} {o : Int32 × Int32 × (Nat → Int32) × (Nat → UInt32) × (Nat → Int32) × (Nat → Int32)} (h : g_X0_settle t_cookedSoFar t_storesSoFar t_contents_many p2_now_many t_contents_much p2_now_much t_cooked t_storesIn p2_storesIn p1 = some o) (hP0 : va_P (dC, dI) vwCl [(a_t, .inr (4, [.int t_cauldrons, .ref a_t_isBroth, .ref a_t_low, .ref a_t_high, .ref a_t_contents, .ref a_t_storesIn, .int t_spells, .ref a_t_texts, .ref a_t_cooked, .int t_cookedSoFar, .int t_storesSoFar])), (a_t_contents_many, .inl (cT 0, 6, .inl t_contents_many)), (a_t_contents_much, .inl (cT 4, 6, .inr (.inr (.inl t_contents_much)))), (a_t_cooked, .inl (cT 0, 4, .inl t_cooked)), (a_t_storesIn, .inl (cT 0, 6, .inl t_storesIn))] Hh) (hR0 : va_P (dC, dI) vwCl [(a_p2, .inr (6, [.ref a_p2_now, .ref a_p2_storesIn, .int p2_boilsAt, .int p2_cause, .int p2_causeDetail, .ref a_p2_before, .ref a_p2_isBroth, .ref a_p2_many, .ref a_p2_much, .int p2_spoons])), (a_t_contents, .inr (5, [.ref a_t_contents_many, .ref a_t_contents_much])), (a_p2_now, .inr (5, [.ref a_p2_now_many, .ref a_p2_now_much])), (a_p2_now_many, .inl (cT 0, 6, .inl p2_now_many)), (a_p2_now_much, .inl (cT 4, 6, .inr (.inr (.inl p2_now_much)))), (a_p2_storesIn, .inl (cT 0, 6, .inl p2_storesIn))] Hh) (hD0 : va_D (fun _ => True) [(a_t, .inr (4, [.int t_cauldrons, .ref a_t_isBroth, .ref a_t_low, .ref a_t_high, .ref a_t_contents, .ref a_t_storesIn, .int t_spells, .ref a_t_texts, .ref a_t_cooked, .int t_cookedSoFar, .int t_storesSoFar])), (a_t_contents_many, .inl (cT 0, 6, .inl t_contents_many)), (a_t_contents_much, .inl (cT 4, 6, .inr (.inr (.inl t_contents_much)))), (a_t_cooked, .inl (cT 0, 4, .inl t_cooked)), (a_t_storesIn, .inl (cT 0, 6, .inl t_storesIn))]) (hN0 : ∀ (k : Nat) (q : Nat × va_E), ([(a_p2, .inr (6, [.ref a_p2_now, .ref a_p2_storesIn, .int p2_boilsAt, .int p2_cause, .int p2_causeDetail, .ref a_p2_before, .ref a_p2_isBroth, .ref a_p2_many, .ref a_p2_much, .int p2_spoons])), (a_t_contents, .inr (5, [.ref a_t_contents_many, .ref a_t_contents_much])), (a_p2_now, .inr (5, [.ref a_p2_now_many, .ref a_p2_now_much])), (a_p2_now_many, .inl (cT 0, 6, .inl p2_now_many)), (a_p2_now_much, .inl (cT 4, 6, .inr (.inr (.inl p2_now_much)))), (a_p2_storesIn, .inl (cT 0, 6, .inl p2_storesIn))] : va_W)[k]? = some q → ¬ va_A [(a_t, .inr (4, [.int t_cauldrons, .ref a_t_isBroth, .ref a_t_low, .ref a_t_high, .ref a_t_contents, .ref a_t_storesIn, .int t_spells, .ref a_t_texts, .ref a_t_cooked, .int t_cookedSoFar, .int t_storesSoFar])), (a_t_contents_many, .inl (cT 0, 6, .inl t_contents_many)), (a_t_contents_much, .inl (cT 4, 6, .inr (.inr (.inl t_contents_much)))), (a_t_cooked, .inl (cT 0, 4, .inl t_cooked)), (a_t_storesIn, .inl (cT 0, 6, .inl t_storesIn))] Hh.size q.1) : Met l yX0_settle (wA yX0_settle cX0_settle 4 none) ({ frames := 1, cells := 0, slots := 0, locals := 22 } : Room) (PK dC dI cT [.ref a_t, .int p1, .ref a_p2] Hh) (va_Qv (fun (_ : Unit) => True) (fun _ t => va_P (dC, dI) vwCl [(a_t, .inr (4, [.int t_cauldrons, .ref a_t_isBroth, .ref a_t_low, .ref a_t_high, .ref a_t_contents, .ref a_t_storesIn, .int t_spells, .ref a_t_texts, .ref a_t_cooked, .int o.1, .int o.2.1])), (a_t_contents_many, .inl (cT 0, 6, .inl o.2.2.1)), (a_t_contents_much, .inl (cT 4, 6, .inr (.inr (.inl o.2.2.2.1)))), (a_t_cooked, .inl (cT 0, 4, .inl o.2.2.2.2.1)), (a_t_storesIn, .inl (cT 0, 6, .inl o.2.2.2.2.2))] t.heap) (va_A [(a_t, .inr (4, [.int t_cauldrons, .ref a_t_isBroth, .ref a_t_low, .ref a_t_high, .ref a_t_contents, .ref a_t_storesIn, .int t_spells, .ref a_t_texts, .ref a_t_cooked, .int t_cookedSoFar, .int t_storesSoFar])), (a_t_contents_many, .inl (cT 0, 6, .inl t_contents_many)), (a_t_contents_much, .inl (cT 4, 6, .inr (.inr (.inl t_contents_much)))), (a_t_cooked, .inl (cT 0, 4, .inl t_cooked)), (a_t_storesIn, .inl (cT 0, 6, .inl t_storesIn))] Hh.size)) 0 0 (va_A [(a_t, .inr (4, [.int t_cauldrons, .ref a_t_isBroth, .ref a_t_low, .ref a_t_high, .ref a_t_contents, .ref a_t_storesIn, .int t_spells, .ref a_t_texts, .ref a_t_cooked, .int t_cookedSoFar, .int t_storesSoFar])), (a_t_contents_many, .inl (cT 0, 6, .inl t_contents_many)), (a_t_contents_much, .inl (cT 4, 6, .inr (.inr (.inl t_contents_much)))), (a_t_cooked, .inl (cT 0, 4, .inl t_cooked)), (a_t_storesIn, .inl (cT 0, 6, .inl t_storesIn))] Hh.size) := by
  refine Met.ofW (cc := cX0_settle) (maxL := 4) (ret := none) (by decide) rfl ?_
  intro p e s m args below meth c s₁ B hml hv
  obtain ⟨rfl, hH, hK⟩ := hv
  subst hH
  have hx := B.exec
  have hb := B.bytes
  have hr := B.returns
  have hta : ∀ w ∈ ALLW, w.before [.ref a_t, .int p1, .ref a_p2].toArray s = true := fun w hw => atoms_spec (ws := wA yX0_settle cX0_settle 4 none) B.pre w (List.mem_cons_of_mem _ hw)
  have hown : s.vm.findClass RX0 = some m.cls := findClass_of_methodNamed B.named
  have hlocks := B.notSynchronized
  have hD := hD0.self (sz := s.heap.size)
  have hNA := hN0
  generalize hAe : va_A [(a_t, .inr (4, [.int t_cauldrons, .ref a_t_isBroth, .ref a_t_low, .ref a_t_high, .ref a_t_contents, .ref a_t_storesIn, .int t_spells, .ref a_t_texts, .ref a_t_cooked, .int t_cookedSoFar, .int t_storesSoFar])), (a_t_contents_many, .inl (cT 0, 6, .inl t_contents_many)), (a_t_contents_much, .inl (cT 4, 6, .inr (.inr (.inl t_contents_much)))), (a_t_cooked, .inl (cT 0, 4, .inl t_cooked)), (a_t_storesIn, .inl (cT 0, 6, .inl t_storesIn))] s.heap.size = A at hD hNA ⊢
  have hP := hP0
  have hA : ∀ q : Nat, s.heap.size ≤ q → A q := fun q h => by rw [← hAe]; exact Or.inr h
  have hS : va_S A s.heap s.heap [] := va_S.rf
  have hl := lv_entry [.ref a_t, .int p1, .ref a_p2] (n := 4) (Nat.le_of_ble_eq_true rfl)
  rw [lg_entry_eq]
  generalize (lg_sl [.ref a_t, .int p1, .ref a_p2] ++ List.replicate (4 - (lg_sl [.ref a_t, .int p1, .ref a_p2]).length) Slot.unset).toArray = ls at hl ⊢
  have hl : lv_has ls 4 [(0, .ref a_t), (1, .int p1), (2, .ref a_p2)] := hl
  obtain ⟨Q, hQ⟩ : ∃ Q, Q = MQ below (va_Qv (fun (_ : Unit) => True) (fun _ t => va_P (dC, dI) vwCl [(a_t, .inr (4, [.int t_cauldrons, .ref a_t_isBroth, .ref a_t_low, .ref a_t_high, .ref a_t_contents, .ref a_t_storesIn, .int t_spells, .ref a_t_texts, .ref a_t_cooked, .int o.1, .int o.2.1])), (a_t_contents_many, .inl (cT 0, 6, .inl o.2.2.1)), (a_t_contents_much, .inl (cT 4, 6, .inr (.inr (.inl o.2.2.2.1)))), (a_t_cooked, .inl (cT 0, 4, .inl o.2.2.2.2.1)), (a_t_storesIn, .inl (cT 0, 6, .inl o.2.2.2.2.2))] t.heap) A) [.ref a_t, .int p1, .ref a_p2].toArray s 0 0 A := ⟨_, rfl⟩
  rw [← hQ]
  have wB_13 : ∀ (n_13 : Nat), ∀ (t_contents_many_13 : Nat → Int32) (t_contents_much_13 : Nat → UInt32) (t_storesIn_13 : Nat → Int32) (t_storesSoFar_13 : Int32) (x3_13 : Int32) (H : Heap) (locs : List Loc) (ls : Array Slot), g_X0_settle_b13 t_cookedSoFar t_cooked p2_storesIn p1 n_13 t_contents_many_13 t_contents_much_13 t_storesIn_13 t_storesSoFar_13 x3_13 = some o → va_P (dC, dI) vwCl [(a_t, .inr (4, [.int t_cauldrons, .ref a_t_isBroth, .ref a_t_low, .ref a_t_high, .ref a_t_contents, .ref a_t_storesIn, .int t_spells, .ref a_t_texts, .ref a_t_cooked, .int t_cookedSoFar, .int t_storesSoFar_13])), (a_t_contents_many, .inl (cT 0, 6, .inl t_contents_many_13)), (a_t_contents_much, .inl (cT 4, 6, .inr (.inr (.inl t_contents_much_13)))), (a_t_cooked, .inl (cT 0, 4, .inl t_cooked)), (a_t_storesIn, .inl (cT 0, 6, .inl t_storesIn_13))] H → va_D A [(a_t, .inr (4, [.int t_cauldrons, .ref a_t_isBroth, .ref a_t_low, .ref a_t_high, .ref a_t_contents, .ref a_t_storesIn, .int t_spells, .ref a_t_texts, .ref a_t_cooked, .int t_cookedSoFar, .int t_storesSoFar_13])), (a_t_contents_many, .inl (cT 0, 6, .inl t_contents_many_13)), (a_t_contents_much, .inl (cT 4, 6, .inr (.inr (.inl t_contents_much_13)))), (a_t_cooked, .inl (cT 0, 4, .inl t_cooked)), (a_t_storesIn, .inl (cT 0, 6, .inl t_storesIn_13))] → va_S A s.heap H locs → lv_has ls 4 [(0, .ref a_t), (1, .int p1), (2, .ref a_p2), (3, .int x3_13)] → W p l e ({ frames := 1, cells := 0, slots := 0, locals := 22 } : Room) s m [.ref a_t, .int p1, .ref a_p2].toArray below meth c H locs 0 0 Q (F0 m 13 ls []) := by
    intro n_13
    induction n_13 with
    | zero =>
      intro t_contents_many_13 t_contents_much_13 t_storesIn_13 t_storesSoFar_13 x3_13 H locs ls h hP hD hS hl
      simp [g_X0_settle_b13] at h
    | succ n_13 ih_13 =>
      intro t_contents_many_13 t_contents_much_13 t_storesIn_13 t_storesSoFar_13 x3_13 H locs ls h hP hD hS hl
      rw [g_X0_settle_b13] at h
      refine lv_iload_n hx hb dX0_settle_13 rfl (lv_at hl 3 rfl) ?_
      refine lv_bipush (v := 6) hx hb dX0_settle_14 (by decide) ?_
      refine lv_icmp_ge (tgt := 55) hx hb dX0_settle_16 (by decide) (fun c0 => ?_) (fun c0 => ?_)
      · have h := (if_pos c0).symm.trans h
        refine lv_aload_n hx hb dX0_settle_55 rfl (lv_at hl 0 rfl) ?_
        refine va_get (D := (dC, dI)) (ci := 4) (v := .ref a_t_cooked) (C := RX0) (T := TX0) (N := 11) hx hb hta inX0w hown hK hP 0 rfl rfl 8 (by decide) (hta _ lk_X0_38) (fun _ h9 => h9) rfl dX0_settle_56 ?_
        refine lv_iload_n hx hb dX0_settle_59 rfl (lv_at hl 1 rfl) ?_
        refine lv_dup2_11 hx hb dX0_settle_60 rfl rfl ?_
        obtain ⟨hc, h⟩ := gc_some h
        refine va_iald hx hb hK hP 3 0 rfl rfl (inb_in hc) dX0_settle_61 ?_
        refine lv_iconst (v := 1) hx hb dX0_settle_62 (by decide) ?_
        refine lv_iadd hx hb dX0_settle_63 ?_
        obtain ⟨hc, h⟩ := gc_some h
        refine va_iast hx hb hK hP hD hS 3 0 rfl rfl (inb_in hc) dX0_settle_64 (fun H locs hP hD hS => ?_)
        have hP : va_P (dC, dI) vwCl [(a_t, .inr (4, [.int t_cauldrons, .ref a_t_isBroth, .ref a_t_low, .ref a_t_high, .ref a_t_contents, .ref a_t_storesIn, .int t_spells, .ref a_t_texts, .ref a_t_cooked, .int t_cookedSoFar, .int t_storesSoFar_13])), (a_t_contents_many, .inl (cT 0, 6, .inl t_contents_many_13)), (a_t_contents_much, .inl (cT 4, 6, .inr (.inr (.inl t_contents_much_13)))), (a_t_cooked, .inl (cT 0, 4, .inl (upd t_cooked p1.toNatClampNeg ((t_cooked p1.toNatClampNeg) + 1)))), (a_t_storesIn, .inl (cT 0, 6, .inl t_storesIn_13))] H := hP
        have hD : va_D A [(a_t, .inr (4, [.int t_cauldrons, .ref a_t_isBroth, .ref a_t_low, .ref a_t_high, .ref a_t_contents, .ref a_t_storesIn, .int t_spells, .ref a_t_texts, .ref a_t_cooked, .int t_cookedSoFar, .int t_storesSoFar_13])), (a_t_contents_many, .inl (cT 0, 6, .inl t_contents_many_13)), (a_t_contents_much, .inl (cT 4, 6, .inr (.inr (.inl t_contents_much_13)))), (a_t_cooked, .inl (cT 0, 4, .inl (upd t_cooked p1.toNatClampNeg ((t_cooked p1.toNatClampNeg) + 1)))), (a_t_storesIn, .inl (cT 0, 6, .inl t_storesIn_13))] := hD
        refine lv_aload_n hx hb dX0_settle_65 rfl (lv_at hl 0 rfl) ?_
        refine lv_dup hx hb dX0_settle_66 rfl ?_
        refine va_get (D := (dC, dI)) (ci := 4) (v := .int t_cookedSoFar) (C := RX0) (T := TX0) (N := 11) hx hb hta inX0w hown hK hP 0 rfl rfl 9 (by decide) (hta _ lk_X0_52) (fun _ h9 => h9) rfl dX0_settle_67 ?_
        refine lv_iconst (v := 1) hx hb dX0_settle_70 (by decide) ?_
        refine lv_iadd hx hb dX0_settle_71 ?_
        refine lv_topi (fun v2 e_v2 => ?_)
        have h := gl_use e_v2 h
        refine va_put (D := (dC, dI)) (ci := 4) (v := .int v2) (ty := .int) (C := RX0) (T := TX0) (N := 11) hx hb hta inX0w tyX0 tyX0_ok nmX0 hown hK hP hD hS 0 rfl rfl 9 (by decide) (hta _ lk_X0_52) (fun _ h9 => h9) rfl (by decide +kernel) rfl rfl (Nat.le_of_ble_eq_true rfl) dX0_settle_72 (fun H locs hP hD hS => ?_)
        have hP : va_P (dC, dI) vwCl [(a_t, .inr (4, [.int t_cauldrons, .ref a_t_isBroth, .ref a_t_low, .ref a_t_high, .ref a_t_contents, .ref a_t_storesIn, .int t_spells, .ref a_t_texts, .ref a_t_cooked, .int v2, .int t_storesSoFar_13])), (a_t_contents_many, .inl (cT 0, 6, .inl t_contents_many_13)), (a_t_contents_much, .inl (cT 4, 6, .inr (.inr (.inl t_contents_much_13)))), (a_t_cooked, .inl (cT 0, 4, .inl (upd t_cooked p1.toNatClampNeg ((t_cooked p1.toNatClampNeg) + 1)))), (a_t_storesIn, .inl (cT 0, 6, .inl t_storesIn_13))] H := hP
        have hD : va_D A [(a_t, .inr (4, [.int t_cauldrons, .ref a_t_isBroth, .ref a_t_low, .ref a_t_high, .ref a_t_contents, .ref a_t_storesIn, .int t_spells, .ref a_t_texts, .ref a_t_cooked, .int v2, .int t_storesSoFar_13])), (a_t_contents_many, .inl (cT 0, 6, .inl t_contents_many_13)), (a_t_contents_much, .inl (cT 4, 6, .inr (.inr (.inl t_contents_much_13)))), (a_t_cooked, .inl (cT 0, 4, .inl (upd t_cooked p1.toNatClampNeg ((t_cooked p1.toNatClampNeg) + 1)))), (a_t_storesIn, .inl (cT 0, 6, .inl t_storesIn_13))] := hD
        have ho := Option.some.inj h
        rw [hQ]
        exact W.vret hx hb hr (fun t ht hW => ⟨⟨(), rfl, trivial, by show va_P (dC, dI) vwCl _ t.heap; rw [ht, ← ho]; exact hP⟩, hS.F ht⟩) hS.2.2 dX0_settle_75
      · have h := (if_neg c0).symm.trans h
        refine lv_aload_n hx hb dX0_settle_19 rfl (lv_at hl 0 rfl) ?_
        refine va_get (D := (dC, dI)) (ci := 4) (v := .ref a_t_storesIn) (C := RX0) (T := TX0) (N := 11) hx hb hta inX0w hown hK hP 0 rfl rfl 5 (by decide) (hta _ lk_X0_29) (fun _ h9 => h9) rfl dX0_settle_20 ?_
        refine lv_iload_n hx hb dX0_settle_23 rfl (lv_at hl 3 rfl) ?_
        refine lv_dup2_11 hx hb dX0_settle_24 rfl rfl ?_
        obtain ⟨hc, h⟩ := gc_some h
        refine va_iald hx hb hK hP 4 0 rfl rfl (inb_in hc) dX0_settle_25 ?_
        refine lv_aload_n hx hb dX0_settle_26 rfl (lv_at hl 2 rfl) ?_
        refine va_get (D := (dC, dI)) (ci := 6) (v := .ref a_p2_storesIn) (C := RX2) (T := TX2) (N := 10) hx hb hta inX2w hown hK (rk hR0 hNA hS) 0 rfl rfl 1 (by decide) (hta _ lk_X0_83) (fun _ h9 => h9) rfl dX0_settle_27 ?_
        refine lv_iload_n hx hb dX0_settle_30 rfl (lv_at hl 3 rfl) ?_
        obtain ⟨hc, h⟩ := gc_some h
        refine va_iald hx hb hK (rk hR0 hNA hS) 5 0 rfl rfl (inb_in hc) dX0_settle_31 ?_
        refine lv_iadd hx hb dX0_settle_32 ?_
        obtain ⟨hc, h⟩ := gc_some h
        refine va_iast hx hb hK hP hD hS 4 0 rfl rfl (inb_in hc) dX0_settle_33 (fun H locs hP hD hS => ?_)
        have hP : va_P (dC, dI) vwCl [(a_t, .inr (4, [.int t_cauldrons, .ref a_t_isBroth, .ref a_t_low, .ref a_t_high, .ref a_t_contents, .ref a_t_storesIn, .int t_spells, .ref a_t_texts, .ref a_t_cooked, .int t_cookedSoFar, .int t_storesSoFar_13])), (a_t_contents_many, .inl (cT 0, 6, .inl t_contents_many_13)), (a_t_contents_much, .inl (cT 4, 6, .inr (.inr (.inl t_contents_much_13)))), (a_t_cooked, .inl (cT 0, 4, .inl t_cooked)), (a_t_storesIn, .inl (cT 0, 6, .inl (upd t_storesIn_13 x3_13.toNatClampNeg ((t_storesIn_13 x3_13.toNatClampNeg) + (p2_storesIn x3_13.toNatClampNeg)))))] H := hP
        have hD : va_D A [(a_t, .inr (4, [.int t_cauldrons, .ref a_t_isBroth, .ref a_t_low, .ref a_t_high, .ref a_t_contents, .ref a_t_storesIn, .int t_spells, .ref a_t_texts, .ref a_t_cooked, .int t_cookedSoFar, .int t_storesSoFar_13])), (a_t_contents_many, .inl (cT 0, 6, .inl t_contents_many_13)), (a_t_contents_much, .inl (cT 4, 6, .inr (.inr (.inl t_contents_much_13)))), (a_t_cooked, .inl (cT 0, 4, .inl t_cooked)), (a_t_storesIn, .inl (cT 0, 6, .inl (upd t_storesIn_13 x3_13.toNatClampNeg ((t_storesIn_13 x3_13.toNatClampNeg) + (p2_storesIn x3_13.toNatClampNeg)))))] := hD
        refine lv_aload_n hx hb dX0_settle_34 rfl (lv_at hl 0 rfl) ?_
        refine lv_dup hx hb dX0_settle_35 rfl ?_
        refine va_get (D := (dC, dI)) (ci := 4) (v := .int t_storesSoFar_13) (C := RX0) (T := TX0) (N := 11) hx hb hta inX0w hown hK hP 0 rfl rfl 10 (by decide) (hta _ lk_X0_55) (fun _ h9 => h9) rfl dX0_settle_36 ?_
        refine lv_aload_n hx hb dX0_settle_39 rfl (lv_at hl 2 rfl) ?_
        refine va_get (D := (dC, dI)) (ci := 6) (v := .ref a_p2_storesIn) (C := RX2) (T := TX2) (N := 10) hx hb hta inX2w hown hK (rk hR0 hNA hS) 0 rfl rfl 1 (by decide) (hta _ lk_X0_83) (fun _ h9 => h9) rfl dX0_settle_40 ?_
        refine lv_iload_n hx hb dX0_settle_43 rfl (lv_at hl 3 rfl) ?_
        obtain ⟨hc, h⟩ := gc_some h
        refine va_iald hx hb hK (rk hR0 hNA hS) 5 0 rfl rfl (inb_in hc) dX0_settle_44 ?_
        refine lv_iadd hx hb dX0_settle_45 ?_
        refine lv_topi (fun v3 e_v3 => ?_)
        have h := gl_use e_v3 h
        refine va_put (D := (dC, dI)) (ci := 4) (v := .int v3) (ty := .int) (C := RX0) (T := TX0) (N := 11) hx hb hta inX0w tyX0 tyX0_ok nmX0 hown hK hP hD hS 0 rfl rfl 10 (by decide) (hta _ lk_X0_55) (fun _ h9 => h9) rfl (by decide +kernel) rfl rfl (Nat.le_of_ble_eq_true rfl) dX0_settle_46 (fun H locs hP hD hS => ?_)
        have hP : va_P (dC, dI) vwCl [(a_t, .inr (4, [.int t_cauldrons, .ref a_t_isBroth, .ref a_t_low, .ref a_t_high, .ref a_t_contents, .ref a_t_storesIn, .int t_spells, .ref a_t_texts, .ref a_t_cooked, .int t_cookedSoFar, .int v3])), (a_t_contents_many, .inl (cT 0, 6, .inl t_contents_many_13)), (a_t_contents_much, .inl (cT 4, 6, .inr (.inr (.inl t_contents_much_13)))), (a_t_cooked, .inl (cT 0, 4, .inl t_cooked)), (a_t_storesIn, .inl (cT 0, 6, .inl (upd t_storesIn_13 x3_13.toNatClampNeg ((t_storesIn_13 x3_13.toNatClampNeg) + (p2_storesIn x3_13.toNatClampNeg)))))] H := hP
        have hD : va_D A [(a_t, .inr (4, [.int t_cauldrons, .ref a_t_isBroth, .ref a_t_low, .ref a_t_high, .ref a_t_contents, .ref a_t_storesIn, .int t_spells, .ref a_t_texts, .ref a_t_cooked, .int t_cookedSoFar, .int v3])), (a_t_contents_many, .inl (cT 0, 6, .inl t_contents_many_13)), (a_t_contents_much, .inl (cT 4, 6, .inr (.inr (.inl t_contents_much_13)))), (a_t_cooked, .inl (cT 0, 4, .inl t_cooked)), (a_t_storesIn, .inl (cT 0, 6, .inl (upd t_storesIn_13 x3_13.toNatClampNeg ((t_storesIn_13 x3_13.toNatClampNeg) + (p2_storesIn x3_13.toNatClampNeg)))))] := hD
        obtain ⟨v4, e_v4⟩ : ∃ y : Int32, y = x3_13 + 1 := ⟨_, rfl⟩
        have h := gl_use e_v4 h
        refine lv_iinc (v := v4) (lv' := [(3, .int v4), (0, .ref a_t), (1, .int p1), (2, .ref a_p2)]) hx hb dX0_settle_49 hl (k := 3) rfl (by rw [e_v4]; rfl) (by decide) rfl (fun ls hl => ?_)
        refine lv_goto (tgt := 13) hx hb dX0_settle_52 (by decide) ?_
        exact ih_13 t_contents_many_13 t_contents_much_13 (upd t_storesIn_13 x3_13.toNatClampNeg ((t_storesIn_13 x3_13.toNatClampNeg) + (p2_storesIn x3_13.toNatClampNeg))) v3 v4 _ _ _ h hP hD hS (lv_sub hl [1, 2, 3, 0] rfl)
  unfold g_X0_settle at h
  refine lv_aload_n hx hb dX0_settle_0 rfl (lv_at hl 0 rfl) ?_
  refine va_get (D := (dC, dI)) (ci := 4) (v := .ref a_t_contents) (C := RX0) (T := TX0) (N := 11) hx hb hta inX0w hown hK hP 0 rfl rfl 4 (by decide) (hta _ lk_X0_25) (fun _ h9 => h9) rfl dX0_settle_1 ?_
  refine lv_aload_n hx hb dX0_settle_4 rfl (lv_at hl 2 rfl) ?_
  refine va_get (D := (dC, dI)) (ci := 6) (v := .ref a_p2_now) (C := RX2) (T := TX2) (N := 10) hx hb hta inX2w hown hK (rk hR0 hNA hS) 0 rfl rfl 0 (by decide) (hta _ lk_X0_78) (fun _ h9 => h9) rfl dX0_settle_5 ?_
  obtain ⟨r1, hq, h⟩ := gb_some h
  refine cxV (X2 := [(a_t, .inr (4, [.int t_cauldrons, .ref a_t_isBroth, .ref a_t_low, .ref a_t_high, .ref a_t_contents, .ref a_t_storesIn, .int t_spells, .ref a_t_texts, .ref a_t_cooked, .int t_cookedSoFar, .int t_storesSoFar])), (a_t_contents_many, .inl (cT 0, 6, .inl r1.1)), (a_t_contents_much, .inl (cT 4, 6, .inr (.inr (.inl r1.2)))), (a_t_cooked, .inl (cT 0, 4, .inl t_cooked)), (a_t_storesIn, .inl (cT 0, 6, .inl t_storesIn))]) (va_runV (As := [.ref a_p2_now]) (rest := []) ⟨hx, hb, hml, hown, hta⟩ (c_X1_copy l dC dI cT hq (hP.sub (ws' := [(a_t_contents_many, .inl (cT 0, 6, .inl t_contents_many)), (a_t_contents_much, .inl (cT 4, 6, .inr (.inr (.inl t_contents_much))))]) [1, 2] rfl) ((va_P.app hP (rk hR0 hNA hS)).sub (ws' := [(a_t_contents, .inr (5, [.ref a_t_contents_many, .ref a_t_contents_much])), (a_p2_now, .inr (5, [.ref a_p2_now_many, .ref a_p2_now_much])), (a_p2_now_many, .inl (cT 0, 6, .inl p2_now_many)), (a_p2_now_much, .inl (cT 4, 6, .inr (.inr (.inl p2_now_much))))]) [6, 7, 8, 9] rfl) (ds hD [1, 2] (by decide) rfl) (nac hP hD [1, 2] rfl (va_free hD hS hA [1, 2] rfl) hNA [.inl 1, .inl 2, .inl 3, .inl 4] rfl rfl)) (cV hta lm_X0_45 md_X1_copy ⟨(Nat.le_of_ble_eq_true rfl), (Nat.le_of_ble_eq_true rfl)⟩) ⟨fbK, va_recv hK (rk hR0 hNA hS) (ci := 5) (q0 := 1) rfl rfl, fun U hU hW => ⟨rfl, hU, va_K.moved hW.alike hK⟩⟩ rfl rfl hl.1 rfl (lv_room (Nat.le_of_ble_eq_true rfl)) dX0_settle_8 ⟨(Nat.le_of_ble_eq_true rfl), (Nat.le_of_ble_eq_true rfl)⟩) hS hA hP hD [1, 2] rfl [.inr 0, .inl 0, .inl 1, .inr 3, .inr 4] rfl rfl rfl (fun H locs hP hD hS => ?_)
  refine lv_iconst (v := 0) hx hb dX0_settle_11 (by decide) ?_
  refine lv_istore_n (lv' := [(3, .int 0), (0, .ref a_t), (1, .int p1), (2, .ref a_p2)]) hx hb dX0_settle_12 rfl hl (by decide) rfl (fun ls hl => ?_)
  exact wB_13 100 r1.1 r1.2 t_storesIn t_storesSoFar 0 _ _ _ h hP hD hS (lv_sub hl [1, 2, 3, 0] rfl)
set_option maxHeartbeats 4000000 in
set_option maxRecDepth 100000 in
theorem c_X0_spellsThat (l : Launch) (dC : Nat → ClassId) (dI : Nat → Nat → Nat) (cT : Nat → ClassId) {Hh : Heap} {sq : Nat → Nat → Nat} {a_t : Nat} {a_t_texts : Nat} {a_t_isBroth : Nat} {a_t_low : Nat} {a_t_high : Nat} {a_t_contents : Nat} {a_t_storesIn : Nat} {a_t_cooked : Nat} {LS : List Nat} {SE : Nat → SV} {t_spells : Int32} {t_texts : Nat → Option Nat} {p1 : Int32} {p2 : Int32} {t_cauldrons : Int32} {t_cookedSoFar : Int32} {t_storesSoFar : Int32} {o : Int32} (h : g_X0_spellsThat LS SE t_spells t_texts p1 p2 = some o) (hR0 : va_P (dC, dI) vwCl [(a_t, .inr (4, [.int t_cauldrons, .ref a_t_isBroth, .ref a_t_low, .ref a_t_high, .ref a_t_contents, .ref a_t_storesIn, .int t_spells, .ref a_t_texts, .ref a_t_cooked, .int t_cookedSoFar, .int t_storesSoFar])), (a_t_texts, .inl (cT 7, 4, .inr (.inr (.inr (.inr t_texts)))))] Hh) (hSP : ∀ a ∈ LS, va_P (dC, dI) vwCl (spc cT sq SE a) Hh) : Met l yX0_spellsThat (wA yX0_spellsThat cX0_spellsThat 6 (some .int)) ({ frames := 2, cells := 0, slots := 0, locals := 45 } : Room) (PK dC dI cT [.ref a_t, .int p1, .int p2] Hh) (va_Qi (fun x (_ : Unit) => x = o) (fun _ t => t.heap = Hh) (va_A [] Hh.size)) 0 0 (va_A [] Hh.size) := by
  refine Met.ofW (cc := cX0_spellsThat) (maxL := 6) (ret := (some .int)) (by decide) rfl ?_
  intro p e s m args below meth c s₁ B hml hv
  obtain ⟨rfl, hH, hK⟩ := hv
  subst hH
  have hx := B.exec
  have hb := B.bytes
  have hr := B.returns
  have hta : ∀ w ∈ ALLW, w.before [.ref a_t, .int p1, .int p2].toArray s = true := fun w hw => atoms_spec (ws := wA yX0_spellsThat cX0_spellsThat 6 (some .int)) B.pre w (List.mem_cons_of_mem _ hw)
  have hown : s.vm.findClass RX0 = some m.cls := findClass_of_methodNamed B.named
  have hlocks := B.notSynchronized
  generalize hAe : va_A [] s.heap.size = A
  have hA : ∀ q : Nat, s.heap.size ≤ q → A q := fun q h => by rw [← hAe]; exact Or.inr h
  have hS : va_S A s.heap s.heap [] := va_S.rf
  have hl := lv_entry [.ref a_t, .int p1, .int p2] (n := 6) (Nat.le_of_ble_eq_true rfl)
  rw [lg_entry_eq]
  generalize (lg_sl [.ref a_t, .int p1, .int p2] ++ List.replicate (6 - (lg_sl [.ref a_t, .int p1, .int p2]).length) Slot.unset).toArray = ls at hl ⊢
  have hl : lv_has ls 6 [(0, .ref a_t), (1, .int p1), (2, .int p2)] := hl
  obtain ⟨Q, hQ⟩ : ∃ Q, Q = MQ below (va_Qi (fun x (_ : Unit) => x = o) (fun _ t => t.heap = s.heap) A) [.ref a_t, .int p1, .int p2].toArray s 0 0 A := ⟨_, rfl⟩
  rw [← hQ]
  have wB_5 : ∀ (n_5 : Nat), ∀ (x3_5 : Int32) (x4_5 : Int32) (locs : List Loc) (ls : Array Slot), g_X0_spellsThat_b5 LS SE t_spells t_texts p1 p2 n_5 x3_5 x4_5 = some o → va_S A s.heap s.heap locs → lv_has ls 6 [(0, .ref a_t), (1, .int p1), (2, .int p2), (3, .int x3_5), (4, .int x4_5)] → W p l e ({ frames := 2, cells := 0, slots := 0, locals := 45 } : Room) s m [.ref a_t, .int p1, .int p2].toArray below meth c s.heap locs 0 0 Q (F0 m 5 ls []) := by
    intro n_5
    induction n_5 with
    | zero =>
      intro x3_5 x4_5 locs ls h hS hl
      simp [g_X0_spellsThat_b5] at h
    | succ n_5 ih_5 =>
      have wB_46 : ∀ (x3_46 : Int32) (x4_46 : Int32) (locs : List Loc) (ls : Array Slot), g_X0_spellsThat_b46 LS SE t_spells t_texts p1 p2 (g_X0_spellsThat_b5 LS SE t_spells t_texts p1 p2 n_5) x3_46 x4_46 = some o → va_S A s.heap s.heap locs → lv_has ls 6 [(0, .ref a_t), (1, .int p1), (2, .int p2), (3, .int x3_46), (4, .int x4_46)] → W p l e ({ frames := 2, cells := 0, slots := 0, locals := 45 } : Room) s m [.ref a_t, .int p1, .int p2].toArray below meth c s.heap locs 0 0 Q (F0 m 46 ls []) := by
        intro x3_46 x4_46 locs ls h hS hl
        unfold g_X0_spellsThat_b46 at h
        obtain ⟨v1, e_v1⟩ : ∃ y : Int32, y = x4_46 + 1 := ⟨_, rfl⟩
        have h := gl_use e_v1 h
        refine lv_iinc (v := v1) (lv' := [(4, .int v1), (0, .ref a_t), (1, .int p1), (2, .int p2), (3, .int x3_46)]) hx hb dX0_spellsThat_46 hl (k := 4) rfl (by rw [e_v1]; rfl) (by decide) rfl (fun ls hl => ?_)
        refine lv_goto (tgt := 5) hx hb dX0_spellsThat_49 (by decide) ?_
        exact ih_5 x3_46 v1 _ _ h hS (lv_sub hl [1, 2, 3, 4, 0] rfl)
      intro x3_5 x4_5 locs ls h hS hl
      rw [g_X0_spellsThat_b5] at h
      refine lv_iload hx hb dX0_spellsThat_5 (lv_at hl 4 rfl) ?_
      refine lv_aload_n hx hb dX0_spellsThat_7 rfl (lv_at hl 0 rfl) ?_
      refine va_get (D := (dC, dI)) (ci := 4) (v := .int t_spells) (C := RX0) (T := TX0) (N := 11) hx hb hta inX0w hown hK hR0 0 rfl rfl 6 (by decide) (hta _ lk_X0_49) (fun _ h9 => h9) rfl dX0_spellsThat_8 ?_
      refine lv_icmp_ge (tgt := 52) hx hb dX0_spellsThat_11 (by decide) (fun c0 => ?_) (fun c0 => ?_)
      · have h := (if_pos c0).symm.trans h
        refine lv_iload_n hx hb dX0_spellsThat_52 rfl (lv_at hl 3 rfl) ?_
        have ho := Option.some.inj h
        rw [hQ]
        exact W.iret (v := x3_5) hx hb hr (fun t ht hW => ⟨⟨x3_5, (), rfl, by rw [← ho], ht⟩, hS.F ht⟩) hS.2.2 dX0_spellsThat_53
      · have h := (if_neg c0).symm.trans h
        refine lv_aload_n hx hb dX0_spellsThat_14 rfl (lv_at hl 0 rfl) ?_
        refine lv_iload hx hb dX0_spellsThat_15 (lv_at hl 4 rfl) ?_
        obtain ⟨r2, hq, h⟩ := gb_some h
        refine crO (va_runV (As := [.int x4_5]) (rest := []) ⟨hx, hb, hml, hown, hta⟩ (c_X0_spellAt l dC dI cT hq (hR0.sub (ws' := [(a_t, .inr (4, [.int t_cauldrons, .ref a_t_isBroth, .ref a_t_low, .ref a_t_high, .ref a_t_contents, .ref a_t_storesIn, .int t_spells, .ref a_t_texts, .ref a_t_cooked, .int t_cookedSoFar, .int t_storesSoFar])), (a_t_texts, .inl (cT 7, 4, .inr (.inr (.inr (.inr t_texts)))))]) [0, 1] rfl)) (cV hta lm_X0_84 md_X0_spellAt ⟨(Nat.le_of_ble_eq_true rfl), (Nat.le_of_ble_eq_true rfl)⟩) ⟨fbK, va_recv hK hR0 (ci := 4) (q0 := 0) rfl rfl, fun U hU hW => ⟨rfl, hU, va_K.moved hW.alike hK⟩⟩ rfl rfl hl.1 rfl (lv_room (Nat.le_of_ble_eq_true rfl)) dX0_spellsThat_17 ⟨(Nat.le_of_ble_eq_true rfl), (Nat.le_of_ble_eq_true rfl)⟩) hS hA (fun locs hS => ?_)
        refine lv_splitO (fun e0 => ?_) (fun a_y17 e0 => ?_)
        · have h := go_none e0 h
          refine lv_astoreN (lv' := [(5, .null), (0, .ref a_t), (1, .int p1), (2, .int p2), (3, .int x3_5), (4, .int x4_5)]) hx hb dX0_spellsThat_20 hl (by decide) rfl (fun ls hl => ?_)
          refine lv_aloadN hx hb dX0_spellsThat_22 (lv_at hl 0 rfl) ?_
          refine lv_ifnullN (tgt := 46) hx hb dX0_spellsThat_24 (by decide) ?_
          exact wB_46 x3_5 x4_5 _ _ h hS (lv_sub hl [1, 2, 3, 4, 5] rfl)
        · have h := go_some e0 h
          obtain ⟨hm, h⟩ := gc_some h
          have hs_a_y17 := inl9_in hm
          refine lv_astore (lv' := [(5, .ref a_y17), (0, .ref a_t), (1, .int p1), (2, .int p2), (3, .int x3_5), (4, .int x4_5)]) hx hb dX0_spellsThat_20 hl (by decide) rfl (fun ls hl => ?_)
          refine lv_aload hx hb dX0_spellsThat_22 (lv_at hl 0 rfl) ?_
          refine lv_ifnull hx hb dX0_spellsThat_24 ?_
          refine lv_aload hx hb dX0_spellsThat_27 (lv_at hl 0 rfl) ?_
          refine lv_iload_n hx hb dX0_spellsThat_29 rfl (lv_at hl 2 rfl) ?_
          refine lv_iload_n hx hb dX0_spellsThat_30 rfl (lv_at hl 3 rfl) ?_
          refine lv_aload hx hb dX0_spellsThat_31 (lv_at hl 0 rfl) ?_
          refine va_get (D := (dC, dI)) (ci := 11) (v := .int ((SE a_y17).2.2.1)) (C := RX8) (T := TX8) (N := 9) hx hb hta inX8w hown hK (hSP a_y17 hs_a_y17) 0 rfl rfl 1 (by decide) (hta _ lk_X0_88) (fun _ h9 => h9) rfl dX0_spellsThat_33 ?_
          obtain ⟨r3, hq, h⟩ := gb_some h
          refine crI (va_runV (As := [.int p1, .int p2, .int ((SE a_y17).2.2.1)]) (rest := []) ⟨hx, hb, hml, hown, hta⟩ (c_X8_lastAhead l dC dI cT hq ((hSP a_y17 hs_a_y17).sub (ws' := [(a_y17, .inr (11, [.ref (sq a_y17 0), .int (SE a_y17).2.2.1, .int (SE a_y17).2.2.2.1, .int (SE a_y17).2.2.2.2.1, .ref (sq a_y17 1), .ref (sq a_y17 2), .ref (sq a_y17 3), .ref (sq a_y17 4), .ref (sq a_y17 5)])), ((sq a_y17 2), .inl (cT 0, 24, .inl (SE a_y17).2.2.2.2.2.2.1)), ((sq a_y17 3), .inl (cT 0, 24, .inl (SE a_y17).2.2.2.2.2.2.2.1))]) [0, 3, 4] rfl)) (cV hta lm_X0_91 md_X8_lastAhead ⟨(Nat.le_of_ble_eq_true rfl), (Nat.le_of_ble_eq_true rfl)⟩) ⟨fbK, va_recv hK (hSP a_y17 hs_a_y17) (ci := 11) (q0 := 0) rfl rfl, fun U hU hW => ⟨rfl, hU, va_K.moved hW.alike hK⟩⟩ rfl rfl hl.1 rfl (lv_room (Nat.le_of_ble_eq_true rfl)) dX0_spellsThat_36 ⟨(Nat.le_of_ble_eq_true rfl), (Nat.le_of_ble_eq_true rfl)⟩) hS hA (fun locs hS => ?_)
          refine lv_iconst (v := -1) hx hb dX0_spellsThat_39 (by decide) ?_
          refine lv_icmp_eq (tgt := 46) hx hb dX0_spellsThat_40 (by decide) (fun c0 => ?_) (fun c0 => ?_)
          · have h := (if_pos c0).symm.trans h
            exact wB_46 x3_5 x4_5 _ _ h hS (lv_sub hl [1, 2, 3, 4, 5] rfl)
          · have h := (if_neg c0).symm.trans h
            obtain ⟨v4, e_v4⟩ : ∃ y : Int32, y = x3_5 + 1 := ⟨_, rfl⟩
            have h := gl_use e_v4 h
            refine lv_iinc (v := v4) (lv' := [(3, .int v4), (5, .ref a_y17), (0, .ref a_t), (1, .int p1), (2, .int p2), (4, .int x4_5)]) hx hb dX0_spellsThat_43 hl (k := 4) rfl (by rw [e_v4]; rfl) (by decide) rfl (fun ls hl => ?_)
            exact wB_46 v4 x4_5 _ _ h hS (lv_sub hl [2, 3, 4, 0, 5] rfl)
  unfold g_X0_spellsThat at h
  refine lv_iconst (v := 0) hx hb dX0_spellsThat_0 (by decide) ?_
  refine lv_istore_n (lv' := [(3, .int 0), (0, .ref a_t), (1, .int p1), (2, .int p2)]) hx hb dX0_spellsThat_1 rfl hl (by decide) rfl (fun ls hl => ?_)
  refine lv_iconst (v := 0) hx hb dX0_spellsThat_2 (by decide) ?_
  refine lv_istore (lv' := [(4, .int 0), (3, .int 0), (0, .ref a_t), (1, .int p1), (2, .int p2)]) hx hb dX0_spellsThat_3 hl (by decide) rfl (fun ls hl => ?_)
  exact wB_5 100 0 0 _ _ h hS (lv_sub hl [2, 3, 4, 1, 0] rfl)
set_option maxHeartbeats 4000000 in
set_option maxRecDepth 100000 in
theorem c_X0_comesAhead (l : Launch) (dC : Nat → ClassId) (dI : Nat → Nat → Nat) (cT : Nat → ClassId) {Hh : Heap} {sq : Nat → Nat → Nat} {a_t : Nat} {a_t_texts : Nat} {a_t_isBroth : Nat} {a_t_low : Nat} {a_t_high : Nat} {a_t_contents : Nat} {a_t_storesIn : Nat} {a_t_cooked : Nat} {LS : List Nat} {SE : Nat → SV} {t_spells : Int32} {t_texts : Nat → Option Nat} {p1 : Int32} {p2 : Int32} {t_cauldrons : Int32} {t_cookedSoFar : Int32} {t_storesSoFar : Int32} {o : Int32} (h : g_X0_comesAhead LS SE t_spells t_texts p1 p2 = some o) (hR0 : va_P (dC, dI) vwCl [(a_t, .inr (4, [.int t_cauldrons, .ref a_t_isBroth, .ref a_t_low, .ref a_t_high, .ref a_t_contents, .ref a_t_storesIn, .int t_spells, .ref a_t_texts, .ref a_t_cooked, .int t_cookedSoFar, .int t_storesSoFar])), (a_t_texts, .inl (cT 7, 4, .inr (.inr (.inr (.inr t_texts)))))] Hh) (hSP : ∀ a ∈ LS, va_P (dC, dI) vwCl (spc cT sq SE a) Hh) : Met l yX0_comesAhead (wA yX0_comesAhead cX0_comesAhead 5 (some .boolean)) ({ frames := 1, cells := 0, slots := 0, locals := 21 } : Room) (PK dC dI cT [.ref a_t, .int p1, .int p2] Hh) (va_Qi (fun x (_ : Unit) => x = o) (fun _ t => t.heap = Hh) (va_A [] Hh.size)) 0 0 (va_A [] Hh.size) := by
  refine Met.ofW (cc := cX0_comesAhead) (maxL := 5) (ret := (some .boolean)) (by decide) rfl ?_
  intro p e s m args below meth c s₁ B hml hv
  obtain ⟨rfl, hH, hK⟩ := hv
  subst hH
  have hx := B.exec
  have hb := B.bytes
  have hr := B.returns
  have hta : ∀ w ∈ ALLW, w.before [.ref a_t, .int p1, .int p2].toArray s = true := fun w hw => atoms_spec (ws := wA yX0_comesAhead cX0_comesAhead 5 (some .boolean)) B.pre w (List.mem_cons_of_mem _ hw)
  have hown : s.vm.findClass RX0 = some m.cls := findClass_of_methodNamed B.named
  have hlocks := B.notSynchronized
  generalize hAe : va_A [] s.heap.size = A
  have hA : ∀ q : Nat, s.heap.size ≤ q → A q := fun q h => by rw [← hAe]; exact Or.inr h
  have hS : va_S A s.heap s.heap [] := va_S.rf
  have hl := lv_entry [.ref a_t, .int p1, .int p2] (n := 5) (Nat.le_of_ble_eq_true rfl)
  rw [lg_entry_eq]
  generalize (lg_sl [.ref a_t, .int p1, .int p2] ++ List.replicate (5 - (lg_sl [.ref a_t, .int p1, .int p2]).length) Slot.unset).toArray = ls at hl ⊢
  have hl : lv_has ls 5 [(0, .ref a_t), (1, .int p1), (2, .int p2)] := hl
  unfold g_X0_comesAhead at h
  refine lv_aload_n hx hb dX0_comesAhead_0 rfl (lv_at hl 0 rfl) ?_
  refine lv_iload_n hx hb dX0_comesAhead_1 rfl (lv_at hl 1 rfl) ?_
  obtain ⟨r1, hq, h⟩ := gb_some h
  refine crO (va_runV (As := [.int p1]) (rest := []) ⟨hx, hb, hml, hown, hta⟩ (c_X0_spellAt l dC dI cT hq (hR0.sub (ws' := [(a_t, .inr (4, [.int t_cauldrons, .ref a_t_isBroth, .ref a_t_low, .ref a_t_high, .ref a_t_contents, .ref a_t_storesIn, .int t_spells, .ref a_t_texts, .ref a_t_cooked, .int t_cookedSoFar, .int t_storesSoFar])), (a_t_texts, .inl (cT 7, 4, .inr (.inr (.inr (.inr t_texts)))))]) [0, 1] rfl)) (cV hta lm_X0_84 md_X0_spellAt ⟨(Nat.le_of_ble_eq_true rfl), (Nat.le_of_ble_eq_true rfl)⟩) ⟨fbK, va_recv hK hR0 (ci := 4) (q0 := 0) rfl rfl, fun U hU hW => ⟨rfl, hU, va_K.moved hW.alike hK⟩⟩ rfl rfl hl.1 rfl (lv_room (Nat.le_of_ble_eq_true rfl)) dX0_comesAhead_2 ⟨(Nat.le_of_ble_eq_true rfl), (Nat.le_of_ble_eq_true rfl)⟩) hS hA (fun locs hS => ?_)
  refine lv_splitO (fun e0 => ?_) (fun a_y2 e0 => ?_)
  · have h := go_none e0 h
    refine lv_astore_nN (lv' := [(3, .null), (0, .ref a_t), (1, .int p1), (2, .int p2)]) hx hb dX0_comesAhead_5 rfl hl (by decide) rfl (fun ls hl => ?_)
    refine lv_aload_n hx hb dX0_comesAhead_6 rfl (lv_at hl 1 rfl) ?_
    refine lv_iload_n hx hb dX0_comesAhead_7 rfl (lv_at hl 3 rfl) ?_
    obtain ⟨r2, hq, h⟩ := gb_some h
    refine crO (va_runV (As := [.int p2]) (rest := []) ⟨hx, hb, hml, hown, hta⟩ (c_X0_spellAt l dC dI cT hq (hR0.sub (ws' := [(a_t, .inr (4, [.int t_cauldrons, .ref a_t_isBroth, .ref a_t_low, .ref a_t_high, .ref a_t_contents, .ref a_t_storesIn, .int t_spells, .ref a_t_texts, .ref a_t_cooked, .int t_cookedSoFar, .int t_storesSoFar])), (a_t_texts, .inl (cT 7, 4, .inr (.inr (.inr (.inr t_texts)))))]) [0, 1] rfl)) (cV hta lm_X0_84 md_X0_spellAt ⟨(Nat.le_of_ble_eq_true rfl), (Nat.le_of_ble_eq_true rfl)⟩) ⟨fbK, va_recv hK hR0 (ci := 4) (q0 := 0) rfl rfl, fun U hU hW => ⟨rfl, hU, va_K.moved hW.alike hK⟩⟩ rfl rfl hl.1 rfl (lv_room (Nat.le_of_ble_eq_true rfl)) dX0_comesAhead_8 ⟨(Nat.le_of_ble_eq_true rfl), (Nat.le_of_ble_eq_true rfl)⟩) hS hA (fun locs hS => ?_)
    refine lv_splitO (fun e0 => ?_) (fun a_y8 e0 => ?_)
    · have h := go_none e0 h
      refine lv_astoreN (lv' := [(4, .null), (3, .null), (0, .ref a_t), (1, .int p1), (2, .int p2)]) hx hb dX0_comesAhead_11 hl (by decide) rfl (fun ls hl => ?_)
      refine lv_aload_nN hx hb dX0_comesAhead_13 rfl (lv_at hl 1 rfl) ?_
      refine lv_ifnullN (tgt := 22) hx hb dX0_comesAhead_14 (by decide) ?_
      refine lv_iconst (v := 0) hx hb dX0_comesAhead_22 (by decide) ?_
      have ho := Option.some.inj h
      exact W.zret (ty := .boolean) (v := 0) hx hb hr rfl (fun t ht hW => ⟨⟨0, (), rfl, by rw [← ho], ht⟩, hS.F ht⟩) hS.2.2 dX0_comesAhead_23
    · have h := go_some e0 h
      obtain ⟨hm, h⟩ := gc_some h
      have hs_a_y8 := inl9_in hm
      refine lv_astore (lv' := [(4, .ref a_y8), (3, .null), (0, .ref a_t), (1, .int p1), (2, .int p2)]) hx hb dX0_comesAhead_11 hl (by decide) rfl (fun ls hl => ?_)
      refine lv_aload_nN hx hb dX0_comesAhead_13 rfl (lv_at hl 1 rfl) ?_
      refine lv_ifnullN (tgt := 22) hx hb dX0_comesAhead_14 (by decide) ?_
      refine lv_iconst (v := 0) hx hb dX0_comesAhead_22 (by decide) ?_
      have ho := Option.some.inj h
      exact W.zret (ty := .boolean) (v := 0) hx hb hr rfl (fun t ht hW => ⟨⟨0, (), rfl, by rw [← ho], ht⟩, hS.F ht⟩) hS.2.2 dX0_comesAhead_23
  · have h := go_some e0 h
    obtain ⟨hm, h⟩ := gc_some h
    have hs_a_y2 := inl9_in hm
    refine lv_astore_n (lv' := [(3, .ref a_y2), (0, .ref a_t), (1, .int p1), (2, .int p2)]) hx hb dX0_comesAhead_5 rfl hl (by decide) rfl (fun ls hl => ?_)
    refine lv_aload_n hx hb dX0_comesAhead_6 rfl (lv_at hl 1 rfl) ?_
    refine lv_iload_n hx hb dX0_comesAhead_7 rfl (lv_at hl 3 rfl) ?_
    obtain ⟨r3, hq, h⟩ := gb_some h
    refine crO (va_runV (As := [.int p2]) (rest := []) ⟨hx, hb, hml, hown, hta⟩ (c_X0_spellAt l dC dI cT hq (hR0.sub (ws' := [(a_t, .inr (4, [.int t_cauldrons, .ref a_t_isBroth, .ref a_t_low, .ref a_t_high, .ref a_t_contents, .ref a_t_storesIn, .int t_spells, .ref a_t_texts, .ref a_t_cooked, .int t_cookedSoFar, .int t_storesSoFar])), (a_t_texts, .inl (cT 7, 4, .inr (.inr (.inr (.inr t_texts)))))]) [0, 1] rfl)) (cV hta lm_X0_84 md_X0_spellAt ⟨(Nat.le_of_ble_eq_true rfl), (Nat.le_of_ble_eq_true rfl)⟩) ⟨fbK, va_recv hK hR0 (ci := 4) (q0 := 0) rfl rfl, fun U hU hW => ⟨rfl, hU, va_K.moved hW.alike hK⟩⟩ rfl rfl hl.1 rfl (lv_room (Nat.le_of_ble_eq_true rfl)) dX0_comesAhead_8 ⟨(Nat.le_of_ble_eq_true rfl), (Nat.le_of_ble_eq_true rfl)⟩) hS hA (fun locs hS => ?_)
    refine lv_splitO (fun e0 => ?_) (fun a_y8 e0 => ?_)
    · have h := go_none e0 h
      refine lv_astoreN (lv' := [(4, .null), (3, .ref a_y2), (0, .ref a_t), (1, .int p1), (2, .int p2)]) hx hb dX0_comesAhead_11 hl (by decide) rfl (fun ls hl => ?_)
      refine lv_aload_n hx hb dX0_comesAhead_13 rfl (lv_at hl 1 rfl) ?_
      refine lv_ifnull hx hb dX0_comesAhead_14 ?_
      refine lv_aloadN hx hb dX0_comesAhead_17 (lv_at hl 0 rfl) ?_
      refine lv_ifnonnullN hx hb dX0_comesAhead_19 ?_
      refine lv_iconst (v := 0) hx hb dX0_comesAhead_22 (by decide) ?_
      have ho := Option.some.inj h
      exact W.zret (ty := .boolean) (v := 0) hx hb hr rfl (fun t ht hW => ⟨⟨0, (), rfl, by rw [← ho], ht⟩, hS.F ht⟩) hS.2.2 dX0_comesAhead_23
    · have h := go_some e0 h
      obtain ⟨hm, h⟩ := gc_some h
      have hs_a_y8 := inl9_in hm
      refine lv_astore (lv' := [(4, .ref a_y8), (3, .ref a_y2), (0, .ref a_t), (1, .int p1), (2, .int p2)]) hx hb dX0_comesAhead_11 hl (by decide) rfl (fun ls hl => ?_)
      refine lv_aload_n hx hb dX0_comesAhead_13 rfl (lv_at hl 1 rfl) ?_
      refine lv_ifnull hx hb dX0_comesAhead_14 ?_
      refine lv_aload hx hb dX0_comesAhead_17 (lv_at hl 0 rfl) ?_
      refine lv_ifnonnull (tgt := 24) hx hb dX0_comesAhead_19 (by decide) ?_
      refine lv_aload_n hx hb dX0_comesAhead_24 rfl (lv_at hl 1 rfl) ?_
      refine va_get (D := (dC, dI)) (ci := 11) (v := .int ((SE a_y2).2.2.1)) (C := RX8) (T := TX8) (N := 9) hx hb hta inX8w hown hK (hSP a_y2 hs_a_y2) 0 rfl rfl 1 (by decide) (hta _ lk_X0_88) (fun _ h9 => h9) rfl dX0_comesAhead_25 ?_
      refine lv_aload hx hb dX0_comesAhead_28 (lv_at hl 0 rfl) ?_
      refine va_get (D := (dC, dI)) (ci := 11) (v := .int ((SE a_y8).2.2.1)) (C := RX8) (T := TX8) (N := 9) hx hb hta inX8w hown hK (hSP a_y8 hs_a_y8) 0 rfl rfl 1 (by decide) (hta _ lk_X0_88) (fun _ h9 => h9) rfl dX0_comesAhead_30 ?_
      refine lv_icmp_eq (tgt := 54) hx hb dX0_comesAhead_33 (by decide) (fun c0 => ?_) (fun c0 => ?_)
      · have h := (if_pos c0).symm.trans h
        refine lv_aload_n hx hb dX0_comesAhead_54 rfl (lv_at hl 1 rfl) ?_
        refine va_get (D := (dC, dI)) (ci := 11) (v := .int ((SE a_y2).2.2.2.1)) (C := RX8) (T := TX8) (N := 9) hx hb hta inX8w hown hK (hSP a_y2 hs_a_y2) 0 rfl rfl 2 (by decide) (hta _ lk_X0_99) (fun _ h9 => h9) rfl dX0_comesAhead_55 ?_
        refine lv_aload hx hb dX0_comesAhead_58 (lv_at hl 0 rfl) ?_
        refine va_get (D := (dC, dI)) (ci := 11) (v := .int ((SE a_y8).2.2.2.1)) (C := RX8) (T := TX8) (N := 9) hx hb hta inX8w hown hK (hSP a_y8 hs_a_y8) 0 rfl rfl 2 (by decide) (hta _ lk_X0_99) (fun _ h9 => h9) rfl dX0_comesAhead_60 ?_
        refine lv_icmp_eq (tgt := 84) hx hb dX0_comesAhead_63 (by decide) (fun c0 => ?_) (fun c0 => ?_)
        · have h := (if_pos c0).symm.trans h
          refine lv_iload_n hx hb dX0_comesAhead_84 rfl (lv_at hl 3 rfl) ?_
          refine lv_iload_n hx hb dX0_comesAhead_85 rfl (lv_at hl 4 rfl) ?_
          refine lv_icmp_ge (tgt := 93) hx hb dX0_comesAhead_86 (by decide) (fun c0 => ?_) (fun c0 => ?_)
          · have h := (if_pos c0).symm.trans h
            refine lv_iconst (v := 0) hx hb dX0_comesAhead_93 (by decide) ?_
            have ho := Option.some.inj h
            exact W.zret (ty := .boolean) (v := 0) hx hb hr rfl (fun t ht hW => ⟨⟨0, (), rfl, by rw [← ho], ht⟩, hS.F ht⟩) hS.2.2 dX0_comesAhead_94
          · have h := (if_neg c0).symm.trans h
            refine lv_iconst (v := 1) hx hb dX0_comesAhead_89 (by decide) ?_
            refine lv_goto (tgt := 94) hx hb dX0_comesAhead_90 (by decide) ?_
            have ho := Option.some.inj h
            exact W.zret (ty := .boolean) (v := 1) hx hb hr rfl (fun t ht hW => ⟨⟨1, (), rfl, by rw [← ho], ht⟩, hS.F ht⟩) hS.2.2 dX0_comesAhead_94
        · have h := (if_neg c0).symm.trans h
          refine lv_aload_n hx hb dX0_comesAhead_66 rfl (lv_at hl 1 rfl) ?_
          refine va_get (D := (dC, dI)) (ci := 11) (v := .int ((SE a_y2).2.2.2.1)) (C := RX8) (T := TX8) (N := 9) hx hb hta inX8w hown hK (hSP a_y2 hs_a_y2) 0 rfl rfl 2 (by decide) (hta _ lk_X0_99) (fun _ h9 => h9) rfl dX0_comesAhead_67 ?_
          refine lv_aload hx hb dX0_comesAhead_70 (lv_at hl 0 rfl) ?_
          refine va_get (D := (dC, dI)) (ci := 11) (v := .int ((SE a_y8).2.2.2.1)) (C := RX8) (T := TX8) (N := 9) hx hb hta inX8w hown hK (hSP a_y8 hs_a_y8) 0 rfl rfl 2 (by decide) (hta _ lk_X0_99) (fun _ h9 => h9) rfl dX0_comesAhead_72 ?_
          refine lv_icmp_le (tgt := 82) hx hb dX0_comesAhead_75 (by decide) (fun c0 => ?_) (fun c0 => ?_)
          · have h := (if_pos c0).symm.trans h
            refine lv_iconst (v := 0) hx hb dX0_comesAhead_82 (by decide) ?_
            have ho := Option.some.inj h
            exact W.zret (ty := .boolean) (v := 0) hx hb hr rfl (fun t ht hW => ⟨⟨0, (), rfl, by rw [← ho], ht⟩, hS.F ht⟩) hS.2.2 dX0_comesAhead_83
          · have h := (if_neg c0).symm.trans h
            refine lv_iconst (v := 1) hx hb dX0_comesAhead_78 (by decide) ?_
            refine lv_goto (tgt := 83) hx hb dX0_comesAhead_79 (by decide) ?_
            have ho := Option.some.inj h
            exact W.zret (ty := .boolean) (v := 1) hx hb hr rfl (fun t ht hW => ⟨⟨1, (), rfl, by rw [← ho], ht⟩, hS.F ht⟩) hS.2.2 dX0_comesAhead_83
      · have h := (if_neg c0).symm.trans h
        refine lv_aload_n hx hb dX0_comesAhead_36 rfl (lv_at hl 1 rfl) ?_
        refine va_get (D := (dC, dI)) (ci := 11) (v := .int ((SE a_y2).2.2.1)) (C := RX8) (T := TX8) (N := 9) hx hb hta inX8w hown hK (hSP a_y2 hs_a_y2) 0 rfl rfl 1 (by decide) (hta _ lk_X0_88) (fun _ h9 => h9) rfl dX0_comesAhead_37 ?_
        refine lv_aload hx hb dX0_comesAhead_40 (lv_at hl 0 rfl) ?_
        refine va_get (D := (dC, dI)) (ci := 11) (v := .int ((SE a_y8).2.2.1)) (C := RX8) (T := TX8) (N := 9) hx hb hta inX8w hown hK (hSP a_y8 hs_a_y8) 0 rfl rfl 1 (by decide) (hta _ lk_X0_88) (fun _ h9 => h9) rfl dX0_comesAhead_42 ?_
        refine lv_icmp_ge (tgt := 52) hx hb dX0_comesAhead_45 (by decide) (fun c0 => ?_) (fun c0 => ?_)
        · have h := (if_pos c0).symm.trans h
          refine lv_iconst (v := 0) hx hb dX0_comesAhead_52 (by decide) ?_
          have ho := Option.some.inj h
          exact W.zret (ty := .boolean) (v := 0) hx hb hr rfl (fun t ht hW => ⟨⟨0, (), rfl, by rw [← ho], ht⟩, hS.F ht⟩) hS.2.2 dX0_comesAhead_53
        · have h := (if_neg c0).symm.trans h
          refine lv_iconst (v := 1) hx hb dX0_comesAhead_48 (by decide) ?_
          refine lv_goto (tgt := 53) hx hb dX0_comesAhead_49 (by decide) ?_
          have ho := Option.some.inj h
          exact W.zret (ty := .boolean) (v := 1) hx hb hr rfl (fun t ht hW => ⟨⟨1, (), rfl, by rw [← ho], ht⟩, hS.F ht⟩) hS.2.2 dX0_comesAhead_53
set_option maxHeartbeats 4000000 in
set_option maxRecDepth 100000 in
theorem c_X0_spellsAhead (l : Launch) (dC : Nat → ClassId) (dI : Nat → Nat → Nat) (cT : Nat → ClassId) {Hh : Heap} {sq : Nat → Nat → Nat} {a_t : Nat} {a_t_texts : Nat} {a_t_isBroth : Nat} {a_t_low : Nat} {a_t_high : Nat} {a_t_contents : Nat} {a_t_storesIn : Nat} {a_t_cooked : Nat} {LS : List Nat} {SE : Nat → SV} {t_spells : Int32} {t_texts : Nat → Option Nat} {p1 : Int32} {t_cauldrons : Int32} {t_cookedSoFar : Int32} {t_storesSoFar : Int32} {o : Int32} (h : g_X0_spellsAhead LS SE t_spells t_texts p1 = some o) (hR0 : va_P (dC, dI) vwCl [(a_t, .inr (4, [.int t_cauldrons, .ref a_t_isBroth, .ref a_t_low, .ref a_t_high, .ref a_t_contents, .ref a_t_storesIn, .int t_spells, .ref a_t_texts, .ref a_t_cooked, .int t_cookedSoFar, .int t_storesSoFar])), (a_t_texts, .inl (cT 7, 4, .inr (.inr (.inr (.inr t_texts)))))] Hh) (hSP : ∀ a ∈ LS, va_P (dC, dI) vwCl (spc cT sq SE a) Hh) : Met l yX0_spellsAhead (wA yX0_spellsAhead cX0_spellsAhead 4 (some .int)) ({ frames := 2, cells := 0, slots := 0, locals := 45 } : Room) (PK dC dI cT [.ref a_t, .int p1] Hh) (va_Qi (fun x (_ : Unit) => x = o) (fun _ t => t.heap = Hh) (va_A [] Hh.size)) 0 0 (va_A [] Hh.size) := by
  refine Met.ofW (cc := cX0_spellsAhead) (maxL := 4) (ret := (some .int)) (by decide) rfl ?_
  intro p e s m args below meth c s₁ B hml hv
  obtain ⟨rfl, hH, hK⟩ := hv
  subst hH
  have hx := B.exec
  have hb := B.bytes
  have hr := B.returns
  have hta : ∀ w ∈ ALLW, w.before [.ref a_t, .int p1].toArray s = true := fun w hw => atoms_spec (ws := wA yX0_spellsAhead cX0_spellsAhead 4 (some .int)) B.pre w (List.mem_cons_of_mem _ hw)
  have hown : s.vm.findClass RX0 = some m.cls := findClass_of_methodNamed B.named
  have hlocks := B.notSynchronized
  generalize hAe : va_A [] s.heap.size = A
  have hA : ∀ q : Nat, s.heap.size ≤ q → A q := fun q h => by rw [← hAe]; exact Or.inr h
  have hS : va_S A s.heap s.heap [] := va_S.rf
  have hl := lv_entry [.ref a_t, .int p1] (n := 4) (Nat.le_of_ble_eq_true rfl)
  rw [lg_entry_eq]
  generalize (lg_sl [.ref a_t, .int p1] ++ List.replicate (4 - (lg_sl [.ref a_t, .int p1]).length) Slot.unset).toArray = ls at hl ⊢
  have hl : lv_has ls 4 [(0, .ref a_t), (1, .int p1)] := hl
  obtain ⟨Q, hQ⟩ : ∃ Q, Q = MQ below (va_Qi (fun x (_ : Unit) => x = o) (fun _ t => t.heap = s.heap) A) [.ref a_t, .int p1].toArray s 0 0 A := ⟨_, rfl⟩
  rw [← hQ]
  have wB_4 : ∀ (n_4 : Nat), ∀ (x2_4 : Int32) (x3_4 : Int32) (locs : List Loc) (ls : Array Slot), g_X0_spellsAhead_b4 LS SE t_spells t_texts p1 n_4 x2_4 x3_4 = some o → va_S A s.heap s.heap locs → lv_has ls 4 [(0, .ref a_t), (1, .int p1), (2, .int x2_4), (3, .int x3_4)] → W p l e ({ frames := 2, cells := 0, slots := 0, locals := 45 } : Room) s m [.ref a_t, .int p1].toArray below meth c s.heap locs 0 0 Q (F0 m 4 ls []) := by
    intro n_4
    induction n_4 with
    | zero =>
      intro x2_4 x3_4 locs ls h hS hl
      simp [g_X0_spellsAhead_b4] at h
    | succ n_4 ih_4 =>
      have wB_24 : ∀ (x2_24 : Int32) (x3_24 : Int32) (locs : List Loc) (ls : Array Slot), g_X0_spellsAhead_b24 LS SE t_spells t_texts p1 (g_X0_spellsAhead_b4 LS SE t_spells t_texts p1 n_4) x2_24 x3_24 = some o → va_S A s.heap s.heap locs → lv_has ls 4 [(0, .ref a_t), (1, .int p1), (2, .int x2_24), (3, .int x3_24)] → W p l e ({ frames := 2, cells := 0, slots := 0, locals := 45 } : Room) s m [.ref a_t, .int p1].toArray below meth c s.heap locs 0 0 Q (F0 m 24 ls []) := by
        intro x2_24 x3_24 locs ls h hS hl
        unfold g_X0_spellsAhead_b24 at h
        obtain ⟨v1, e_v1⟩ : ∃ y : Int32, y = x3_24 + 1 := ⟨_, rfl⟩
        have h := gl_use e_v1 h
        refine lv_iinc (v := v1) (lv' := [(3, .int v1), (0, .ref a_t), (1, .int p1), (2, .int x2_24)]) hx hb dX0_spellsAhead_24 hl (k := 3) rfl (by rw [e_v1]; rfl) (by decide) rfl (fun ls hl => ?_)
        refine lv_goto (tgt := 4) hx hb dX0_spellsAhead_27 (by decide) ?_
        exact ih_4 x2_24 v1 _ _ h hS (lv_sub hl [1, 2, 3, 0] rfl)
      intro x2_4 x3_4 locs ls h hS hl
      rw [g_X0_spellsAhead_b4] at h
      refine lv_iload_n hx hb dX0_spellsAhead_4 rfl (lv_at hl 3 rfl) ?_
      refine lv_aload_n hx hb dX0_spellsAhead_5 rfl (lv_at hl 0 rfl) ?_
      refine va_get (D := (dC, dI)) (ci := 4) (v := .int t_spells) (C := RX0) (T := TX0) (N := 11) hx hb hta inX0w hown hK hR0 0 rfl rfl 6 (by decide) (hta _ lk_X0_49) (fun _ h9 => h9) rfl dX0_spellsAhead_6 ?_
      refine lv_icmp_ge (tgt := 30) hx hb dX0_spellsAhead_9 (by decide) (fun c0 => ?_) (fun c0 => ?_)
      · have h := (if_pos c0).symm.trans h
        refine lv_iload_n hx hb dX0_spellsAhead_30 rfl (lv_at hl 2 rfl) ?_
        have ho := Option.some.inj h
        rw [hQ]
        exact W.iret (v := x2_4) hx hb hr (fun t ht hW => ⟨⟨x2_4, (), rfl, by rw [← ho], ht⟩, hS.F ht⟩) hS.2.2 dX0_spellsAhead_31
      · have h := (if_neg c0).symm.trans h
        refine lv_aload_n hx hb dX0_spellsAhead_12 rfl (lv_at hl 0 rfl) ?_
        refine lv_iload_n hx hb dX0_spellsAhead_13 rfl (lv_at hl 3 rfl) ?_
        refine lv_iload_n hx hb dX0_spellsAhead_14 rfl (lv_at hl 1 rfl) ?_
        obtain ⟨r2, hq, h⟩ := gb_some h
        refine crI (va_runV (As := [.int x3_4, .int p1]) (rest := []) ⟨hx, hb, hml, hown, hta⟩ (c_X0_comesAhead l dC dI cT hq (hR0.sub (ws' := [(a_t, .inr (4, [.int t_cauldrons, .ref a_t_isBroth, .ref a_t_low, .ref a_t_high, .ref a_t_contents, .ref a_t_storesIn, .int t_spells, .ref a_t_texts, .ref a_t_cooked, .int t_cookedSoFar, .int t_storesSoFar])), (a_t_texts, .inl (cT 7, 4, .inr (.inr (.inr (.inr t_texts)))))]) [0, 1] rfl) (sq := sq) (hSP := hSP)) (cV hta lm_X0_95 md_X0_comesAhead ⟨(Nat.le_of_ble_eq_true rfl), (Nat.le_of_ble_eq_true rfl)⟩) ⟨fbK, va_recv hK hR0 (ci := 4) (q0 := 0) rfl rfl, fun U hU hW => ⟨rfl, hU, va_K.moved hW.alike hK⟩⟩ rfl rfl hl.1 rfl (lv_room (Nat.le_of_ble_eq_true rfl)) dX0_spellsAhead_15 ⟨(Nat.le_of_ble_eq_true rfl), (Nat.le_of_ble_eq_true rfl)⟩) hS hA (fun locs hS => ?_)
        refine lv_if_eq (tgt := 24) hx hb dX0_spellsAhead_18 (by decide) (fun c0 => ?_) (fun c0 => ?_)
        · have h := (if_pos c0).symm.trans h
          exact wB_24 x2_4 x3_4 _ _ h hS (lv_sub hl [0, 1, 2, 3] rfl)
        · have h := (if_neg c0).symm.trans h
          obtain ⟨v3, e_v3⟩ : ∃ y : Int32, y = x2_4 + 1 := ⟨_, rfl⟩
          have h := gl_use e_v3 h
          refine lv_iinc (v := v3) (lv' := [(2, .int v3), (0, .ref a_t), (1, .int p1), (3, .int x3_4)]) hx hb dX0_spellsAhead_21 hl (k := 2) rfl (by rw [e_v3]; rfl) (by decide) rfl (fun ls hl => ?_)
          exact wB_24 v3 x3_4 _ _ h hS (lv_sub hl [1, 2, 0, 3] rfl)
  unfold g_X0_spellsAhead at h
  refine lv_iconst (v := 0) hx hb dX0_spellsAhead_0 (by decide) ?_
  refine lv_istore_n (lv' := [(2, .int 0), (0, .ref a_t), (1, .int p1)]) hx hb dX0_spellsAhead_1 rfl hl (by decide) rfl (fun ls hl => ?_)
  refine lv_iconst (v := 0) hx hb dX0_spellsAhead_2 (by decide) ?_
  refine lv_istore_n (lv' := [(3, .int 0), (2, .int 0), (0, .ref a_t), (1, .int p1)]) hx hb dX0_spellsAhead_3 rfl hl (by decide) rfl (fun ls hl => ?_)
  exact wB_4 100 0 0 _ _ h hS (lv_sub hl [2, 3, 1, 0] rfl)
set_option maxHeartbeats 4000000 in
set_option maxRecDepth 100000 in
theorem c_X4_remember (l : Launch) (dC : Nat → ClassId) (dI : Nat → Nat → Nat) (cT : Nat → ClassId) {Hh : Heap} {sq : Nat → Nat → Nat} {a_t : Nat} {a_p1 : Nat} {a_t_books : Nat} {a_bk_contents : Nat} {a_p1_contents : Nat} {a_bk_contents_many : Nat} {a_p1_contents_many : Nat} {a_bk_contents_much : Nat} {a_p1_contents_much : Nat} {a_bk_isBroth : Nat} {a_p1_isBroth : Nat} {a_bk_low : Nat} {a_p1_low : Nat} {a_bk_high : Nat} {a_p1_high : Nat} {a_bk_storesIn : Nat} {a_p1_storesIn : Nat} {a_bk_texts : Nat} {a_p1_texts : Nat} {a_bk_cooked : Nat} {a_p1_cooked : Nat} {LS : List Nat} {SE : Nat → SV} {t_next : Int32} {t_changes : Int32} {p1_cauldrons : Int32} {p1_spells : Int32} {p1_cookedSoFar : Int32} {p1_storesSoFar : Int32} {t_books : Nat → Option Nat} {bk_cauldrons : Int32} {bk_spells : Int32} {bk_cookedSoFar : Int32} {bk_storesSoFar : Int32} {bk_contents_many : Nat → Int32} {p1_contents_many : Nat → Int32} {bk_contents_much : Nat → UInt32} {p1_contents_much : Nat → UInt32} {bk_isBroth : Nat → Int32} {p1_isBroth : Nat → Int32} {bk_low : Nat → Int32} {p1_low : Nat → Int32} {bk_high : Nat → Int32} {p1_high : Nat → Int32} {bk_storesIn : Nat → Int32} {p1_storesIn : Nat → Int32} {bk_texts : Nat → Option Nat} {p1_texts : Nat → Option Nat} {bk_cooked : Nat → Int32} {p1_cooked : Nat → Int32} {a_bk : Nat} {o : Int32 × Int32 × Int32 × Int32 × Int32 × Int32 × (Nat → Int32) × (Nat → UInt32) × (Nat → Int32) × (Nat → Int32) × (Nat → Int32) × (Nat → Int32) × (Nat → Option Nat) × (Nat → Int32)} (h : g_X4_remember LS SE t_next t_changes p1_cauldrons p1_spells p1_cookedSoFar p1_storesSoFar t_books bk_cauldrons bk_spells bk_cookedSoFar bk_storesSoFar bk_contents_many p1_contents_many bk_contents_much p1_contents_much bk_isBroth p1_isBroth bk_low p1_low bk_high p1_high bk_storesIn p1_storesIn bk_texts p1_texts bk_cooked p1_cooked a_bk = some o) (hP0 : va_P (dC, dI) vwCl [(a_t, .inr (8, [.ref a_t_books, .int t_next, .int t_changes])), (a_bk, .inr (4, [.int bk_cauldrons, .ref a_bk_isBroth, .ref a_bk_low, .ref a_bk_high, .ref a_bk_contents, .ref a_bk_storesIn, .int bk_spells, .ref a_bk_texts, .ref a_bk_cooked, .int bk_cookedSoFar, .int bk_storesSoFar])), (a_bk_contents_many, .inl (cT 0, 6, .inl bk_contents_many)), (a_bk_contents_much, .inl (cT 4, 6, .inr (.inr (.inl bk_contents_much)))), (a_bk_isBroth, .inl (cT 1, 6, .inl bk_isBroth)), (a_bk_low, .inl (cT 0, 6, .inl bk_low)), (a_bk_high, .inl (cT 0, 6, .inl bk_high)), (a_bk_storesIn, .inl (cT 0, 6, .inl bk_storesIn)), (a_bk_texts, .inl (cT 7, 4, .inr (.inr (.inr (.inr bk_texts))))), (a_bk_cooked, .inl (cT 0, 4, .inl bk_cooked))] Hh) (hR0 : va_P (dC, dI) vwCl [(a_p1, .inr (4, [.int p1_cauldrons, .ref a_p1_isBroth, .ref a_p1_low, .ref a_p1_high, .ref a_p1_contents, .ref a_p1_storesIn, .int p1_spells, .ref a_p1_texts, .ref a_p1_cooked, .int p1_cookedSoFar, .int p1_storesSoFar])), (a_t_books, .inl (cT 8, 6, .inr (.inr (.inr (.inr t_books))))), (a_bk_contents, .inr (5, [.ref a_bk_contents_many, .ref a_bk_contents_much])), (a_p1_contents, .inr (5, [.ref a_p1_contents_many, .ref a_p1_contents_much])), (a_p1_contents_many, .inl (cT 0, 6, .inl p1_contents_many)), (a_p1_contents_much, .inl (cT 4, 6, .inr (.inr (.inl p1_contents_much)))), (a_p1_isBroth, .inl (cT 1, 6, .inl p1_isBroth)), (a_p1_low, .inl (cT 0, 6, .inl p1_low)), (a_p1_high, .inl (cT 0, 6, .inl p1_high)), (a_p1_storesIn, .inl (cT 0, 6, .inl p1_storesIn)), (a_p1_texts, .inl (cT 7, 4, .inr (.inr (.inr (.inr p1_texts))))), (a_p1_cooked, .inl (cT 0, 4, .inl p1_cooked))] Hh) (hD0 : va_D (fun _ => True) [(a_t, .inr (8, [.ref a_t_books, .int t_next, .int t_changes])), (a_bk, .inr (4, [.int bk_cauldrons, .ref a_bk_isBroth, .ref a_bk_low, .ref a_bk_high, .ref a_bk_contents, .ref a_bk_storesIn, .int bk_spells, .ref a_bk_texts, .ref a_bk_cooked, .int bk_cookedSoFar, .int bk_storesSoFar])), (a_bk_contents_many, .inl (cT 0, 6, .inl bk_contents_many)), (a_bk_contents_much, .inl (cT 4, 6, .inr (.inr (.inl bk_contents_much)))), (a_bk_isBroth, .inl (cT 1, 6, .inl bk_isBroth)), (a_bk_low, .inl (cT 0, 6, .inl bk_low)), (a_bk_high, .inl (cT 0, 6, .inl bk_high)), (a_bk_storesIn, .inl (cT 0, 6, .inl bk_storesIn)), (a_bk_texts, .inl (cT 7, 4, .inr (.inr (.inr (.inr bk_texts))))), (a_bk_cooked, .inl (cT 0, 4, .inl bk_cooked))]) (hN0 : ∀ (k : Nat) (q : Nat × va_E), ([(a_p1, .inr (4, [.int p1_cauldrons, .ref a_p1_isBroth, .ref a_p1_low, .ref a_p1_high, .ref a_p1_contents, .ref a_p1_storesIn, .int p1_spells, .ref a_p1_texts, .ref a_p1_cooked, .int p1_cookedSoFar, .int p1_storesSoFar])), (a_t_books, .inl (cT 8, 6, .inr (.inr (.inr (.inr t_books))))), (a_bk_contents, .inr (5, [.ref a_bk_contents_many, .ref a_bk_contents_much])), (a_p1_contents, .inr (5, [.ref a_p1_contents_many, .ref a_p1_contents_much])), (a_p1_contents_many, .inl (cT 0, 6, .inl p1_contents_many)), (a_p1_contents_much, .inl (cT 4, 6, .inr (.inr (.inl p1_contents_much)))), (a_p1_isBroth, .inl (cT 1, 6, .inl p1_isBroth)), (a_p1_low, .inl (cT 0, 6, .inl p1_low)), (a_p1_high, .inl (cT 0, 6, .inl p1_high)), (a_p1_storesIn, .inl (cT 0, 6, .inl p1_storesIn)), (a_p1_texts, .inl (cT 7, 4, .inr (.inr (.inr (.inr p1_texts))))), (a_p1_cooked, .inl (cT 0, 4, .inl p1_cooked))] : va_W)[k]? = some q → ¬ va_A [(a_t, .inr (8, [.ref a_t_books, .int t_next, .int t_changes])), (a_bk, .inr (4, [.int bk_cauldrons, .ref a_bk_isBroth, .ref a_bk_low, .ref a_bk_high, .ref a_bk_contents, .ref a_bk_storesIn, .int bk_spells, .ref a_bk_texts, .ref a_bk_cooked, .int bk_cookedSoFar, .int bk_storesSoFar])), (a_bk_contents_many, .inl (cT 0, 6, .inl bk_contents_many)), (a_bk_contents_much, .inl (cT 4, 6, .inr (.inr (.inl bk_contents_much)))), (a_bk_isBroth, .inl (cT 1, 6, .inl bk_isBroth)), (a_bk_low, .inl (cT 0, 6, .inl bk_low)), (a_bk_high, .inl (cT 0, 6, .inl bk_high)), (a_bk_storesIn, .inl (cT 0, 6, .inl bk_storesIn)), (a_bk_texts, .inl (cT 7, 4, .inr (.inr (.inr (.inr bk_texts))))), (a_bk_cooked, .inl (cT 0, 4, .inl bk_cooked))] Hh.size q.1) (hSP : ∀ a ∈ LS, va_P (dC, dI) vwCl (spc cT sq SE a) Hh) (hSN : ∀ a ∈ LS, ∀ (k : Nat) (q : Nat × va_E), (spc cT sq SE a)[k]? = some q → ¬ va_A [(a_t, .inr (8, [.ref a_t_books, .int t_next, .int t_changes])), (a_bk, .inr (4, [.int bk_cauldrons, .ref a_bk_isBroth, .ref a_bk_low, .ref a_bk_high, .ref a_bk_contents, .ref a_bk_storesIn, .int bk_spells, .ref a_bk_texts, .ref a_bk_cooked, .int bk_cookedSoFar, .int bk_storesSoFar])), (a_bk_contents_many, .inl (cT 0, 6, .inl bk_contents_many)), (a_bk_contents_much, .inl (cT 4, 6, .inr (.inr (.inl bk_contents_much)))), (a_bk_isBroth, .inl (cT 1, 6, .inl bk_isBroth)), (a_bk_low, .inl (cT 0, 6, .inl bk_low)), (a_bk_high, .inl (cT 0, 6, .inl bk_high)), (a_bk_storesIn, .inl (cT 0, 6, .inl bk_storesIn)), (a_bk_texts, .inl (cT 7, 4, .inr (.inr (.inr (.inr bk_texts))))), (a_bk_cooked, .inl (cT 0, 4, .inl bk_cooked))] Hh.size q.1) : Met l yX4_remember (wA yX4_remember cX4_remember 2 none) ({ frames := 2, cells := 0, slots := 0, locals := 44 } : Room) (PK dC dI cT [.ref a_t, .ref a_p1] Hh) (va_Qv (fun (_ : Unit) => True) (fun _ t => va_P (dC, dI) vwCl [(a_t, .inr (8, [.ref a_t_books, .int o.1, .int o.2.1])), (a_bk, .inr (4, [.int o.2.2.1, .ref a_bk_isBroth, .ref a_bk_low, .ref a_bk_high, .ref a_bk_contents, .ref a_bk_storesIn, .int o.2.2.2.1, .ref a_bk_texts, .ref a_bk_cooked, .int o.2.2.2.2.1, .int o.2.2.2.2.2.1])), (a_bk_contents_many, .inl (cT 0, 6, .inl o.2.2.2.2.2.2.1)), (a_bk_contents_much, .inl (cT 4, 6, .inr (.inr (.inl o.2.2.2.2.2.2.2.1)))), (a_bk_isBroth, .inl (cT 1, 6, .inl o.2.2.2.2.2.2.2.2.1)), (a_bk_low, .inl (cT 0, 6, .inl o.2.2.2.2.2.2.2.2.2.1)), (a_bk_high, .inl (cT 0, 6, .inl o.2.2.2.2.2.2.2.2.2.2.1)), (a_bk_storesIn, .inl (cT 0, 6, .inl o.2.2.2.2.2.2.2.2.2.2.2.1)), (a_bk_texts, .inl (cT 7, 4, .inr (.inr (.inr (.inr o.2.2.2.2.2.2.2.2.2.2.2.2.1))))), (a_bk_cooked, .inl (cT 0, 4, .inl o.2.2.2.2.2.2.2.2.2.2.2.2.2))] t.heap) (va_A [(a_t, .inr (8, [.ref a_t_books, .int t_next, .int t_changes])), (a_bk, .inr (4, [.int bk_cauldrons, .ref a_bk_isBroth, .ref a_bk_low, .ref a_bk_high, .ref a_bk_contents, .ref a_bk_storesIn, .int bk_spells, .ref a_bk_texts, .ref a_bk_cooked, .int bk_cookedSoFar, .int bk_storesSoFar])), (a_bk_contents_many, .inl (cT 0, 6, .inl bk_contents_many)), (a_bk_contents_much, .inl (cT 4, 6, .inr (.inr (.inl bk_contents_much)))), (a_bk_isBroth, .inl (cT 1, 6, .inl bk_isBroth)), (a_bk_low, .inl (cT 0, 6, .inl bk_low)), (a_bk_high, .inl (cT 0, 6, .inl bk_high)), (a_bk_storesIn, .inl (cT 0, 6, .inl bk_storesIn)), (a_bk_texts, .inl (cT 7, 4, .inr (.inr (.inr (.inr bk_texts))))), (a_bk_cooked, .inl (cT 0, 4, .inl bk_cooked))] Hh.size)) 0 0 (va_A [(a_t, .inr (8, [.ref a_t_books, .int t_next, .int t_changes])), (a_bk, .inr (4, [.int bk_cauldrons, .ref a_bk_isBroth, .ref a_bk_low, .ref a_bk_high, .ref a_bk_contents, .ref a_bk_storesIn, .int bk_spells, .ref a_bk_texts, .ref a_bk_cooked, .int bk_cookedSoFar, .int bk_storesSoFar])), (a_bk_contents_many, .inl (cT 0, 6, .inl bk_contents_many)), (a_bk_contents_much, .inl (cT 4, 6, .inr (.inr (.inl bk_contents_much)))), (a_bk_isBroth, .inl (cT 1, 6, .inl bk_isBroth)), (a_bk_low, .inl (cT 0, 6, .inl bk_low)), (a_bk_high, .inl (cT 0, 6, .inl bk_high)), (a_bk_storesIn, .inl (cT 0, 6, .inl bk_storesIn)), (a_bk_texts, .inl (cT 7, 4, .inr (.inr (.inr (.inr bk_texts))))), (a_bk_cooked, .inl (cT 0, 4, .inl bk_cooked))] Hh.size) := by
  refine Met.ofW (cc := cX4_remember) (maxL := 2) (ret := none) (by decide) rfl ?_
  intro p e s m args below meth c s₁ B hml hv
  obtain ⟨rfl, hH, hK⟩ := hv
  subst hH
  have hx := B.exec
  have hb := B.bytes
  have hr := B.returns
  have hta : ∀ w ∈ ALLW, w.before [.ref a_t, .ref a_p1].toArray s = true := fun w hw => atoms_spec (ws := wA yX4_remember cX4_remember 2 none) B.pre w (List.mem_cons_of_mem _ hw)
  have hown : s.vm.findClass RX4 = some m.cls := findClass_of_methodNamed B.named
  have hlocks := B.notSynchronized
  have hD := hD0.self (sz := s.heap.size)
  have hNA := hN0
  generalize hAe : va_A [(a_t, .inr (8, [.ref a_t_books, .int t_next, .int t_changes])), (a_bk, .inr (4, [.int bk_cauldrons, .ref a_bk_isBroth, .ref a_bk_low, .ref a_bk_high, .ref a_bk_contents, .ref a_bk_storesIn, .int bk_spells, .ref a_bk_texts, .ref a_bk_cooked, .int bk_cookedSoFar, .int bk_storesSoFar])), (a_bk_contents_many, .inl (cT 0, 6, .inl bk_contents_many)), (a_bk_contents_much, .inl (cT 4, 6, .inr (.inr (.inl bk_contents_much)))), (a_bk_isBroth, .inl (cT 1, 6, .inl bk_isBroth)), (a_bk_low, .inl (cT 0, 6, .inl bk_low)), (a_bk_high, .inl (cT 0, 6, .inl bk_high)), (a_bk_storesIn, .inl (cT 0, 6, .inl bk_storesIn)), (a_bk_texts, .inl (cT 7, 4, .inr (.inr (.inr (.inr bk_texts))))), (a_bk_cooked, .inl (cT 0, 4, .inl bk_cooked))] s.heap.size = A at hD hNA hSN ⊢
  have hP := hP0
  have hA : ∀ q : Nat, s.heap.size ≤ q → A q := fun q h => by rw [← hAe]; exact Or.inr h
  have hS : va_S A s.heap s.heap [] := va_S.rf
  have hl := lv_entry [.ref a_t, .ref a_p1] (n := 2) (Nat.le_of_ble_eq_true rfl)
  rw [lg_entry_eq]
  generalize (lg_sl [.ref a_t, .ref a_p1] ++ List.replicate (2 - (lg_sl [.ref a_t, .ref a_p1]).length) Slot.unset).toArray = ls at hl ⊢
  have hl : lv_has ls 2 [(0, .ref a_t), (1, .ref a_p1)] := hl
  obtain ⟨Q, hQ⟩ : ∃ Q, Q = MQ below (va_Qv (fun (_ : Unit) => True) (fun _ t => va_P (dC, dI) vwCl [(a_t, .inr (8, [.ref a_t_books, .int o.1, .int o.2.1])), (a_bk, .inr (4, [.int o.2.2.1, .ref a_bk_isBroth, .ref a_bk_low, .ref a_bk_high, .ref a_bk_contents, .ref a_bk_storesIn, .int o.2.2.2.1, .ref a_bk_texts, .ref a_bk_cooked, .int o.2.2.2.2.1, .int o.2.2.2.2.2.1])), (a_bk_contents_many, .inl (cT 0, 6, .inl o.2.2.2.2.2.2.1)), (a_bk_contents_much, .inl (cT 4, 6, .inr (.inr (.inl o.2.2.2.2.2.2.2.1)))), (a_bk_isBroth, .inl (cT 1, 6, .inl o.2.2.2.2.2.2.2.2.1)), (a_bk_low, .inl (cT 0, 6, .inl o.2.2.2.2.2.2.2.2.2.1)), (a_bk_high, .inl (cT 0, 6, .inl o.2.2.2.2.2.2.2.2.2.2.1)), (a_bk_storesIn, .inl (cT 0, 6, .inl o.2.2.2.2.2.2.2.2.2.2.2.1)), (a_bk_texts, .inl (cT 7, 4, .inr (.inr (.inr (.inr o.2.2.2.2.2.2.2.2.2.2.2.2.1))))), (a_bk_cooked, .inl (cT 0, 4, .inl o.2.2.2.2.2.2.2.2.2.2.2.2.2))] t.heap) A) [.ref a_t, .ref a_p1].toArray s 0 0 A := ⟨_, rfl⟩
  rw [← hQ]
  have wB_35 : ∀ (bk_contents_many_35 : Nat → Int32) (bk_contents_much_35 : Nat → UInt32) (bk_cooked_35 : Nat → Int32) (bk_high_35 : Nat → Int32) (bk_isBroth_35 : Nat → Int32) (bk_low_35 : Nat → Int32) (bk_storesIn_35 : Nat → Int32) (bk_texts_35 : Nat → Option Nat) (bk_cauldrons_35 : Int32) (bk_storesSoFar_35 : Int32) (bk_spells_35 : Int32) (bk_cookedSoFar_35 : Int32) (s1_35 : Int32) (H : Heap) (locs : List Loc) (ls : Array Slot), g_X4_remember_b35 t_changes bk_contents_many_35 bk_contents_much_35 bk_cooked_35 bk_high_35 bk_isBroth_35 bk_low_35 bk_storesIn_35 bk_texts_35 bk_cauldrons_35 bk_storesSoFar_35 bk_spells_35 bk_cookedSoFar_35 s1_35 = some o → va_P (dC, dI) vwCl [(a_t, .inr (8, [.ref a_t_books, .int t_next, .int t_changes])), (a_bk, .inr (4, [.int bk_cauldrons_35, .ref a_bk_isBroth, .ref a_bk_low, .ref a_bk_high, .ref a_bk_contents, .ref a_bk_storesIn, .int bk_spells_35, .ref a_bk_texts, .ref a_bk_cooked, .int bk_cookedSoFar_35, .int bk_storesSoFar_35])), (a_bk_contents_many, .inl (cT 0, 6, .inl bk_contents_many_35)), (a_bk_contents_much, .inl (cT 4, 6, .inr (.inr (.inl bk_contents_much_35)))), (a_bk_isBroth, .inl (cT 1, 6, .inl bk_isBroth_35)), (a_bk_low, .inl (cT 0, 6, .inl bk_low_35)), (a_bk_high, .inl (cT 0, 6, .inl bk_high_35)), (a_bk_storesIn, .inl (cT 0, 6, .inl bk_storesIn_35)), (a_bk_texts, .inl (cT 7, 4, .inr (.inr (.inr (.inr bk_texts_35))))), (a_bk_cooked, .inl (cT 0, 4, .inl bk_cooked_35))] H → va_D A [(a_t, .inr (8, [.ref a_t_books, .int t_next, .int t_changes])), (a_bk, .inr (4, [.int bk_cauldrons_35, .ref a_bk_isBroth, .ref a_bk_low, .ref a_bk_high, .ref a_bk_contents, .ref a_bk_storesIn, .int bk_spells_35, .ref a_bk_texts, .ref a_bk_cooked, .int bk_cookedSoFar_35, .int bk_storesSoFar_35])), (a_bk_contents_many, .inl (cT 0, 6, .inl bk_contents_many_35)), (a_bk_contents_much, .inl (cT 4, 6, .inr (.inr (.inl bk_contents_much_35)))), (a_bk_isBroth, .inl (cT 1, 6, .inl bk_isBroth_35)), (a_bk_low, .inl (cT 0, 6, .inl bk_low_35)), (a_bk_high, .inl (cT 0, 6, .inl bk_high_35)), (a_bk_storesIn, .inl (cT 0, 6, .inl bk_storesIn_35)), (a_bk_texts, .inl (cT 7, 4, .inr (.inr (.inr (.inr bk_texts_35))))), (a_bk_cooked, .inl (cT 0, 4, .inl bk_cooked_35))] → va_S A s.heap H locs → lv_has ls 2 [(0, .ref a_t)] → W p l e ({ frames := 2, cells := 0, slots := 0, locals := 44 } : Room) s m [.ref a_t, .ref a_p1].toArray below meth c H locs 0 0 Q (F0 m 35 ls [.int s1_35, .ref a_t]) := by
    intro bk_contents_many_35 bk_contents_much_35 bk_cooked_35 bk_high_35 bk_isBroth_35 bk_low_35 bk_storesIn_35 bk_texts_35 bk_cauldrons_35 bk_storesSoFar_35 bk_spells_35 bk_cookedSoFar_35 s1_35 H locs ls h hP hD hS hl
    unfold g_X4_remember_b35 at h
    refine va_put (D := (dC, dI)) (ci := 8) (v := .int s1_35) (ty := .int) (C := RX4) (T := TX4) (N := 3) hx hb hta inX4w tyX4 tyX4_ok nmX4 hown hK hP hD hS 0 rfl rfl 1 (by decide) (hta _ lk_X4_18) (fun _ h9 => h9) rfl (by decide +kernel) rfl rfl (Nat.le_of_ble_eq_true rfl) dX4_remember_35 (fun H locs hP hD hS => ?_)
    have hP : va_P (dC, dI) vwCl [(a_t, .inr (8, [.ref a_t_books, .int s1_35, .int t_changes])), (a_bk, .inr (4, [.int bk_cauldrons_35, .ref a_bk_isBroth, .ref a_bk_low, .ref a_bk_high, .ref a_bk_contents, .ref a_bk_storesIn, .int bk_spells_35, .ref a_bk_texts, .ref a_bk_cooked, .int bk_cookedSoFar_35, .int bk_storesSoFar_35])), (a_bk_contents_many, .inl (cT 0, 6, .inl bk_contents_many_35)), (a_bk_contents_much, .inl (cT 4, 6, .inr (.inr (.inl bk_contents_much_35)))), (a_bk_isBroth, .inl (cT 1, 6, .inl bk_isBroth_35)), (a_bk_low, .inl (cT 0, 6, .inl bk_low_35)), (a_bk_high, .inl (cT 0, 6, .inl bk_high_35)), (a_bk_storesIn, .inl (cT 0, 6, .inl bk_storesIn_35)), (a_bk_texts, .inl (cT 7, 4, .inr (.inr (.inr (.inr bk_texts_35))))), (a_bk_cooked, .inl (cT 0, 4, .inl bk_cooked_35))] H := hP
    have hD : va_D A [(a_t, .inr (8, [.ref a_t_books, .int s1_35, .int t_changes])), (a_bk, .inr (4, [.int bk_cauldrons_35, .ref a_bk_isBroth, .ref a_bk_low, .ref a_bk_high, .ref a_bk_contents, .ref a_bk_storesIn, .int bk_spells_35, .ref a_bk_texts, .ref a_bk_cooked, .int bk_cookedSoFar_35, .int bk_storesSoFar_35])), (a_bk_contents_many, .inl (cT 0, 6, .inl bk_contents_many_35)), (a_bk_contents_much, .inl (cT 4, 6, .inr (.inr (.inl bk_contents_much_35)))), (a_bk_isBroth, .inl (cT 1, 6, .inl bk_isBroth_35)), (a_bk_low, .inl (cT 0, 6, .inl bk_low_35)), (a_bk_high, .inl (cT 0, 6, .inl bk_high_35)), (a_bk_storesIn, .inl (cT 0, 6, .inl bk_storesIn_35)), (a_bk_texts, .inl (cT 7, 4, .inr (.inr (.inr (.inr bk_texts_35))))), (a_bk_cooked, .inl (cT 0, 4, .inl bk_cooked_35))] := hD
    refine lv_aload_n hx hb dX4_remember_38 rfl (lv_at hl 0 rfl) ?_
    refine lv_aload_n hx hb dX4_remember_39 rfl (lv_at hl 0 rfl) ?_
    refine va_get (D := (dC, dI)) (ci := 8) (v := .int t_changes) (C := RX4) (T := TX4) (N := 3) hx hb hta inX4w hown hK hP 0 rfl rfl 2 (by decide) (hta _ lk_X4_26) (fun _ h9 => h9) rfl dX4_remember_40 ?_
    refine lv_iconst (v := 1) hx hb dX4_remember_43 (by decide) ?_
    refine lv_iadd hx hb dX4_remember_44 ?_
    refine lv_bipush (v := 6) hx hb dX4_remember_45 (by decide) ?_
    refine va_mmin hx hb (hml.trans hl.1.symm) hown (hta _ lm_X4_29) (hta _ mth_minint_s) (hta _ mth_i) (hta _ mth_minint_c) (Nat.le_of_ble_eq_true rfl) (Nat.le_of_ble_eq_true rfl) (Nat.le_of_ble_eq_true rfl) (Nat.le_of_ble_eq_true rfl) dX4_remember_47 ?_
    refine lv_topi (fun v2 e_v2 => ?_)
    have h := gl_use e_v2 h
    refine va_put (D := (dC, dI)) (ci := 8) (v := .int v2) (ty := .int) (C := RX4) (T := TX4) (N := 3) hx hb hta inX4w tyX4 tyX4_ok nmX4 hown hK hP hD hS 0 rfl rfl 2 (by decide) (hta _ lk_X4_26) (fun _ h9 => h9) rfl (by decide +kernel) rfl rfl (Nat.le_of_ble_eq_true rfl) dX4_remember_50 (fun H locs hP hD hS => ?_)
    have hP : va_P (dC, dI) vwCl [(a_t, .inr (8, [.ref a_t_books, .int s1_35, .int v2])), (a_bk, .inr (4, [.int bk_cauldrons_35, .ref a_bk_isBroth, .ref a_bk_low, .ref a_bk_high, .ref a_bk_contents, .ref a_bk_storesIn, .int bk_spells_35, .ref a_bk_texts, .ref a_bk_cooked, .int bk_cookedSoFar_35, .int bk_storesSoFar_35])), (a_bk_contents_many, .inl (cT 0, 6, .inl bk_contents_many_35)), (a_bk_contents_much, .inl (cT 4, 6, .inr (.inr (.inl bk_contents_much_35)))), (a_bk_isBroth, .inl (cT 1, 6, .inl bk_isBroth_35)), (a_bk_low, .inl (cT 0, 6, .inl bk_low_35)), (a_bk_high, .inl (cT 0, 6, .inl bk_high_35)), (a_bk_storesIn, .inl (cT 0, 6, .inl bk_storesIn_35)), (a_bk_texts, .inl (cT 7, 4, .inr (.inr (.inr (.inr bk_texts_35))))), (a_bk_cooked, .inl (cT 0, 4, .inl bk_cooked_35))] H := hP
    have hD : va_D A [(a_t, .inr (8, [.ref a_t_books, .int s1_35, .int v2])), (a_bk, .inr (4, [.int bk_cauldrons_35, .ref a_bk_isBroth, .ref a_bk_low, .ref a_bk_high, .ref a_bk_contents, .ref a_bk_storesIn, .int bk_spells_35, .ref a_bk_texts, .ref a_bk_cooked, .int bk_cookedSoFar_35, .int bk_storesSoFar_35])), (a_bk_contents_many, .inl (cT 0, 6, .inl bk_contents_many_35)), (a_bk_contents_much, .inl (cT 4, 6, .inr (.inr (.inl bk_contents_much_35)))), (a_bk_isBroth, .inl (cT 1, 6, .inl bk_isBroth_35)), (a_bk_low, .inl (cT 0, 6, .inl bk_low_35)), (a_bk_high, .inl (cT 0, 6, .inl bk_high_35)), (a_bk_storesIn, .inl (cT 0, 6, .inl bk_storesIn_35)), (a_bk_texts, .inl (cT 7, 4, .inr (.inr (.inr (.inr bk_texts_35))))), (a_bk_cooked, .inl (cT 0, 4, .inl bk_cooked_35))] := hD
    have ho := Option.some.inj h
    rw [hQ]
    exact W.vret hx hb hr (fun t ht hW => ⟨⟨(), rfl, trivial, by show va_P (dC, dI) vwCl _ t.heap; rw [ht, ← ho]; exact hP⟩, hS.F ht⟩) hS.2.2 dX4_remember_53
  unfold g_X4_remember at h
  refine lv_aload_n hx hb dX4_remember_0 rfl (lv_at hl 0 rfl) ?_
  refine va_get (D := (dC, dI)) (ci := 8) (v := .ref a_t_books) (C := RX4) (T := TX4) (N := 3) hx hb hta inX4w hown hK hP 0 rfl rfl 0 (by decide) (hta _ lk_X4_11) (fun _ h9 => h9) rfl dX4_remember_1 ?_
  refine lv_aload_n hx hb dX4_remember_4 rfl (lv_at hl 0 rfl) ?_
  refine va_get (D := (dC, dI)) (ci := 8) (v := .int t_next) (C := RX4) (T := TX4) (N := 3) hx hb hta inX4w hown hK hP 0 rfl rfl 1 (by decide) (hta _ lk_X4_18) (fun _ h9 => h9) rfl dX4_remember_5 ?_
  obtain ⟨hc, h⟩ := gc_some h
  refine va_aldq hx hb hK (rk hR0 hNA hS) 1 8 rfl rfl (inb_in hc) dX4_remember_8 ?_
  obtain ⟨hc, h⟩ := gc_some h
  rw [of_decide_eq_true hc]
  refine W.eq (g2 := F0 m 9 ls [.ref a_bk]) rfl ?_
  refine lv_aload_n hx hb dX4_remember_9 rfl (lv_at hl 1 rfl) ?_
  obtain ⟨r1, hq, h⟩ := gb_some h
  refine cxV (X2 := [(a_t, .inr (8, [.ref a_t_books, .int t_next, .int t_changes])), (a_bk, .inr (4, [.int r1.1, .ref a_bk_isBroth, .ref a_bk_low, .ref a_bk_high, .ref a_bk_contents, .ref a_bk_storesIn, .int r1.2.1, .ref a_bk_texts, .ref a_bk_cooked, .int r1.2.2.1, .int r1.2.2.2.1])), (a_bk_contents_many, .inl (cT 0, 6, .inl r1.2.2.2.2.1)), (a_bk_contents_much, .inl (cT 4, 6, .inr (.inr (.inl r1.2.2.2.2.2.1)))), (a_bk_isBroth, .inl (cT 1, 6, .inl r1.2.2.2.2.2.2.1)), (a_bk_low, .inl (cT 0, 6, .inl r1.2.2.2.2.2.2.2.1)), (a_bk_high, .inl (cT 0, 6, .inl r1.2.2.2.2.2.2.2.2.1)), (a_bk_storesIn, .inl (cT 0, 6, .inl r1.2.2.2.2.2.2.2.2.2.1)), (a_bk_texts, .inl (cT 7, 4, .inr (.inr (.inr (.inr r1.2.2.2.2.2.2.2.2.2.2.1))))), (a_bk_cooked, .inl (cT 0, 4, .inl r1.2.2.2.2.2.2.2.2.2.2.2))]) (va_runV (As := [.ref a_p1]) (rest := []) ⟨hx, hb, hml, hown, hta⟩ (c_X0_copy l dC dI cT hq (hP.sub (ws' := [(a_bk, .inr (4, [.int bk_cauldrons, .ref a_bk_isBroth, .ref a_bk_low, .ref a_bk_high, .ref a_bk_contents, .ref a_bk_storesIn, .int bk_spells, .ref a_bk_texts, .ref a_bk_cooked, .int bk_cookedSoFar, .int bk_storesSoFar])), (a_bk_contents_many, .inl (cT 0, 6, .inl bk_contents_many)), (a_bk_contents_much, .inl (cT 4, 6, .inr (.inr (.inl bk_contents_much)))), (a_bk_isBroth, .inl (cT 1, 6, .inl bk_isBroth)), (a_bk_low, .inl (cT 0, 6, .inl bk_low)), (a_bk_high, .inl (cT 0, 6, .inl bk_high)), (a_bk_storesIn, .inl (cT 0, 6, .inl bk_storesIn)), (a_bk_texts, .inl (cT 7, 4, .inr (.inr (.inr (.inr bk_texts))))), (a_bk_cooked, .inl (cT 0, 4, .inl bk_cooked))]) [1, 2, 3, 4, 5, 6, 7, 8, 9] rfl) ((va_P.app hP (rk hR0 hNA hS)).sub (ws' := [(a_p1, .inr (4, [.int p1_cauldrons, .ref a_p1_isBroth, .ref a_p1_low, .ref a_p1_high, .ref a_p1_contents, .ref a_p1_storesIn, .int p1_spells, .ref a_p1_texts, .ref a_p1_cooked, .int p1_cookedSoFar, .int p1_storesSoFar])), (a_bk_contents, .inr (5, [.ref a_bk_contents_many, .ref a_bk_contents_much])), (a_p1_contents, .inr (5, [.ref a_p1_contents_many, .ref a_p1_contents_much])), (a_p1_contents_many, .inl (cT 0, 6, .inl p1_contents_many)), (a_p1_contents_much, .inl (cT 4, 6, .inr (.inr (.inl p1_contents_much)))), (a_p1_isBroth, .inl (cT 1, 6, .inl p1_isBroth)), (a_p1_low, .inl (cT 0, 6, .inl p1_low)), (a_p1_high, .inl (cT 0, 6, .inl p1_high)), (a_p1_storesIn, .inl (cT 0, 6, .inl p1_storesIn)), (a_p1_texts, .inl (cT 7, 4, .inr (.inr (.inr (.inr p1_texts))))), (a_p1_cooked, .inl (cT 0, 4, .inl p1_cooked))]) [10, 12, 13, 14, 15, 16, 17, 18, 19, 20, 21] rfl) (ds hD [1, 2, 3, 4, 5, 6, 7, 8, 9] (by decide) rfl) (nac hP hD [1, 2, 3, 4, 5, 6, 7, 8, 9] rfl (va_free hD hS hA [1, 2, 3, 4, 5, 6, 7, 8, 9] rfl) hNA [.inl 0, .inl 2, .inl 3, .inl 4, .inl 5, .inl 6, .inl 7, .inl 8, .inl 9, .inl 10, .inl 11] rfl rfl) (sq := sq) (hSP := (fun a9 ha9 => rk (hSP a9 ha9) (hSN a9 ha9) hS)) (hSN := fun a9 ha9 k9 q9 hk9 hq9 => hSN a9 ha9 k9 q9 hk9 (va_free hD hS hA [1, 2, 3, 4, 5, 6, 7, 8, 9] rfl q9.1 hq9))) (cV hta lm_X4_22 md_X0_copy ⟨(Nat.le_of_ble_eq_true rfl), (Nat.le_of_ble_eq_true rfl)⟩) ⟨fbK, va_recv hK hP (ci := 4) (q0 := 1) rfl rfl, fun U hU hW => ⟨rfl, hU, va_K.moved hW.alike hK⟩⟩ rfl rfl hl.1 rfl (lv_room (Nat.le_of_ble_eq_true rfl)) dX4_remember_10 ⟨(Nat.le_of_ble_eq_true rfl), (Nat.le_of_ble_eq_true rfl)⟩) hS hA hP hD [1, 2, 3, 4, 5, 6, 7, 8, 9] rfl [.inr 0, .inl 0, .inl 1, .inl 2, .inl 3, .inl 4, .inl 5, .inl 6, .inl 7, .inl 8] rfl rfl rfl (fun H locs hP hD hS => ?_)
  refine lv_aload_n hx hb dX4_remember_13 rfl (lv_at hl 0 rfl) ?_
  refine lv_aload_n hx hb dX4_remember_14 rfl (lv_at hl 0 rfl) ?_
  refine va_get (D := (dC, dI)) (ci := 8) (v := .int t_next) (C := RX4) (T := TX4) (N := 3) hx hb hta inX4w hown hK hP 0 rfl rfl 1 (by decide) (hta _ lk_X4_18) (fun _ h9 => h9) rfl dX4_remember_15 ?_
  refine lv_iconst (v := 1) hx hb dX4_remember_18 (by decide) ?_
  refine lv_iadd hx hb dX4_remember_19 ?_
  refine lv_bipush (v := 6) hx hb dX4_remember_20 (by decide) ?_
  refine lv_icmp_ge (tgt := 34) hx hb dX4_remember_22 (by decide) (fun c0 => ?_) (fun c0 => ?_)
  · have h := (if_pos c0).symm.trans h
    refine lv_iconst (v := 0) hx hb dX4_remember_34 (by decide) ?_
    exact wB_35 r1.2.2.2.2.1 r1.2.2.2.2.2.1 r1.2.2.2.2.2.2.2.2.2.2.2 r1.2.2.2.2.2.2.2.2.1 r1.2.2.2.2.2.2.1 r1.2.2.2.2.2.2.2.1 r1.2.2.2.2.2.2.2.2.2.1 r1.2.2.2.2.2.2.2.2.2.2.1 r1.1 r1.2.2.2.1 r1.2.1 r1.2.2.1 0 _ _ _ h hP hD hS (lv_sub hl [0] rfl)
  · have h := (if_neg c0).symm.trans h
    refine lv_aload_n hx hb dX4_remember_25 rfl (lv_at hl 0 rfl) ?_
    refine va_get (D := (dC, dI)) (ci := 8) (v := .int t_next) (C := RX4) (T := TX4) (N := 3) hx hb hta inX4w hown hK hP 0 rfl rfl 1 (by decide) (hta _ lk_X4_18) (fun _ h9 => h9) rfl dX4_remember_26 ?_
    refine lv_iconst (v := 1) hx hb dX4_remember_29 (by decide) ?_
    refine lv_iadd hx hb dX4_remember_30 ?_
    refine lv_goto (tgt := 35) hx hb dX4_remember_31 (by decide) ?_
    exact wB_35 r1.2.2.2.2.1 r1.2.2.2.2.2.1 r1.2.2.2.2.2.2.2.2.2.2.2 r1.2.2.2.2.2.2.2.2.1 r1.2.2.2.2.2.2.1 r1.2.2.2.2.2.2.2.1 r1.2.2.2.2.2.2.2.2.2.1 r1.2.2.2.2.2.2.2.2.2.2.1 r1.1 r1.2.2.2.1 r1.2.1 r1.2.2.1 (t_next + 1) _ _ _ h hP hD hS (lv_sub hl [0] rfl)
set_option maxHeartbeats 4000000 in
set_option maxRecDepth 100000 in
theorem c_X4_giveBack (l : Launch) (dC : Nat → ClassId) (dI : Nat → Nat → Nat) (cT : Nat → ClassId) {Hh : Heap} {sq : Nat → Nat → Nat} {a_t : Nat} {a_p1 : Nat} {a_t_books : Nat} {a_p1_contents : Nat} {a_bk_contents : Nat} {a_p1_contents_many : Nat} {a_bk_contents_many : Nat} {a_p1_contents_much : Nat} {a_bk_contents_much : Nat} {a_p1_isBroth : Nat} {a_bk_isBroth : Nat} {a_p1_low : Nat} {a_bk_low : Nat} {a_p1_high : Nat} {a_bk_high : Nat} {a_p1_storesIn : Nat} {a_bk_storesIn : Nat} {a_p1_texts : Nat} {a_bk_texts : Nat} {a_p1_cooked : Nat} {a_bk_cooked : Nat} {LS : List Nat} {SE : Nat → SV} {t_next : Int32} {t_changes : Int32} {p1_cauldrons : Int32} {p1_spells : Int32} {p1_cookedSoFar : Int32} {p1_storesSoFar : Int32} {t_books : Nat → Option Nat} {bk_cauldrons : Int32} {bk_spells : Int32} {bk_cookedSoFar : Int32} {bk_storesSoFar : Int32} {p1_contents_many : Nat → Int32} {bk_contents_many : Nat → Int32} {p1_contents_much : Nat → UInt32} {bk_contents_much : Nat → UInt32} {p1_isBroth : Nat → Int32} {bk_isBroth : Nat → Int32} {p1_low : Nat → Int32} {bk_low : Nat → Int32} {p1_high : Nat → Int32} {bk_high : Nat → Int32} {p1_storesIn : Nat → Int32} {bk_storesIn : Nat → Int32} {p1_texts : Nat → Option Nat} {bk_texts : Nat → Option Nat} {p1_cooked : Nat → Int32} {bk_cooked : Nat → Int32} {a_bk : Nat} {o : Int32 × Int32 × Int32 × Int32 × Int32 × Int32 × (Nat → Int32) × (Nat → UInt32) × (Nat → Int32) × (Nat → Int32) × (Nat → Int32) × (Nat → Int32) × (Nat → Option Nat) × (Nat → Int32)} (h : g_X4_giveBack LS SE t_next t_changes p1_cauldrons p1_spells p1_cookedSoFar p1_storesSoFar t_books bk_cauldrons bk_spells bk_cookedSoFar bk_storesSoFar p1_contents_many bk_contents_many p1_contents_much bk_contents_much p1_isBroth bk_isBroth p1_low bk_low p1_high bk_high p1_storesIn bk_storesIn p1_texts bk_texts p1_cooked bk_cooked a_bk = some o) (hP0 : va_P (dC, dI) vwCl [(a_t, .inr (8, [.ref a_t_books, .int t_next, .int t_changes])), (a_p1, .inr (4, [.int p1_cauldrons, .ref a_p1_isBroth, .ref a_p1_low, .ref a_p1_high, .ref a_p1_contents, .ref a_p1_storesIn, .int p1_spells, .ref a_p1_texts, .ref a_p1_cooked, .int p1_cookedSoFar, .int p1_storesSoFar])), (a_p1_contents_many, .inl (cT 0, 6, .inl p1_contents_many)), (a_p1_contents_much, .inl (cT 4, 6, .inr (.inr (.inl p1_contents_much)))), (a_p1_isBroth, .inl (cT 1, 6, .inl p1_isBroth)), (a_p1_low, .inl (cT 0, 6, .inl p1_low)), (a_p1_high, .inl (cT 0, 6, .inl p1_high)), (a_p1_storesIn, .inl (cT 0, 6, .inl p1_storesIn)), (a_p1_texts, .inl (cT 7, 4, .inr (.inr (.inr (.inr p1_texts))))), (a_p1_cooked, .inl (cT 0, 4, .inl p1_cooked))] Hh) (hR0 : va_P (dC, dI) vwCl [(a_t_books, .inl (cT 8, 6, .inr (.inr (.inr (.inr t_books))))), (a_bk, .inr (4, [.int bk_cauldrons, .ref a_bk_isBroth, .ref a_bk_low, .ref a_bk_high, .ref a_bk_contents, .ref a_bk_storesIn, .int bk_spells, .ref a_bk_texts, .ref a_bk_cooked, .int bk_cookedSoFar, .int bk_storesSoFar])), (a_p1_contents, .inr (5, [.ref a_p1_contents_many, .ref a_p1_contents_much])), (a_bk_contents, .inr (5, [.ref a_bk_contents_many, .ref a_bk_contents_much])), (a_bk_contents_many, .inl (cT 0, 6, .inl bk_contents_many)), (a_bk_contents_much, .inl (cT 4, 6, .inr (.inr (.inl bk_contents_much)))), (a_bk_isBroth, .inl (cT 1, 6, .inl bk_isBroth)), (a_bk_low, .inl (cT 0, 6, .inl bk_low)), (a_bk_high, .inl (cT 0, 6, .inl bk_high)), (a_bk_storesIn, .inl (cT 0, 6, .inl bk_storesIn)), (a_bk_texts, .inl (cT 7, 4, .inr (.inr (.inr (.inr bk_texts))))), (a_bk_cooked, .inl (cT 0, 4, .inl bk_cooked))] Hh) (hD0 : va_D (fun _ => True) [(a_t, .inr (8, [.ref a_t_books, .int t_next, .int t_changes])), (a_p1, .inr (4, [.int p1_cauldrons, .ref a_p1_isBroth, .ref a_p1_low, .ref a_p1_high, .ref a_p1_contents, .ref a_p1_storesIn, .int p1_spells, .ref a_p1_texts, .ref a_p1_cooked, .int p1_cookedSoFar, .int p1_storesSoFar])), (a_p1_contents_many, .inl (cT 0, 6, .inl p1_contents_many)), (a_p1_contents_much, .inl (cT 4, 6, .inr (.inr (.inl p1_contents_much)))), (a_p1_isBroth, .inl (cT 1, 6, .inl p1_isBroth)), (a_p1_low, .inl (cT 0, 6, .inl p1_low)), (a_p1_high, .inl (cT 0, 6, .inl p1_high)), (a_p1_storesIn, .inl (cT 0, 6, .inl p1_storesIn)), (a_p1_texts, .inl (cT 7, 4, .inr (.inr (.inr (.inr p1_texts))))), (a_p1_cooked, .inl (cT 0, 4, .inl p1_cooked))]) (hN0 : ∀ (k : Nat) (q : Nat × va_E), ([(a_t_books, .inl (cT 8, 6, .inr (.inr (.inr (.inr t_books))))), (a_bk, .inr (4, [.int bk_cauldrons, .ref a_bk_isBroth, .ref a_bk_low, .ref a_bk_high, .ref a_bk_contents, .ref a_bk_storesIn, .int bk_spells, .ref a_bk_texts, .ref a_bk_cooked, .int bk_cookedSoFar, .int bk_storesSoFar])), (a_p1_contents, .inr (5, [.ref a_p1_contents_many, .ref a_p1_contents_much])), (a_bk_contents, .inr (5, [.ref a_bk_contents_many, .ref a_bk_contents_much])), (a_bk_contents_many, .inl (cT 0, 6, .inl bk_contents_many)), (a_bk_contents_much, .inl (cT 4, 6, .inr (.inr (.inl bk_contents_much)))), (a_bk_isBroth, .inl (cT 1, 6, .inl bk_isBroth)), (a_bk_low, .inl (cT 0, 6, .inl bk_low)), (a_bk_high, .inl (cT 0, 6, .inl bk_high)), (a_bk_storesIn, .inl (cT 0, 6, .inl bk_storesIn)), (a_bk_texts, .inl (cT 7, 4, .inr (.inr (.inr (.inr bk_texts))))), (a_bk_cooked, .inl (cT 0, 4, .inl bk_cooked))] : va_W)[k]? = some q → ¬ va_A [(a_t, .inr (8, [.ref a_t_books, .int t_next, .int t_changes])), (a_p1, .inr (4, [.int p1_cauldrons, .ref a_p1_isBroth, .ref a_p1_low, .ref a_p1_high, .ref a_p1_contents, .ref a_p1_storesIn, .int p1_spells, .ref a_p1_texts, .ref a_p1_cooked, .int p1_cookedSoFar, .int p1_storesSoFar])), (a_p1_contents_many, .inl (cT 0, 6, .inl p1_contents_many)), (a_p1_contents_much, .inl (cT 4, 6, .inr (.inr (.inl p1_contents_much)))), (a_p1_isBroth, .inl (cT 1, 6, .inl p1_isBroth)), (a_p1_low, .inl (cT 0, 6, .inl p1_low)), (a_p1_high, .inl (cT 0, 6, .inl p1_high)), (a_p1_storesIn, .inl (cT 0, 6, .inl p1_storesIn)), (a_p1_texts, .inl (cT 7, 4, .inr (.inr (.inr (.inr p1_texts))))), (a_p1_cooked, .inl (cT 0, 4, .inl p1_cooked))] Hh.size q.1) (hSP : ∀ a ∈ LS, va_P (dC, dI) vwCl (spc cT sq SE a) Hh) (hSN : ∀ a ∈ LS, ∀ (k : Nat) (q : Nat × va_E), (spc cT sq SE a)[k]? = some q → ¬ va_A [(a_t, .inr (8, [.ref a_t_books, .int t_next, .int t_changes])), (a_p1, .inr (4, [.int p1_cauldrons, .ref a_p1_isBroth, .ref a_p1_low, .ref a_p1_high, .ref a_p1_contents, .ref a_p1_storesIn, .int p1_spells, .ref a_p1_texts, .ref a_p1_cooked, .int p1_cookedSoFar, .int p1_storesSoFar])), (a_p1_contents_many, .inl (cT 0, 6, .inl p1_contents_many)), (a_p1_contents_much, .inl (cT 4, 6, .inr (.inr (.inl p1_contents_much)))), (a_p1_isBroth, .inl (cT 1, 6, .inl p1_isBroth)), (a_p1_low, .inl (cT 0, 6, .inl p1_low)), (a_p1_high, .inl (cT 0, 6, .inl p1_high)), (a_p1_storesIn, .inl (cT 0, 6, .inl p1_storesIn)), (a_p1_texts, .inl (cT 7, 4, .inr (.inr (.inr (.inr p1_texts))))), (a_p1_cooked, .inl (cT 0, 4, .inl p1_cooked))] Hh.size q.1) : Met l yX4_giveBack (wA yX4_giveBack cX4_giveBack 2 none) ({ frames := 2, cells := 0, slots := 0, locals := 44 } : Room) (PK dC dI cT [.ref a_t, .ref a_p1] Hh) (va_Qv (fun (_ : Unit) => True) (fun _ t => va_P (dC, dI) vwCl [(a_t, .inr (8, [.ref a_t_books, .int o.1, .int o.2.1])), (a_p1, .inr (4, [.int o.2.2.1, .ref a_p1_isBroth, .ref a_p1_low, .ref a_p1_high, .ref a_p1_contents, .ref a_p1_storesIn, .int o.2.2.2.1, .ref a_p1_texts, .ref a_p1_cooked, .int o.2.2.2.2.1, .int o.2.2.2.2.2.1])), (a_p1_contents_many, .inl (cT 0, 6, .inl o.2.2.2.2.2.2.1)), (a_p1_contents_much, .inl (cT 4, 6, .inr (.inr (.inl o.2.2.2.2.2.2.2.1)))), (a_p1_isBroth, .inl (cT 1, 6, .inl o.2.2.2.2.2.2.2.2.1)), (a_p1_low, .inl (cT 0, 6, .inl o.2.2.2.2.2.2.2.2.2.1)), (a_p1_high, .inl (cT 0, 6, .inl o.2.2.2.2.2.2.2.2.2.2.1)), (a_p1_storesIn, .inl (cT 0, 6, .inl o.2.2.2.2.2.2.2.2.2.2.2.1)), (a_p1_texts, .inl (cT 7, 4, .inr (.inr (.inr (.inr o.2.2.2.2.2.2.2.2.2.2.2.2.1))))), (a_p1_cooked, .inl (cT 0, 4, .inl o.2.2.2.2.2.2.2.2.2.2.2.2.2))] t.heap) (va_A [(a_t, .inr (8, [.ref a_t_books, .int t_next, .int t_changes])), (a_p1, .inr (4, [.int p1_cauldrons, .ref a_p1_isBroth, .ref a_p1_low, .ref a_p1_high, .ref a_p1_contents, .ref a_p1_storesIn, .int p1_spells, .ref a_p1_texts, .ref a_p1_cooked, .int p1_cookedSoFar, .int p1_storesSoFar])), (a_p1_contents_many, .inl (cT 0, 6, .inl p1_contents_many)), (a_p1_contents_much, .inl (cT 4, 6, .inr (.inr (.inl p1_contents_much)))), (a_p1_isBroth, .inl (cT 1, 6, .inl p1_isBroth)), (a_p1_low, .inl (cT 0, 6, .inl p1_low)), (a_p1_high, .inl (cT 0, 6, .inl p1_high)), (a_p1_storesIn, .inl (cT 0, 6, .inl p1_storesIn)), (a_p1_texts, .inl (cT 7, 4, .inr (.inr (.inr (.inr p1_texts))))), (a_p1_cooked, .inl (cT 0, 4, .inl p1_cooked))] Hh.size)) 0 0 (va_A [(a_t, .inr (8, [.ref a_t_books, .int t_next, .int t_changes])), (a_p1, .inr (4, [.int p1_cauldrons, .ref a_p1_isBroth, .ref a_p1_low, .ref a_p1_high, .ref a_p1_contents, .ref a_p1_storesIn, .int p1_spells, .ref a_p1_texts, .ref a_p1_cooked, .int p1_cookedSoFar, .int p1_storesSoFar])), (a_p1_contents_many, .inl (cT 0, 6, .inl p1_contents_many)), (a_p1_contents_much, .inl (cT 4, 6, .inr (.inr (.inl p1_contents_much)))), (a_p1_isBroth, .inl (cT 1, 6, .inl p1_isBroth)), (a_p1_low, .inl (cT 0, 6, .inl p1_low)), (a_p1_high, .inl (cT 0, 6, .inl p1_high)), (a_p1_storesIn, .inl (cT 0, 6, .inl p1_storesIn)), (a_p1_texts, .inl (cT 7, 4, .inr (.inr (.inr (.inr p1_texts))))), (a_p1_cooked, .inl (cT 0, 4, .inl p1_cooked))] Hh.size) := by
  refine Met.ofW (cc := cX4_giveBack) (maxL := 2) (ret := none) (by decide) rfl ?_
  intro p e s m args below meth c s₁ B hml hv
  obtain ⟨rfl, hH, hK⟩ := hv
  subst hH
  have hx := B.exec
  have hb := B.bytes
  have hr := B.returns
  have hta : ∀ w ∈ ALLW, w.before [.ref a_t, .ref a_p1].toArray s = true := fun w hw => atoms_spec (ws := wA yX4_giveBack cX4_giveBack 2 none) B.pre w (List.mem_cons_of_mem _ hw)
  have hown : s.vm.findClass RX4 = some m.cls := findClass_of_methodNamed B.named
  have hlocks := B.notSynchronized
  have hD := hD0.self (sz := s.heap.size)
  have hNA := hN0
  generalize hAe : va_A [(a_t, .inr (8, [.ref a_t_books, .int t_next, .int t_changes])), (a_p1, .inr (4, [.int p1_cauldrons, .ref a_p1_isBroth, .ref a_p1_low, .ref a_p1_high, .ref a_p1_contents, .ref a_p1_storesIn, .int p1_spells, .ref a_p1_texts, .ref a_p1_cooked, .int p1_cookedSoFar, .int p1_storesSoFar])), (a_p1_contents_many, .inl (cT 0, 6, .inl p1_contents_many)), (a_p1_contents_much, .inl (cT 4, 6, .inr (.inr (.inl p1_contents_much)))), (a_p1_isBroth, .inl (cT 1, 6, .inl p1_isBroth)), (a_p1_low, .inl (cT 0, 6, .inl p1_low)), (a_p1_high, .inl (cT 0, 6, .inl p1_high)), (a_p1_storesIn, .inl (cT 0, 6, .inl p1_storesIn)), (a_p1_texts, .inl (cT 7, 4, .inr (.inr (.inr (.inr p1_texts))))), (a_p1_cooked, .inl (cT 0, 4, .inl p1_cooked))] s.heap.size = A at hD hNA hSN ⊢
  have hP := hP0
  have hA : ∀ q : Nat, s.heap.size ≤ q → A q := fun q h => by rw [← hAe]; exact Or.inr h
  have hS : va_S A s.heap s.heap [] := va_S.rf
  have hl := lv_entry [.ref a_t, .ref a_p1] (n := 2) (Nat.le_of_ble_eq_true rfl)
  rw [lg_entry_eq]
  generalize (lg_sl [.ref a_t, .ref a_p1] ++ List.replicate (2 - (lg_sl [.ref a_t, .ref a_p1]).length) Slot.unset).toArray = ls at hl ⊢
  have hl : lv_has ls 2 [(0, .ref a_t), (1, .ref a_p1)] := hl
  obtain ⟨Q, hQ⟩ : ∃ Q, Q = MQ below (va_Qv (fun (_ : Unit) => True) (fun _ t => va_P (dC, dI) vwCl [(a_t, .inr (8, [.ref a_t_books, .int o.1, .int o.2.1])), (a_p1, .inr (4, [.int o.2.2.1, .ref a_p1_isBroth, .ref a_p1_low, .ref a_p1_high, .ref a_p1_contents, .ref a_p1_storesIn, .int o.2.2.2.1, .ref a_p1_texts, .ref a_p1_cooked, .int o.2.2.2.2.1, .int o.2.2.2.2.2.1])), (a_p1_contents_many, .inl (cT 0, 6, .inl o.2.2.2.2.2.2.1)), (a_p1_contents_much, .inl (cT 4, 6, .inr (.inr (.inl o.2.2.2.2.2.2.2.1)))), (a_p1_isBroth, .inl (cT 1, 6, .inl o.2.2.2.2.2.2.2.2.1)), (a_p1_low, .inl (cT 0, 6, .inl o.2.2.2.2.2.2.2.2.2.1)), (a_p1_high, .inl (cT 0, 6, .inl o.2.2.2.2.2.2.2.2.2.2.1)), (a_p1_storesIn, .inl (cT 0, 6, .inl o.2.2.2.2.2.2.2.2.2.2.2.1)), (a_p1_texts, .inl (cT 7, 4, .inr (.inr (.inr (.inr o.2.2.2.2.2.2.2.2.2.2.2.2.1))))), (a_p1_cooked, .inl (cT 0, 4, .inl o.2.2.2.2.2.2.2.2.2.2.2.2.2))] t.heap) A) [.ref a_t, .ref a_p1].toArray s 0 0 A := ⟨_, rfl⟩
  rw [← hQ]
  have wB_18 : ∀ (s1_18 : Int32) (H : Heap) (locs : List Loc) (ls : Array Slot), g_X4_giveBack_b18 LS SE t_changes p1_cauldrons p1_spells p1_cookedSoFar p1_storesSoFar t_books bk_cauldrons bk_spells bk_cookedSoFar bk_storesSoFar p1_contents_many bk_contents_many p1_contents_much bk_contents_much p1_isBroth bk_isBroth p1_low bk_low p1_high bk_high p1_storesIn bk_storesIn p1_texts bk_texts p1_cooked bk_cooked a_bk s1_18 = some o → va_P (dC, dI) vwCl [(a_t, .inr (8, [.ref a_t_books, .int t_next, .int t_changes])), (a_p1, .inr (4, [.int p1_cauldrons, .ref a_p1_isBroth, .ref a_p1_low, .ref a_p1_high, .ref a_p1_contents, .ref a_p1_storesIn, .int p1_spells, .ref a_p1_texts, .ref a_p1_cooked, .int p1_cookedSoFar, .int p1_storesSoFar])), (a_p1_contents_many, .inl (cT 0, 6, .inl p1_contents_many)), (a_p1_contents_much, .inl (cT 4, 6, .inr (.inr (.inl p1_contents_much)))), (a_p1_isBroth, .inl (cT 1, 6, .inl p1_isBroth)), (a_p1_low, .inl (cT 0, 6, .inl p1_low)), (a_p1_high, .inl (cT 0, 6, .inl p1_high)), (a_p1_storesIn, .inl (cT 0, 6, .inl p1_storesIn)), (a_p1_texts, .inl (cT 7, 4, .inr (.inr (.inr (.inr p1_texts))))), (a_p1_cooked, .inl (cT 0, 4, .inl p1_cooked))] H → va_D A [(a_t, .inr (8, [.ref a_t_books, .int t_next, .int t_changes])), (a_p1, .inr (4, [.int p1_cauldrons, .ref a_p1_isBroth, .ref a_p1_low, .ref a_p1_high, .ref a_p1_contents, .ref a_p1_storesIn, .int p1_spells, .ref a_p1_texts, .ref a_p1_cooked, .int p1_cookedSoFar, .int p1_storesSoFar])), (a_p1_contents_many, .inl (cT 0, 6, .inl p1_contents_many)), (a_p1_contents_much, .inl (cT 4, 6, .inr (.inr (.inl p1_contents_much)))), (a_p1_isBroth, .inl (cT 1, 6, .inl p1_isBroth)), (a_p1_low, .inl (cT 0, 6, .inl p1_low)), (a_p1_high, .inl (cT 0, 6, .inl p1_high)), (a_p1_storesIn, .inl (cT 0, 6, .inl p1_storesIn)), (a_p1_texts, .inl (cT 7, 4, .inr (.inr (.inr (.inr p1_texts))))), (a_p1_cooked, .inl (cT 0, 4, .inl p1_cooked))] → va_S A s.heap H locs → lv_has ls 2 [(0, .ref a_t), (1, .ref a_p1)] → W p l e ({ frames := 2, cells := 0, slots := 0, locals := 44 } : Room) s m [.ref a_t, .ref a_p1].toArray below meth c H locs 0 0 Q (F0 m 18 ls [.int s1_18, .ref a_t]) := by
    intro s1_18 H locs ls h hP hD hS hl
    unfold g_X4_giveBack_b18 at h
    refine va_put (D := (dC, dI)) (ci := 8) (v := .int s1_18) (ty := .int) (C := RX4) (T := TX4) (N := 3) hx hb hta inX4w tyX4 tyX4_ok nmX4 hown hK hP hD hS 0 rfl rfl 1 (by decide) (hta _ lk_X4_18) (fun _ h9 => h9) rfl (by decide +kernel) rfl rfl (Nat.le_of_ble_eq_true rfl) dX4_giveBack_18 (fun H locs hP hD hS => ?_)
    have hP : va_P (dC, dI) vwCl [(a_t, .inr (8, [.ref a_t_books, .int s1_18, .int t_changes])), (a_p1, .inr (4, [.int p1_cauldrons, .ref a_p1_isBroth, .ref a_p1_low, .ref a_p1_high, .ref a_p1_contents, .ref a_p1_storesIn, .int p1_spells, .ref a_p1_texts, .ref a_p1_cooked, .int p1_cookedSoFar, .int p1_storesSoFar])), (a_p1_contents_many, .inl (cT 0, 6, .inl p1_contents_many)), (a_p1_contents_much, .inl (cT 4, 6, .inr (.inr (.inl p1_contents_much)))), (a_p1_isBroth, .inl (cT 1, 6, .inl p1_isBroth)), (a_p1_low, .inl (cT 0, 6, .inl p1_low)), (a_p1_high, .inl (cT 0, 6, .inl p1_high)), (a_p1_storesIn, .inl (cT 0, 6, .inl p1_storesIn)), (a_p1_texts, .inl (cT 7, 4, .inr (.inr (.inr (.inr p1_texts))))), (a_p1_cooked, .inl (cT 0, 4, .inl p1_cooked))] H := hP
    have hD : va_D A [(a_t, .inr (8, [.ref a_t_books, .int s1_18, .int t_changes])), (a_p1, .inr (4, [.int p1_cauldrons, .ref a_p1_isBroth, .ref a_p1_low, .ref a_p1_high, .ref a_p1_contents, .ref a_p1_storesIn, .int p1_spells, .ref a_p1_texts, .ref a_p1_cooked, .int p1_cookedSoFar, .int p1_storesSoFar])), (a_p1_contents_many, .inl (cT 0, 6, .inl p1_contents_many)), (a_p1_contents_much, .inl (cT 4, 6, .inr (.inr (.inl p1_contents_much)))), (a_p1_isBroth, .inl (cT 1, 6, .inl p1_isBroth)), (a_p1_low, .inl (cT 0, 6, .inl p1_low)), (a_p1_high, .inl (cT 0, 6, .inl p1_high)), (a_p1_storesIn, .inl (cT 0, 6, .inl p1_storesIn)), (a_p1_texts, .inl (cT 7, 4, .inr (.inr (.inr (.inr p1_texts))))), (a_p1_cooked, .inl (cT 0, 4, .inl p1_cooked))] := hD
    refine lv_aload_n hx hb dX4_giveBack_21 rfl (lv_at hl 1 rfl) ?_
    refine lv_aload_n hx hb dX4_giveBack_22 rfl (lv_at hl 0 rfl) ?_
    refine va_get (D := (dC, dI)) (ci := 8) (v := .ref a_t_books) (C := RX4) (T := TX4) (N := 3) hx hb hta inX4w hown hK hP 0 rfl rfl 0 (by decide) (hta _ lk_X4_11) (fun _ h9 => h9) rfl dX4_giveBack_23 ?_
    refine lv_aload_n hx hb dX4_giveBack_26 rfl (lv_at hl 0 rfl) ?_
    refine va_get (D := (dC, dI)) (ci := 8) (v := .int s1_18) (C := RX4) (T := TX4) (N := 3) hx hb hta inX4w hown hK hP 0 rfl rfl 1 (by decide) (hta _ lk_X4_18) (fun _ h9 => h9) rfl dX4_giveBack_27 ?_
    obtain ⟨hc, h⟩ := gc_some h
    refine va_aldq hx hb hK (rk hR0 hNA hS) 0 8 rfl rfl (inb_in hc) dX4_giveBack_30 ?_
    obtain ⟨hc, h⟩ := gc_some h
    rw [of_decide_eq_true hc]
    refine W.eq (g2 := F0 m 31 ls [.ref a_bk, .ref a_p1]) rfl ?_
    obtain ⟨r1, hq, h⟩ := gb_some h
    refine cxV (X2 := [(a_t, .inr (8, [.ref a_t_books, .int s1_18, .int t_changes])), (a_p1, .inr (4, [.int r1.1, .ref a_p1_isBroth, .ref a_p1_low, .ref a_p1_high, .ref a_p1_contents, .ref a_p1_storesIn, .int r1.2.1, .ref a_p1_texts, .ref a_p1_cooked, .int r1.2.2.1, .int r1.2.2.2.1])), (a_p1_contents_many, .inl (cT 0, 6, .inl r1.2.2.2.2.1)), (a_p1_contents_much, .inl (cT 4, 6, .inr (.inr (.inl r1.2.2.2.2.2.1)))), (a_p1_isBroth, .inl (cT 1, 6, .inl r1.2.2.2.2.2.2.1)), (a_p1_low, .inl (cT 0, 6, .inl r1.2.2.2.2.2.2.2.1)), (a_p1_high, .inl (cT 0, 6, .inl r1.2.2.2.2.2.2.2.2.1)), (a_p1_storesIn, .inl (cT 0, 6, .inl r1.2.2.2.2.2.2.2.2.2.1)), (a_p1_texts, .inl (cT 7, 4, .inr (.inr (.inr (.inr r1.2.2.2.2.2.2.2.2.2.2.1))))), (a_p1_cooked, .inl (cT 0, 4, .inl r1.2.2.2.2.2.2.2.2.2.2.2))]) (va_runV (As := [.ref a_bk]) (rest := []) ⟨hx, hb, hml, hown, hta⟩ (c_X0_copy l dC dI cT hq (hP.sub (ws' := [(a_p1, .inr (4, [.int p1_cauldrons, .ref a_p1_isBroth, .ref a_p1_low, .ref a_p1_high, .ref a_p1_contents, .ref a_p1_storesIn, .int p1_spells, .ref a_p1_texts, .ref a_p1_cooked, .int p1_cookedSoFar, .int p1_storesSoFar])), (a_p1_contents_many, .inl (cT 0, 6, .inl p1_contents_many)), (a_p1_contents_much, .inl (cT 4, 6, .inr (.inr (.inl p1_contents_much)))), (a_p1_isBroth, .inl (cT 1, 6, .inl p1_isBroth)), (a_p1_low, .inl (cT 0, 6, .inl p1_low)), (a_p1_high, .inl (cT 0, 6, .inl p1_high)), (a_p1_storesIn, .inl (cT 0, 6, .inl p1_storesIn)), (a_p1_texts, .inl (cT 7, 4, .inr (.inr (.inr (.inr p1_texts))))), (a_p1_cooked, .inl (cT 0, 4, .inl p1_cooked))]) [1, 2, 3, 4, 5, 6, 7, 8, 9] rfl) ((va_P.app hP (rk hR0 hNA hS)).sub (ws' := [(a_bk, .inr (4, [.int bk_cauldrons, .ref a_bk_isBroth, .ref a_bk_low, .ref a_bk_high, .ref a_bk_contents, .ref a_bk_storesIn, .int bk_spells, .ref a_bk_texts, .ref a_bk_cooked, .int bk_cookedSoFar, .int bk_storesSoFar])), (a_p1_contents, .inr (5, [.ref a_p1_contents_many, .ref a_p1_contents_much])), (a_bk_contents, .inr (5, [.ref a_bk_contents_many, .ref a_bk_contents_much])), (a_bk_contents_many, .inl (cT 0, 6, .inl bk_contents_many)), (a_bk_contents_much, .inl (cT 4, 6, .inr (.inr (.inl bk_contents_much)))), (a_bk_isBroth, .inl (cT 1, 6, .inl bk_isBroth)), (a_bk_low, .inl (cT 0, 6, .inl bk_low)), (a_bk_high, .inl (cT 0, 6, .inl bk_high)), (a_bk_storesIn, .inl (cT 0, 6, .inl bk_storesIn)), (a_bk_texts, .inl (cT 7, 4, .inr (.inr (.inr (.inr bk_texts))))), (a_bk_cooked, .inl (cT 0, 4, .inl bk_cooked))]) [11, 12, 13, 14, 15, 16, 17, 18, 19, 20, 21] rfl) (ds hD [1, 2, 3, 4, 5, 6, 7, 8, 9] (by decide) rfl) (nac hP hD [1, 2, 3, 4, 5, 6, 7, 8, 9] rfl (va_free hD hS hA [1, 2, 3, 4, 5, 6, 7, 8, 9] rfl) hNA [.inl 1, .inl 2, .inl 3, .inl 4, .inl 5, .inl 6, .inl 7, .inl 8, .inl 9, .inl 10, .inl 11] rfl rfl) (sq := sq) (hSP := (fun a9 ha9 => rk (hSP a9 ha9) (hSN a9 ha9) hS)) (hSN := fun a9 ha9 k9 q9 hk9 hq9 => hSN a9 ha9 k9 q9 hk9 (va_free hD hS hA [1, 2, 3, 4, 5, 6, 7, 8, 9] rfl q9.1 hq9))) (cV hta lm_X4_22 md_X0_copy ⟨(Nat.le_of_ble_eq_true rfl), (Nat.le_of_ble_eq_true rfl)⟩) ⟨fbK, va_recv hK hP (ci := 4) (q0 := 1) rfl rfl, fun U hU hW => ⟨rfl, hU, va_K.moved hW.alike hK⟩⟩ rfl rfl hl.1 rfl (lv_room (Nat.le_of_ble_eq_true rfl)) dX4_giveBack_31 ⟨(Nat.le_of_ble_eq_true rfl), (Nat.le_of_ble_eq_true rfl)⟩) hS hA hP hD [1, 2, 3, 4, 5, 6, 7, 8, 9] rfl [.inr 0, .inl 0, .inl 1, .inl 2, .inl 3, .inl 4, .inl 5, .inl 6, .inl 7, .inl 8] rfl rfl rfl (fun H locs hP hD hS => ?_)
    refine lv_aload_n hx hb dX4_giveBack_34 rfl (lv_at hl 0 rfl) ?_
    refine lv_dup hx hb dX4_giveBack_35 rfl ?_
    refine va_get (D := (dC, dI)) (ci := 8) (v := .int t_changes) (C := RX4) (T := TX4) (N := 3) hx hb hta inX4w hown hK hP 0 rfl rfl 2 (by decide) (hta _ lk_X4_26) (fun _ h9 => h9) rfl dX4_giveBack_36 ?_
    refine lv_iconst (v := 1) hx hb dX4_giveBack_39 (by decide) ?_
    refine lv_isub hx hb dX4_giveBack_40 ?_
    refine lv_topi (fun v2 e_v2 => ?_)
    have h := gl_use e_v2 h
    refine va_put (D := (dC, dI)) (ci := 8) (v := .int v2) (ty := .int) (C := RX4) (T := TX4) (N := 3) hx hb hta inX4w tyX4 tyX4_ok nmX4 hown hK hP hD hS 0 rfl rfl 2 (by decide) (hta _ lk_X4_26) (fun _ h9 => h9) rfl (by decide +kernel) rfl rfl (Nat.le_of_ble_eq_true rfl) dX4_giveBack_41 (fun H locs hP hD hS => ?_)
    have hP : va_P (dC, dI) vwCl [(a_t, .inr (8, [.ref a_t_books, .int s1_18, .int v2])), (a_p1, .inr (4, [.int r1.1, .ref a_p1_isBroth, .ref a_p1_low, .ref a_p1_high, .ref a_p1_contents, .ref a_p1_storesIn, .int r1.2.1, .ref a_p1_texts, .ref a_p1_cooked, .int r1.2.2.1, .int r1.2.2.2.1])), (a_p1_contents_many, .inl (cT 0, 6, .inl r1.2.2.2.2.1)), (a_p1_contents_much, .inl (cT 4, 6, .inr (.inr (.inl r1.2.2.2.2.2.1)))), (a_p1_isBroth, .inl (cT 1, 6, .inl r1.2.2.2.2.2.2.1)), (a_p1_low, .inl (cT 0, 6, .inl r1.2.2.2.2.2.2.2.1)), (a_p1_high, .inl (cT 0, 6, .inl r1.2.2.2.2.2.2.2.2.1)), (a_p1_storesIn, .inl (cT 0, 6, .inl r1.2.2.2.2.2.2.2.2.2.1)), (a_p1_texts, .inl (cT 7, 4, .inr (.inr (.inr (.inr r1.2.2.2.2.2.2.2.2.2.2.1))))), (a_p1_cooked, .inl (cT 0, 4, .inl r1.2.2.2.2.2.2.2.2.2.2.2))] H := hP
    have hD : va_D A [(a_t, .inr (8, [.ref a_t_books, .int s1_18, .int v2])), (a_p1, .inr (4, [.int r1.1, .ref a_p1_isBroth, .ref a_p1_low, .ref a_p1_high, .ref a_p1_contents, .ref a_p1_storesIn, .int r1.2.1, .ref a_p1_texts, .ref a_p1_cooked, .int r1.2.2.1, .int r1.2.2.2.1])), (a_p1_contents_many, .inl (cT 0, 6, .inl r1.2.2.2.2.1)), (a_p1_contents_much, .inl (cT 4, 6, .inr (.inr (.inl r1.2.2.2.2.2.1)))), (a_p1_isBroth, .inl (cT 1, 6, .inl r1.2.2.2.2.2.2.1)), (a_p1_low, .inl (cT 0, 6, .inl r1.2.2.2.2.2.2.2.1)), (a_p1_high, .inl (cT 0, 6, .inl r1.2.2.2.2.2.2.2.2.1)), (a_p1_storesIn, .inl (cT 0, 6, .inl r1.2.2.2.2.2.2.2.2.2.1)), (a_p1_texts, .inl (cT 7, 4, .inr (.inr (.inr (.inr r1.2.2.2.2.2.2.2.2.2.2.1))))), (a_p1_cooked, .inl (cT 0, 4, .inl r1.2.2.2.2.2.2.2.2.2.2.2))] := hD
    have ho := Option.some.inj h
    rw [hQ]
    exact W.vret hx hb hr (fun t ht hW => ⟨⟨(), rfl, trivial, by show va_P (dC, dI) vwCl _ t.heap; rw [ht, ← ho]; exact hP⟩, hS.F ht⟩) hS.2.2 dX4_giveBack_44
  unfold g_X4_giveBack at h
  refine lv_aload_n hx hb dX4_giveBack_0 rfl (lv_at hl 0 rfl) ?_
  refine lv_aload_n hx hb dX4_giveBack_1 rfl (lv_at hl 0 rfl) ?_
  refine va_get (D := (dC, dI)) (ci := 8) (v := .int t_next) (C := RX4) (T := TX4) (N := 3) hx hb hta inX4w hown hK hP 0 rfl rfl 1 (by decide) (hta _ lk_X4_18) (fun _ h9 => h9) rfl dX4_giveBack_2 ?_
  refine lv_if_le (tgt := 17) hx hb dX4_giveBack_5 (by decide) (fun c0 => ?_) (fun c0 => ?_)
  · have h := (if_pos c0).symm.trans h
    refine lv_iconst (v := 5) hx hb dX4_giveBack_17 (by decide) ?_
    exact wB_18 5 _ _ _ h hP hD hS (lv_sub hl [0, 1] rfl)
  · have h := (if_neg c0).symm.trans h
    refine lv_aload_n hx hb dX4_giveBack_8 rfl (lv_at hl 0 rfl) ?_
    refine va_get (D := (dC, dI)) (ci := 8) (v := .int t_next) (C := RX4) (T := TX4) (N := 3) hx hb hta inX4w hown hK hP 0 rfl rfl 1 (by decide) (hta _ lk_X4_18) (fun _ h9 => h9) rfl dX4_giveBack_9 ?_
    refine lv_iconst (v := 1) hx hb dX4_giveBack_12 (by decide) ?_
    refine lv_isub hx hb dX4_giveBack_13 ?_
    refine lv_goto (tgt := 18) hx hb dX4_giveBack_14 (by decide) ?_
    exact wB_18 (t_next - 1) _ _ _ h hP hD hS (lv_sub hl [0, 1] rfl)
