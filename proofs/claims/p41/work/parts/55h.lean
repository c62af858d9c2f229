set_option maxHeartbeats 4000000 in
set_option maxRecDepth 100000 in
theorem c_L_unlike (l : Launch) (dC : Nat → ClassId) (dI : Nat → Nat → Nat) (cT : Nat → ClassId) {Hh : Heap} {a_p1 : Nat} {a_p2 : Nat} {n_p1 : Nat} {n_p2 : Nat} {p1 : Nat → Int32} {p2 : Nat → Int32} {o : Int32} (h : g_L_unlike n_p1 n_p2 p1 p2 = some o) (hR0 : va_P (dC, dI) vwCl [(a_p1, .inl (cT 0, n_p1, .inl p1)), (a_p2, .inl (cT 0, n_p2, .inl p2))] Hh) : Met l yL_unlike (wA yL_unlike cL_unlike 4 (some .int)) ({ frames := 0, cells := 0, slots := 0, locals := 0 } : Room) (PK dC dI cT [.ref a_p1, .ref a_p2] Hh) (va_Qi (fun x (_ : Unit) => x = o) (fun _ t => t.heap = Hh) (va_A [] Hh.size)) 0 0 (va_A [] Hh.size) := by
  refine Met.ofW (cc := cL_unlike) (maxL := 4) (ret := (some .int)) (by decide) rfl ?_
  intro p e s m args below meth c s₁ B hml hv
  obtain ⟨rfl, hH, hK⟩ := hv
  subst hH
  have hx := B.exec
  have hb := B.bytes
  have hr := B.returns
  have hta : ∀ w ∈ ALLW, w.before [.ref a_p1, .ref a_p2].toArray s = true := fun w hw => atoms_spec (ws := wA yL_unlike cL_unlike 4 (some .int)) B.pre w (List.mem_cons_of_mem _ hw)
  have hown : s.vm.findClass RL = some m.cls := findClass_of_methodNamed B.named
  have hlocks := B.notSynchronized
  generalize hAe : va_A [] s.heap.size = A
  have hA : ∀ q : Nat, s.heap.size ≤ q → A q := fun q h => by rw [← hAe]; exact Or.inr h
  have hS : va_S A s.heap s.heap [] := va_S.rf
  have hl := lv_entry [.ref a_p1, .ref a_p2] (n := 4) (Nat.le_of_ble_eq_true rfl)
  rw [lg_entry_eq]
  generalize (lg_sl [.ref a_p1, .ref a_p2] ++ List.replicate (4 - (lg_sl [.ref a_p1, .ref a_p2]).length) Slot.unset).toArray = ls at hl ⊢
  have hl : lv_has ls 4 [(0, .ref a_p1), (1, .ref a_p2)] := hl
  obtain ⟨Q, hQ⟩ : ∃ Q, Q = MQ below (va_Qi (fun x (_ : Unit) => x = o) (fun _ t => t.heap = s.heap) A) [.ref a_p1, .ref a_p2].toArray s 0 0 A := ⟨_, rfl⟩
  rw [← hQ]
  have wB_4 : ∀ (n_4 : Nat), ∀ (x2_4 : Int32) (x3_4 : Int32) (locs : List Loc) (ls : Array Slot), g_L_unlike_b4 n_p1 n_p2 p1 p2 n_4 x2_4 x3_4 = some o → va_S A s.heap s.heap locs → lv_has ls 4 [(0, .ref a_p1), (1, .ref a_p2), (2, .int x2_4), (3, .int x3_4)] → W p l e ({ frames := 0, cells := 0, slots := 0, locals := 0 } : Room) s m [.ref a_p1, .ref a_p2].toArray below meth c s.heap locs 0 0 Q (F0 m 4 ls []) := by
    intro n_4
    induction n_4 with
    | zero =>
      intro x2_4 x3_4 locs ls h hS hl
      simp [g_L_unlike_b4] at h
    | succ n_4 ih_4 =>
      have wB_25 : ∀ (x3_25 : Int32) (s0_25 : Int32) (s1_25 : Int32) (locs : List Loc) (ls : Array Slot), g_L_unlike_b25 n_p1 n_p2 p1 p2 (g_L_unlike_b4 n_p1 n_p2 p1 p2 n_4) x3_25 s0_25 s1_25 = some o → va_S A s.heap s.heap locs → lv_has ls 4 [(0, .ref a_p1), (1, .ref a_p2), (3, .int x3_25)] → W p l e ({ frames := 0, cells := 0, slots := 0, locals := 0 } : Room) s m [.ref a_p1, .ref a_p2].toArray below meth c s.heap locs 0 0 Q (F0 m 25 ls [.int s1_25, .int s0_25]) := by
        intro x3_25 s0_25 s1_25 locs ls h hS hl
        unfold g_L_unlike_b25 at h
        refine lv_iadd hx hb dL_unlike_25 ?_
        refine lv_topi (fun v1 e_v1 => ?_)
        have h := gl_use e_v1 h
        refine lv_istore_n (lv' := [(2, .int v1), (0, .ref a_p1), (1, .ref a_p2), (3, .int x3_25)]) hx hb dL_unlike_26 rfl hl (by decide) rfl (fun ls hl => ?_)
        obtain ⟨v2, e_v2⟩ : ∃ y : Int32, y = x3_25 + 1 := ⟨_, rfl⟩
        have h := gl_use e_v2 h
        refine lv_iinc (v := v2) (lv' := [(3, .int v2), (2, .int v1), (0, .ref a_p1), (1, .ref a_p2)]) hx hb dL_unlike_27 hl (k := 3) rfl (by rw [e_v2]; rfl) (by decide) rfl (fun ls hl => ?_)
        refine lv_goto (tgt := 4) hx hb dL_unlike_30 (by decide) ?_
        exact ih_4 v1 v2 _ _ h hS (lv_sub hl [2, 3, 1, 0] rfl)
      intro x2_4 x3_4 locs ls h hS hl
      rw [g_L_unlike_b4] at h
      refine lv_iload_n hx hb dL_unlike_4 rfl (lv_at hl 3 rfl) ?_
      refine lv_aload_n hx hb dL_unlike_5 rfl (lv_at hl 0 rfl) ?_
      refine va_alen hx hb hK hR0 0 0 rfl rfl rfl dL_unlike_6 ?_
      refine lv_icmp_ge (tgt := 33) hx hb dL_unlike_7 (by decide) (fun c0 => ?_) (fun c0 => ?_)
      · have h := (if_pos c0).symm.trans h
        refine lv_iload_n hx hb dL_unlike_33 rfl (lv_at hl 2 rfl) ?_
        have ho := Option.some.inj h
        rw [hQ]
        exact W.iret (v := x2_4) hx hb hr (fun t ht hW => ⟨⟨x2_4, (), rfl, by rw [← ho], ht⟩, hS.F ht⟩) hS.2.2 dL_unlike_34
      · have h := (if_neg c0).symm.trans h
        refine lv_iload_n hx hb dL_unlike_10 rfl (lv_at hl 2 rfl) ?_
        refine lv_aload_n hx hb dL_unlike_11 rfl (lv_at hl 0 rfl) ?_
        refine lv_iload_n hx hb dL_unlike_12 rfl (lv_at hl 3 rfl) ?_
        obtain ⟨hc, h⟩ := gc_some h
        refine va_iald hx hb hK hR0 0 0 rfl rfl (inb_in hc) dL_unlike_13 ?_
        refine lv_aload_n hx hb dL_unlike_14 rfl (lv_at hl 1 rfl) ?_
        refine lv_iload_n hx hb dL_unlike_15 rfl (lv_at hl 3 rfl) ?_
        obtain ⟨hc, h⟩ := gc_some h
        refine va_iald hx hb hK hR0 1 0 rfl rfl (inb_in hc) dL_unlike_16 ?_
        refine lv_icmp_ne (tgt := 24) hx hb dL_unlike_17 (by decide) (fun c0 => ?_) (fun c0 => ?_)
        · have h := (if_neg c0).symm.trans h
          refine lv_iconst (v := 1) hx hb dL_unlike_24 (by decide) ?_
          exact wB_25 x3_4 x2_4 1 _ _ h hS (lv_sub hl [0, 1, 3] rfl)
        · have h := (if_pos c0).symm.trans h
          refine lv_iconst (v := 0) hx hb dL_unlike_20 (by decide) ?_
          refine lv_goto (tgt := 25) hx hb dL_unlike_21 (by decide) ?_
          exact wB_25 x3_4 x2_4 0 _ _ h hS (lv_sub hl [0, 1, 3] rfl)
  unfold g_L_unlike at h
  refine lv_iconst (v := 0) hx hb dL_unlike_0 (by decide) ?_
  refine lv_istore_n (lv' := [(2, .int 0), (0, .ref a_p1), (1, .ref a_p2)]) hx hb dL_unlike_1 rfl hl (by decide) rfl (fun ls hl => ?_)
  refine lv_iconst (v := 0) hx hb dL_unlike_2 (by decide) ?_
  refine lv_istore_n (lv' := [(3, .int 0), (2, .int 0), (0, .ref a_p1), (1, .ref a_p2)]) hx hb dL_unlike_3 rfl hl (by decide) rfl (fun ls hl => ?_)
  exact wB_4 100 0 0 _ _ h hS (lv_sub hl [2, 3, 1, 0] rfl)
