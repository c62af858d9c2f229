/-! a callee whose world has cells at places of their own (gen/tellg.py) -/
section METT
variable {dC : Nat → ClassId} {dI : Nat → Nat → Nat} {cT : Nat → ClassId} {l : Launch} {y : MethodName} {ws : List Cond} {rm : Room} {mc ms : Nat} {Hh : Heap} {wc wr X pl : va_W} {av : List Value}
theorem metT {S : Type} {post : Int32 → S → Prop} {w2 X3 : S → va_W} {Pc : Array Value → State → Prop} (hM : Met l y ws rm Pc (va_Qi post (fun u t => va_P (dC, dI) vwCl (w2 u) t.heap ∧ va_D (va_A wc Hh.size) (w2 u)) (va_A wc Hh.size)) mc ms (va_A wc Hh.size)) (hPc : ∀ a U, PU dC dI cT av Hh (va_A (X ++ pl) Hh.size) a U → Pc a U) (hP : va_P (dC, dI) vwCl (X ++ pl) Hh) (hD : va_D (fun _ => True) (X ++ pl)) (isC isR : List Nat) (hC : isC.map (fun i => X[i]?) = wc.map some) (hR : isR.map (fun i => X[i]?) = wr.map some) (hnR : va_nd isR = true) (hdis : ∀ i ∈ isR, i ∉ isC) (is : List Nat) (hnd : va_nd is = true) (hs : ∀ u, is.map (fun i => (wr ++ w2 u)[i]?) = (X3 u).map some)
    {K : Int32 → va_W → Prop} (hK : ∀ r u, post r u → K r (X3 u ++ pl)) : Met l y ws rm (PU dC dI cT av Hh (va_A (X ++ pl) Hh.size)) (QEI dC dI K (va_A (X ++ pl) Hh.size)) mc ms (va_A (X ++ pl) Hh.size) := by
  refine MetFree.mono hM hPc (fun _ _ _ _ _ _ => trivial) (fun a s o t hp hq => ?_)
  obtain ⟨⟨⟨x, u, rfl, hpo, hB, hB2⟩, hz, hk⟩, L, hF, hL⟩ := hq
  have hH : s.heap = Hh := hp.2.1
  rw [hH] at hz hk
  have hD9 : va_D (va_A (X ++ pl) Hh.size) (X ++ pl) := hD.self
  obtain ⟨h3, h4⟩ := va_join (P_l hP) (D_l hD9) isC isR hC hR hnR hdis hk (subA isC hC) hB hB2
  have aw : ∀ {k : Nat} {q : Nat × va_E}, pl[k]? = some q → ¬ va_A wc Hh.size q.1 := fun {k q} hq hA => na_r hP hD isC hC k q hq hA
  have hPl : va_P (dC, dI) vwCl pl t.heap := (P_r hP).kept (fun k q hq => hk q.1 ((P_r hP) k q hq).lt (aw hq))
  have h5 : va_P (dC, dI) vwCl (X3 u ++ pl) t.heap := (P_s h3 is (hs u)).app hPl
  have h6 : va_D (va_A (X ++ pl) Hh.size) (X3 u ++ pl) := (h4.sub is hnd (hs u)).app (D_r hD9) (fun i j p q hi hj e9 => by
    obtain ⟨k, hk9⟩ := at_sub (hs u) hi
    rcases List.mem_append.mp (List.mem_of_getElem? hk9) with z | z
    · obtain ⟨k2, hk2⟩ := List.getElem?_of_mem z
      obtain ⟨k3, hk3⟩ := at_sub hR hk2
      exact D_x hD9 hk3 hj e9
    · obtain ⟨k2, hk2⟩ := List.getElem?_of_mem z
      have := hB2.2 k2 p hk2
      rw [e9] at this
      exact aw hj this)
  exact ⟨⟨⟨_, _, rfl, hK _ _ hpo, h5, h6⟩, by rw [hH]; exact hz, fun q h1 h9 => by rw [hH] at h1 ⊢; exact hk q h1 (fun z => h9 (subA isC hC q z))⟩, L, hF, fun q hq => subA isC hC _ (hL q hq)⟩
end METT
