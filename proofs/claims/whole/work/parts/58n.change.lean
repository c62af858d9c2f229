/-! THE CALLS that change: rules for a call inside another, books with a cauldron changed -/
section CHG
variable {LS : List Nat} {SE : Nat → SV} {RA : Nat → BK} {nx ch n4 a : Nat} {b sb : BK} {past be s rf sv : Nat → Int32} {pastF beF f svF : Nat → UInt32} {kp rs de hc ca cd th p1 p2 p3 bd le ke isv : Int32} {ans : Nat → Int64} {bks : Nat → Option Nat}
section BRULES
variable {α β γ : Type} {P : α → Prop} {g : γ → Option α}
theorem ba {o : Option β} {k : β → Option γ} (h : Ok (gb o fun x => gb (k x) g) P) : Ok (gb (gb o k) g) P := by
  cases o with
  | none => obtain ⟨x, h1, h2⟩ := h; cases h1
  | some y => exact h
theorem bt {c : Prop} [Decidable c] {x y : Option γ} (hc : c) (h : Ok (gb x g) P) : Ok (gb (if c then x else y) g) P := by rw [if_pos hc]; exact h
theorem bf {c : Prop} [Decidable c] {x y : Option γ} (hc : ¬ c) (h : Ok (gb y g) P) : Ok (gb (if c then x else y) g) P := by rw [if_neg hc]; exact h
theorem bc {b : Bool} {k : Option γ} (hb : b = true) (h : Ok (gb k g) P) : Ok (gb (gc b k) g) P := by rw [e_gc hb]; exact h
theorem bl {a : β} {k : β → Option γ} (h : Ok (gb (k a) g) P) : Ok (gb (gl a k) g) P := h
theorem bs {x : γ} (h : Ok (g x) P) : Ok (gb (some x) g) P := h
theorem bgs {n : Option γ} {k : Nat → Option γ} {a : Nat} (h : Ok (gb (k a) g) P) : Ok (gb (go (some a) n k) g) P := h
theorem bbe {o : Option β} {k : β → Option γ} {x : β} (e : o = some x) (h : Ok (gb (k x) g) P) : Ok (gb (gb o k) g) P := by rw [e]; exact h
end BRULES
theorem BR_back2 (h : BR LS SE b s f) (s' : Nat → Int32) (f' : Nat → UInt32) : BR LS SE b (va_cpy (va_cpy s be 0 0 282) s' 0 0 282) (va_cpy (va_cpy f beF 0 0 6) f' 0 0 6) := BR_ag' h (BE_r _) (AG_t (AG_cpy _ _ _) (AG_cpy _ _ _)) (AG_t (AG_cpy _ _ _) (AG_cpy _ _ _))
theorem SPM_rows {i : Nat} {x : TX} {s' : Nat → Int32} (h : SPM s i x) (hx : x.1 ≤ 60) (e : ∀ j, 1 ≤ j → j ≤ 61 → s' (34 + 62 * i + j) = s (34 + 62 * i + j)) : SPM s' i x := by
  refine ⟨(e 1 (by omega) (by omega)).trans h.1, fun j hj => ?_⟩
  have h2 := e (2 + j) (by omega) (by omega)
  rw [show 34 + 62 * i + (2 + j) = 34 + 62 * i + 2 + j by omega] at h2
  exact h2.trans (h.2 j hj)
/-- a book whose cauldrons, counts and stores are others; its texts the same -/
theorem BR_gen {nc ns : Nat} {X : Nat → TX} {b' : BK} {s' : Nat → Int32} {f' : Nat → UInt32} (h : BRx LS SE nc ns X b s f) (e1 : b'.1 = b.1) (e2 : b'.2.1 = b.2.1) (et : b'.2.2.2.2.2.2.2.2.2.2.1 = b.2.2.2.2.2.2.2.2.2.2.1) (h0 : s' 0 = s 0) (h1 : s' 1 = s 1) (h2 : s' 2 = b'.2.2.1) (h3 : s' 3 = b'.2.2.2.1) (hX : CX b'.2.2.2.2.2.2.1 b'.2.2.2.2.2.2.2.1 b'.2.2.2.2.2.2.2.2.1 b'.2.2.2.2.1 b'.2.2.2.2.2.1) (hS : CS s' f' b'.2.2.2.2.2.2.1 b'.2.2.2.2.2.2.2.1 b'.2.2.2.2.2.2.2.2.1 b'.2.2.2.2.1 b'.2.2.2.2.2.2.2.2.2.1 b'.2.2.2.2.2.1) (hc : ∀ i, i < ns → s' (34 + 62 * i) = b'.2.2.2.2.2.2.2.2.2.2.2 i) (hr : ∀ i, i < ns → ∀ j, 1 ≤ j → j ≤ 61 → s' (34 + 62 * i + j) = s (34 + 62 * i + j)) : BRx LS SE nc ns X b' s' f' := by
  obtain ⟨g1, g2, g3, g4, g5, g6, g7, g8, g9, g10, g11⟩ := h
  refine ⟨g1, g2, e1.trans g3, e2.trans g4, h0.trans g5, h1.trans g6, h2, h3, hX, hS, fun i hi => ?_, fun i hi => by rw [et]; exact g11.2 i hi⟩
  obtain ⟨⟨a, a1, a2⟩, a3, a4, a5⟩ := g11.1 i hi
  exact ⟨⟨a, by rw [et]; exact a1, a2⟩, a3, SPM_rows a4 a3.1 (hr i hi), hc i hi⟩
/-- one cauldron changed -/
theorem BR_one {nc ns : Nat} {X : Nat → TX} {c : Nat} {mn' lo' hi' s' : Nat → Int32} {mu' f' : Nat → UInt32} (h : BRx LS SE nc ns X b s f) (hc : c < 6)
    (o1 : ∀ d, d ≠ c → mn' d = b.2.2.2.2.1 d ∧ mu' d = b.2.2.2.2.2.1 d ∧ lo' d = b.2.2.2.2.2.2.2.1 d ∧ hi' d = b.2.2.2.2.2.2.2.2.1 d ∧ f' d = f d) (o2 : ∀ j, j ≠ 4 + 5 * c + 1 → j ≠ 4 + 5 * c + 2 → j ≠ 4 + 5 * c + 3 → s' j = s j)
    (t1 : s' (4 + 5 * c + 1) = lo' c) (t2 : s' (4 + 5 * c + 2) = hi' c) (t3 : s' (4 + 5 * c + 3) = mn' c) (t4 : f' c = mu' c)
    (u : CANH (b.2.2.2.2.2.2.1 c, mn' c, mu' c) ∧ -99 ≤ (lo' c).toInt ∧ (hi' c).toInt ≤ 99 ∧ (lo' c).toInt ≤ (hi' c).toInt ∧ (b.2.2.2.2.2.2.1 c = 0 → (lo' c).toInt ≤ (mn' c).toInt ∧ (mn' c).toInt ≤ (hi' c).toInt)) :
    BRx LS SE nc ns X (b.1, b.2.1, b.2.2.1, b.2.2.2.1, mn', mu', b.2.2.2.2.2.2.1, lo', hi', b.2.2.2.2.2.2.2.2.2.1, b.2.2.2.2.2.2.2.2.2.2.1, b.2.2.2.2.2.2.2.2.2.2.2) s' f' := by
  obtain ⟨g1, g2, g3, g4, g5, g6, g7, g8, g9, g10, g11⟩ := id h
  refine BR_gen h rfl rfl rfl (o2 0 (by omega) (by omega) (by omega)) (o2 1 (by omega) (by omega) (by omega)) ((o2 2 (by omega) (by omega) (by omega)).trans g7) ((o2 3 (by omega) (by omega) (by omega)).trans g8) (fun d hd => ?_) (fun d hd => ?_) (fun i hi => (o2 _ (by omega) (by omega) (by omega)).trans (g11.1 i hi).2.2.2) (fun i hi j h1 h2 => o2 _ (by omega) (by omega) (by omega))
  · show CANH (b.2.2.2.2.2.2.1 d, mn' d, mu' d) ∧ -99 ≤ (lo' d).toInt ∧ (hi' d).toInt ≤ 99 ∧ (lo' d).toInt ≤ (hi' d).toInt ∧ (b.2.2.2.2.2.2.1 d = 0 → (lo' d).toInt ≤ (mn' d).toInt ∧ (mn' d).toInt ≤ (hi' d).toInt)
    by_cases e : d = c
    · rw [e]; exact u
    · obtain ⟨p1, p2, p3, p4, -⟩ := o1 d e
      rw [p1, p2, p3, p4]
      exact g9 d hd
  · show s' (4 + 5 * d) = b.2.2.2.2.2.2.1 d ∧ s' (4 + 5 * d + 1) = lo' d ∧ s' (4 + 5 * d + 2) = hi' d ∧ s' (4 + 5 * d + 3) = mn' d ∧ s' (4 + 5 * d + 4) = b.2.2.2.2.2.2.2.2.2.1 d ∧ f' d = mu' d
    obtain ⟨q1, q2, q3, q4, q5, q6⟩ := g10 d hd
    have r1 := (o2 (4 + 5 * d) (by omega) (by omega) (by omega)).trans q1
    have r5 := (o2 (4 + 5 * d + 4) (by omega) (by omega) (by omega)).trans q5
    by_cases e : d = c
    · rw [e] at r1 r5 ⊢
      exact ⟨r1, t1, t2, t3, r5, t4⟩
    · obtain ⟨p1, p2, p3, p4, p5⟩ := o1 d e
      rw [p1, p2, p3, p4, p5]
      exact ⟨r1, (o2 (4 + 5 * d + 1) (by omega) (by omega) (by omega)).trans q2, (o2 (4 + 5 * d + 2) (by omega) (by omega) (by omega)).trans q3, (o2 (4 + 5 * d + 3) (by omega) (by omega) (by omega)).trans q4, r5, q6⟩
theorem k_needDrams {kd : Nat → Int32} {c : Nat} {hc9 : Int32} (hc : c < 6) : g_X11_needDrams kd kp rs de hc9 (nI c) = some (if kd c = 0 then (0, kp, rs, de, hc9) else (4, 1, 2, nI c, 0)) := by
  unfold g_X11_needDrams
  rw [e_gc (x_inb hc (by omega)), x_cl (by omega)]
  by_cases z : kd c = 0
  · rw [if_pos z, if_pos z]
  · rw [if_neg z, if_neg z]; rfl
end CHG
