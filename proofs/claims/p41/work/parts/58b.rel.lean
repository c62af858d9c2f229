/-! rows of the whole claim that speak of the class alone (gen/pure1.py) -/
def RG (RA : Nat → BK) (nx r : Nat) : BK := RA ((nx + r) % 6)
def upB (RA : Nat → BK) (i : Nat) (q : BK) (j : Nat) : BK := if j = i then q else RA j
section
variable {LS : List Nat} {SE : Nat → SV} {RA : Nat → BK} {nx ch : Nat} {b q : BK} {past be s : Nat → Int32} {pastF beF f : Nat → UInt32}
def BNDS (a b : Int32) : Prop := -99 ≤ a.toInt ∧ a.toInt ≤ b.toInt ∧ b.toInt ≤ 99
theorem k_needBounds (p1 p2 : Int32) : (BNDS p1 p2 ∧ g_X11_needBounds p1 p2 = some 0) ∨ (¬ BNDS p1 p2 ∧ g_X11_needBounds p1 p2 = some 1) := by
  have e1 : ((-99) : Int32).toInt = -99 := rfl
  have e2 : (99 : Int32).toInt = 99 := rfl
  unfold g_X11_needBounds g_X11_needBounds_b17 BNDS
  by_cases h1 : p1 < (-99)
  · rw [if_pos h1]
    rw [Int32.lt_iff_toInt_lt] at h1
    exact Or.inr ⟨by omega, rfl⟩
  · rw [if_neg h1]
    rw [Int32.lt_iff_toInt_lt] at h1
    by_cases h2 : 99 < p2
    · rw [if_pos h2]
      rw [Int32.lt_iff_toInt_lt] at h2
      exact Or.inr ⟨by omega, rfl⟩
    · rw [if_neg h2]
      rw [Int32.lt_iff_toInt_lt] at h2
      by_cases h3 : p1 ≤ p2
      · rw [if_pos h3]
        rw [Int32.le_iff_toInt_le] at h3
        exact Or.inl ⟨by omega, rfl⟩
      · rw [if_neg h3]
        rw [Int32.le_iff_toInt_le] at h3
        exact Or.inr ⟨by omega, rfl⟩
def v0 (l h : Int32) : Int32 := if l < (if 0 < h then 0 else h) then (if 0 < h then 0 else h) else l
theorem v0_b {l h : Int32} (hb : BNDS l h) : l.toInt ≤ (v0 l h).toInt ∧ (v0 l h).toInt ≤ h.toInt := by
  obtain ⟨h1, h2, h3⟩ := hb
  have e : (0 : Int32).toInt = 0 := rfl
  unfold v0
  by_cases a : 0 < h
  · rw [if_pos a]
    rw [Int32.lt_iff_toInt_lt] at a
    by_cases c : l < 0
    · rw [if_pos c]; rw [Int32.lt_iff_toInt_lt] at c; omega
    · rw [if_neg c]; rw [Int32.lt_iff_toInt_lt] at c; omega
  · rw [if_neg a]
    rw [Int32.lt_iff_toInt_lt] at a
    by_cases c : l < h
    · rw [if_pos c]; rw [Int32.lt_iff_toInt_lt] at c; omega
    · rw [if_neg c]; omega
def bNew (b : BK) (nc : Nat) (kn l h v : Int32) : BK := (nI (nc + 1), b.2.1, b.2.2.1, b.2.2.2.1, upd b.2.2.2.2.1 nc v, vf_upd b.2.2.2.2.2.1 nc FP.fconst0, upd b.2.2.2.2.2.2.1 nc kn, upd b.2.2.2.2.2.2.2.1 nc l, upd b.2.2.2.2.2.2.2.2.1 nc h, upd b.2.2.2.2.2.2.2.2.2.1 nc 0, b.2.2.2.2.2.2.2.2.2.2.1, b.2.2.2.2.2.2.2.2.2.2.2)
theorem OKT_up {nc : Nat} {x : TX} (h : OKT nc x) : OKT (nc + 1) x := ⟨h.1, h.2.1, h.2.2.1, h.2.2.2.1, fun p hp e => Nat.lt_succ_of_lt (h.2.2.2.2 p hp e)⟩
theorem k_X0_setUp {nc : Nat} (hn : nc < 6) (kd lo hi mn si : Nat → Int32) (mu : Nat → UInt32) {kn l h : Int32} (hk : bo kn = true) : g_X0_setUp (nI nc) kd lo hi mn mu si kn l h = some (nI nc, nI (nc + 1), upd kd nc kn, upd lo nc l, upd hi nc h, upd mn nc (v0 l h), vf_upd mu nc FP.fconst0, upd si nc 0) := by
  have hin : inb (nI nc) 6 = true := x_inb hn (by omega)
  unfold g_X0_setUp
  rw [if_neg (show ¬ nI nc < 0 from nI_nlt (b := 0) (a := nc) (Nat.zero_le _) (by omega)), if_pos (show nI nc < 6 from nI_lt (b := 6) hn (by omega)), e_gl, e_gc hin, e_gc hin, e_gc hin, e_gc hin, e_gc hin, e_gc hin, nI_1, x_cl (by omega), x_nb hk]
  rfl
end
section
variable {LS : List Nat} {SE : Nat → SV} {b : BK} {s nu sg jB kB : Nat → Int32} {f : Nat → UInt32} {n4 : Nat} {th tk sp ms fa so sps so' p1 p2 p3 : Int32} {iB sB : Nat → Int32} {l h sL sH l' h' sL' sH' : Nat → Int64} {ans : Nat → Int64}
theorem OKT_n {nc : Nat} {x : TX} (h : OKT nc x) : ∀ p, p < (rT x).1 → (rT x).2.1 p = 1 → (rT x).2.2.1 p ≤ 99 := fun p hp e => by
  have h1 := ((OKT_GS h).1 p hp).1
  rw [e] at h1
  unfold FSk at h1
  omega
theorem fcode_0 {T : Nat} {q : Nat} (hq : q < T) (hT : T ≤ 24) : 0 ≤ fcode (some q) := nI_le (a := 0) (b := q) (Nat.zero_le _) (by omega)
theorem FV_lt {α : Type} {op : Nat → (Nat → Option α) → Option α} {T q : Nat} (h : FV op T (some q)) : q < T := h.1
end
section
variable {LS : List Nat} {SE : Nat → SV} {b : BK} {s nu sg jB kB : Nat → Int32} {f : Nat → UInt32} {n4 : Nat} {th tk sp ms fa so sps so' p1 p2 p3 : Int32} {iB sB : Nat → Int32} {l h sL sH l' h' sL' sH' : Nat → Int64} {ans : Nat → Int64} {ansD : Nat → UInt64}
theorem FSk_lt {k w f : Nat} (h : FSk k w f) : f < 65536 := by
  unfold FSk at h
  omega
end
section
variable {LS : List Nat} {SE : Nat → SV} {RA : Nat → BK} {nx ch n4 a : Nat} {b sb : BK} {past be s rf sv : Nat → Int32} {pastF beF f svF : Nat → UInt32} {kp rs de hc ca cd th p1 p2 p3 bd le ke isv : Int32} {ans : Nat → Int64} {bks : Nat → Option Nat}
variable {α β γ : Type} {P : α → Prop} {g : γ → Option α}
theorem ba {o : Option β} {k : β → Option γ} (h : Ok (gb o fun x => gb (k x) g) P) : Ok (gb (gb o k) g) P := by
  cases o with
  | none => obtain ⟨x, h1, h2⟩ := h; cases h1
  | some y => exact h
theorem bt {c : Prop} [Decidable c] {x y : Option γ} (hc : c) (h : Ok (gb x g) P) : Ok (gb (if c then x else y) g) P := by rw [if_pos hc]; exact h
theorem bf {c : Prop} [Decidable c] {x y : Option γ} (hc : ¬ c) (h : Ok (gb y g) P) : Ok (gb (if c then x else y) g) P := by rw [if_neg hc]; exact h
theorem bc {b : Bool} {k : Option γ} (hb : b = true) (h : Ok (gb k g) P) : Ok (gb (gc b k) g) P := by rw [e_gc hb]; exact h
theorem bl {a : β} {k : β → Option γ} (h : Ok (gb (k a) g) P) : Ok (gb (gl a k) g) P := h
theorem bs {x : γ} (h : Ok (g x) P) : Ok (gb (some x) g) P := h
theorem bgs {n : Option γ} {k : Nat → Option γ} {a : Nat} (h : Ok (gb (k a) g) P) : Ok (gb (go (some a) n k) g) P := h
theorem bbe {o : Option β} {k : β → Option γ} {x : β} (e : o = some x) (h : Ok (gb (k x) g) P) : Ok (gb (gb o k) g) P := by rw [e]; exact h
end
section
variable {LS : List Nat} {SE : Nat → SV} {RA : Nat → BK} {nx ch n4 a : Nat} {b sb : BK} {past be s rf sv : Nat → Int32} {pastF beF f svF : Nat → UInt32} {kp rs de hc ca cd th p1 p2 p3 bd le ke isv : Int32} {ans : Nat → Int64} {bks : Nat → Option Nat}
theorem k_needDrams {kd : Nat → Int32} {c : Nat} {hc9 : Int32} (hc : c < 6) : g_X11_needDrams kd kp rs de hc9 (nI c) = some (if kd c = 0 then (0, kp, rs, de, hc9) else (4, 1, 2, nI c, 0)) := by
  unfold g_X11_needDrams
  rw [e_gc (x_inb hc (by omega)), x_cl (by omega)]
  by_cases z : kd c = 0
  · rw [if_pos z, if_pos z]
  · rw [if_neg z, if_neg z]; rfl
end
