/-! THE CALLS: what both states say alike; a cauldron more -/
section RELB
/-- the ring as it is told from its next book on -/
def RG (RA : Nat → BK) (nx r : Nat) : BK := RA ((nx + r) % 6)
def upB (RA : Nat → BK) (i : Nat) (q : BK) (j : Nat) : BK := if j = i then q else RA j
variable {LS : List Nat} {SE : Nat → SV} {RA : Nat → BK} {nx ch : Nat} {b q : BK} {past be s : Nat → Int32} {pastF beF f : Nat → UInt32}
theorem HR_cg {Q Q' : Nat → BK} (h : HR LS SE Q ch past pastF) (hc : ch ≤ 6) (e : ∀ r, r < 6 → Q' r = Q r) : HR LS SE Q' ch past pastF := fun i hi => by
  rw [e _ (by omega)]
  exact h i hi
theorem RG_push (hn : nx < 6) : ∀ r, r < 6 → RG (upB RA nx q) (if nx = 5 then 0 else nx + 1) r = rotU (RG RA nx) q r := by
  intro r hr
  unfold RG upB rotU
  have : (if nx = 5 then 0 else nx + 1) = (nx + 1) % 6 := by split <;> omega
  rw [this]
  by_cases e : r = 5
  · rw [if_pos e, if_pos (by omega)]
  · rw [if_neg e, if_neg (by omega)]
    congr 1
    omega
theorem RG_pop (hn : nx < 6) : ∀ r, r < 6 → RG RA (if nx = 0 then 5 else nx - 1) r = rotD (RG RA nx) r := by
  intro r hr
  unfold RG rotD
  have : (if nx = 0 then 5 else nx - 1) = (nx + 5) % 6 := by split <;> omega
  rw [this]
  by_cases e : r = 0
  · rw [if_pos e]; congr 1; omega
  · rw [if_neg e]; congr 1; omega
/-- the class's ring and the reference's rows -/
def HA (LS : List Nat) (SE : Nat → SV) (RA : Nat → BK) (nx ch : Nat) (past : Nat → Int32) (pastF : Nat → UInt32) : Prop := nx < 6 ∧ ch ≤ 6 ∧ HR LS SE (RG RA nx) ch past pastF
/-- a change is remembered by both -/
theorem HA_push (h : HA LS SE RA nx ch past pastF) (hB : BR LS SE b be beF) (hq : BE q b) (p1 : Int32) : ∃ past' pastF', g_X12_ends (nI ch) 0 past pastF be s beF f p1 = some (p1, nI (if ch = 6 then 6 else ch + 1), past', pastF', s, f) ∧ HA LS SE (upB RA nx q) (if nx = 5 then 0 else nx + 1) (if ch = 6 then 6 else ch + 1) past' pastF' := by
  obtain ⟨h1, h2, h3⟩ := h
  by_cases e : ch = 6
  · subst e
    refine ⟨_, _, k_X12_ends6, ?_, ?_, ?_⟩
    · split <;> omega
    · exact Nat.le_refl _
    · exact HR_cg (HR_push6 h3 hB hq) (Nat.le_refl _) (RG_push h1)
  · rw [if_neg e]
    refine ⟨_, _, k_X12_ends5 (by omega), ?_, by omega, ?_⟩
    · split <;> omega
    · exact HR_cg (HR_push5 h3 (by omega) hB hq) (by omega) (RG_push h1)
theorem BR_tx (h : BR LS SE b s f) : (∀ i, i < 4 → oin9 LS (b.2.2.2.2.2.2.2.2.2.2.1 i) = true) ∧ (∀ c, c < 6 → bo (b.2.2.2.2.2.2.1 c) = true) := by
  obtain ⟨nc, ns, X, h1, h2, h3, h4, h5, h6, h7, h8, h9, h10, h11⟩ := h
  exact ⟨h11.2, CX_bo h9⟩
/-- bounds that may be -/
def BNDS (a b : Int32) : Prop := -99 ≤ a.toInt ∧ a.toInt ≤ b.toInt ∧ b.toInt ≤ 99
theorem k_needBounds (p1 p2 : Int32) : (BNDS p1 p2 ∧ g_X11_needBounds p1 p2 = some 0) ∨ (¬ BNDS p1 p2 ∧ g_X11_needBounds p1 p2 = some 1) := by
  have e1 : ((-99) : Int32).toInt = -99 := rfl
  have e2 : (99 : Int32).toInt = 99 := rfl
  unfold g_X11_needBounds g_X11_needBounds_b17 BNDS
  by_cases h1 : p1 < (-99)
  · rw [if_pos h1]
    rw [Int32.lt_iff_toInt_lt] at h1
    exact Or.inr ⟨by omega, rfl⟩
  · rw [if_neg h1]
    rw [Int32.lt_iff_toInt_lt] at h1
    by_cases h2 : 99 < p2
    · rw [if_pos h2]
      rw [Int32.lt_iff_toInt_lt] at h2
      exact Or.inr ⟨by omega, rfl⟩
    · rw [if_neg h2]
      rw [Int32.lt_iff_toInt_lt] at h2
      by_cases h3 : p1 ≤ p2
      · rw [if_pos h3]
        rw [Int32.le_iff_toInt_le] at h3
        exact Or.inl ⟨by omega, rfl⟩
      · rw [if_neg h3]
        rw [Int32.le_iff_toInt_le] at h3
        exact Or.inr ⟨by omega, rfl⟩
theorem k_areBounds (p1 p2 : Int32) : (BNDS p1 p2 → g_X12_areBounds p1 p2 = some 1) ∧ (¬ BNDS p1 p2 → g_X12_areBounds p1 p2 = some 0) := by
  have e1 : ((-99) : Int64).toInt = -99 := rfl
  have e2 : (99 : Int32).toInt = 99 := rfl
  unfold g_X12_areBounds BNDS
  rw [k_X12_in]
  constructor
  · intro h
    rw [if_pos (by
      rw [Int64.lt_iff_toInt_lt, Int64.lt_iff_toInt_lt, Int32.toInt_toInt64, Int32.toInt_toInt64]
      omega), e_gbS, if_neg (by decide), if_neg (by rw [Int32.lt_iff_toInt_lt]; omega)]
  · intro h
    by_cases g : ¬ p1.toInt64 < -99 ∧ ¬ p2.toInt64 < p1.toInt64
    · rw [if_pos g, e_gbS, if_neg (by decide)]
      rw [Int64.lt_iff_toInt_lt, Int64.lt_iff_toInt_lt, Int32.toInt_toInt64, Int32.toInt_toInt64] at g
      rw [if_pos (by rw [Int32.lt_iff_toInt_lt]; omega)]
    · rw [if_neg g]; rfl
/-- what is in a cauldron of drams at first -/
def v0 (l h : Int32) : Int32 := if l < (if 0 < h then 0 else h) then (if 0 < h then 0 else h) else l
theorem v0_b {l h : Int32} (hb : BNDS l h) : l.toInt ≤ (v0 l h).toInt ∧ (v0 l h).toInt ≤ h.toInt := by
  obtain ⟨h1, h2, h3⟩ := hb
  have e : (0 : Int32).toInt = 0 := rfl
  unfold v0
  by_cases a : 0 < h
  · rw [if_pos a]
    rw [Int32.lt_iff_toInt_lt] at a
    by_cases c : l < 0
    · rw [if_pos c]; rw [Int32.lt_iff_toInt_lt] at c; omega
    · rw [if_neg c]; rw [Int32.lt_iff_toInt_lt] at c; omega
  · rw [if_neg a]
    rw [Int32.lt_iff_toInt_lt] at a
    by_cases c : l < h
    · rw [if_pos c]; rw [Int32.lt_iff_toInt_lt] at c; omega
    · rw [if_neg c]; omega
/-- a book with a cauldron more -/
def bNew (b : BK) (nc : Nat) (kn l h v : Int32) : BK := (nI (nc + 1), b.2.1, b.2.2.1, b.2.2.2.1, upd b.2.2.2.2.1 nc v, vf_upd b.2.2.2.2.2.1 nc FP.fconst0, upd b.2.2.2.2.2.2.1 nc kn, upd b.2.2.2.2.2.2.2.1 nc l, upd b.2.2.2.2.2.2.2.2.1 nc h, upd b.2.2.2.2.2.2.2.2.2.1 nc 0, b.2.2.2.2.2.2.2.2.2.2.1, b.2.2.2.2.2.2.2.2.2.2.2)
def sNew (s : Nat → Int32) (nc : Nat) (kn l h v : Int32) : Nat → Int32 := upd (upd (upd (upd (upd (upd s (4 + 5 * nc) kn) (4 + 5 * nc + 1) l) (4 + 5 * nc + 2) h) (4 + 5 * nc + 3) v) (4 + 5 * nc + 4) 0) 0 (nI (nc + 1))
theorem OKT_up {nc : Nat} {x : TX} (h : OKT nc x) : OKT (nc + 1) x := ⟨h.1, h.2.1, h.2.2.1, h.2.2.2.1, fun p hp e => Nat.lt_succ_of_lt (h.2.2.2.2 p hp e)⟩
theorem sNew_o {nc j : Nat} {kn l h v : Int32} (h0 : j ≠ 0) (h1 : j < 4 + 5 * nc ∨ 4 + 5 * nc + 4 < j) : sNew s nc kn l h v j = s j := by
  unfold sNew
  rw [x_un h0, x_un (by omega), x_un (by omega), x_un (by omega), x_un (by omega), x_un (by omega)]
theorem BR_new {nc ns : Nat} {X : Nat → TX} (h : BRx LS SE nc ns X b s f) (hn : nc < 6) {kn l hh v : Int32} (hc : CANH (kn, v, 0)) (hb : BNDS l hh) (hv : kn = 0 → l.toInt ≤ v.toInt ∧ v.toInt ≤ hh.toInt) : BRx LS SE (nc + 1) ns X (bNew b nc kn l hh v) (sNew s nc kn l hh v) (vf_upd f nc FP.fconst0) := by
  obtain ⟨h1, h2, h3, h4, h5, h6, h7, h8, h9, h10, h11⟩ := h
  refine ⟨by omega, h2, rfl, h4, ?_, ?_, ?_, ?_, fun c hc' => ?_, fun c hc' => ?_, fun i hi => ?_, h11.2⟩
  · exact x_us
  · rw [sNew_o (by omega) (by omega)]; exact h6
  · rw [sNew_o (by omega) (by omega)]; exact h7
  · rw [sNew_o (by omega) (by omega)]; exact h8
  · show CANH (upd b.2.2.2.2.2.2.1 nc kn c, upd b.2.2.2.2.1 nc v c, vf_upd b.2.2.2.2.2.1 nc FP.fconst0 c) ∧ -99 ≤ (upd b.2.2.2.2.2.2.2.1 nc l c).toInt ∧ (upd b.2.2.2.2.2.2.2.2.1 nc hh c).toInt ≤ 99 ∧ (upd b.2.2.2.2.2.2.2.1 nc l c).toInt ≤ (upd b.2.2.2.2.2.2.2.2.1 nc hh c).toInt ∧ (upd b.2.2.2.2.2.2.1 nc kn c = 0 → (upd b.2.2.2.2.2.2.2.1 nc l c).toInt ≤ (upd b.2.2.2.2.1 nc v c).toInt ∧ (upd b.2.2.2.2.1 nc v c).toInt ≤ (upd b.2.2.2.2.2.2.2.2.1 nc hh c).toInt)
    by_cases e : c = nc
    · rw [e, x_us, x_us, x_us, x_us, x_vs]
      exact ⟨hc, hb.1, hb.2.2, hb.2.1, hv⟩
    · rw [x_un e, x_un e, x_un e, x_un e, x_vn e]
      exact h9 c hc'
  · show sNew s nc kn l hh v (4 + 5 * c) = upd b.2.2.2.2.2.2.1 nc kn c ∧ sNew s nc kn l hh v (4 + 5 * c + 1) = upd b.2.2.2.2.2.2.2.1 nc l c ∧ sNew s nc kn l hh v (4 + 5 * c + 2) = upd b.2.2.2.2.2.2.2.2.1 nc hh c ∧ sNew s nc kn l hh v (4 + 5 * c + 3) = upd b.2.2.2.2.1 nc v c ∧ sNew s nc kn l hh v (4 + 5 * c + 4) = upd b.2.2.2.2.2.2.2.2.2.1 nc 0 c ∧ vf_upd f nc FP.fconst0 c = vf_upd b.2.2.2.2.2.1 nc FP.fconst0 c
    by_cases e : c = nc
    · rw [e, x_us, x_us, x_us, x_us, x_us, x_vs, x_vs]
      unfold sNew
      refine ⟨?_, ?_, ?_, ?_, ?_, rfl⟩
      · rw [x_un (by omega), x_un (by omega), x_un (by omega), x_un (by omega), x_un (by omega), x_us]
      · rw [x_un (by omega), x_un (by omega), x_un (by omega), x_un (by omega), x_us]
      · rw [x_un (by omega), x_un (by omega), x_un (by omega), x_us]
      · rw [x_un (by omega), x_un (by omega), x_us]
      · rw [x_un (by omega), x_us]
    · rw [x_un e, x_un e, x_un e, x_un e, x_un e, x_vn e, x_vn e, sNew_o (by omega) (by omega), sNew_o (by omega) (by omega), sNew_o (by omega) (by omega), sNew_o (by omega) (by omega), sNew_o (by omega) (by omega)]
      exact h10 c hc'
  · obtain ⟨a1, a2, a3, a4⟩ := h11.1 i hi
    refine ⟨a1, OKT_up a2, ⟨?_, fun j hj => ?_⟩, ?_⟩
    · rw [sNew_o (by omega) (by omega)]; exact a3.1
    · rw [sNew_o (by omega) (by omega)]; exact a3.2 j hj
    · rw [sNew_o (by omega) (by omega)]; exact a4
theorem k_X0_setUp {nc : Nat} (hn : nc < 6) (kd lo hi mn si : Nat → Int32) (mu : Nat → UInt32) {kn l h : Int32} (hk : bo kn = true) : g_X0_setUp (nI nc) kd lo hi mn mu si kn l h = some (nI nc, nI (nc + 1), upd kd nc kn, upd lo nc l, upd hi nc h, upd mn nc (v0 l h), vf_upd mu nc FP.fconst0, upd si nc 0) := by
  have hin : inb (nI nc) 6 = true := x_inb hn (by omega)
  unfold g_X0_setUp
  rw [if_neg (show ¬ nI nc < 0 from nI_nlt (b := 0) (a := nc) (Nat.zero_le _) (by omega)), if_pos (show nI nc < 6 from nI_lt (b := 6) hn (by omega)), e_gl, e_gc hin, e_gc hin, e_gc hin, e_gc hin, e_gc hin, e_gc hin, nI_1, x_cl (by omega), x_nb hk]
  rfl
theorem k_X12_comes {nc : Nat} (h0 : s 0 = nI nc) (hn : nc < 6) (th : Int32) (rf : Nat → Int32) (l h p4 : Int32) : g_X12_comes th s rf f 0 l h p4 = some (nI nc, th, sNew s nc 0 l h (v0 l h), rf, vf_upd f nc FP.fconst0) := by
  unfold g_X12_comes g_X12_comes_b71
  show gc true (gl (s 0) _) = _
  rw [e_gcT, e_gl, h0, if_neg (show ¬ nI nc = 6 from fun z => by have := nI_inj (by omega) (by omega) (show nI nc = nI 6 from z); omega)]
  have e0 : ∀ s' : Nat → Int32, ∀ v, g_X12_sets s' (nI nc) 0 v = some (upd s' (4 + 5 * nc) v) := fun s' v => k_X12_sets (j := 0) hn (by omega) v
  have e1 : ∀ s' : Nat → Int32, ∀ v, g_X12_sets s' (nI nc) 1 v = some (upd s' (4 + 5 * nc + 1) v) := fun s' v => k_X12_sets (j := 1) hn (by omega) v
  have e2 : ∀ s' : Nat → Int32, ∀ v, g_X12_sets s' (nI nc) 2 v = some (upd s' (4 + 5 * nc + 2) v) := fun s' v => k_X12_sets (j := 2) hn (by omega) v
  have e3 : ∀ s' : Nat → Int32, ∀ v, g_X12_sets s' (nI nc) 3 v = some (upd s' (4 + 5 * nc + 3) v) := fun s' v => k_X12_sets (j := 3) hn (by omega) v
  have e4 : ∀ s' : Nat → Int32, ∀ v, g_X12_sets s' (nI nc) 4 v = some (upd s' (4 + 5 * nc + 4) v) := fun s' v => k_X12_sets (j := 4) hn (by omega) v
  rw [e0, e_gbS, e1, e_gbS, e2, e_gbS, if_neg (show ¬ (0 : Int32) = 1 by decide), e3, e_gbS, e4, e_gbS, e_gc (x_inb hn (by omega)), x_cl (by omega)]
  show some _ = some _
  unfold sNew
  show some (nI nc, th, upd _ 0 (upd (upd (upd (upd (upd s (4 + 5 * nc) 0) (4 + 5 * nc + 1) l) (4 + 5 * nc + 2) h) (4 + 5 * nc + 3) _) (4 + 5 * nc + 4) 0 0 + 1), rf, _) = _
  rw [x_un (show (0 : Nat) ≠ 4 + 5 * nc + 4 by omega), x_un (show (0 : Nat) ≠ 4 + 5 * nc + 3 by omega), x_un (show (0 : Nat) ≠ 4 + 5 * nc + 2 by omega), x_un (show (0 : Nat) ≠ 4 + 5 * nc + 1 by omega), x_un (show (0 : Nat) ≠ 4 + 5 * nc by omega), h0, nI_1]
  rfl
theorem k_X12_comes1 {nc : Nat} (h0 : s 0 = nI nc) (hn : nc < 6) (th : Int32) (rf : Nat → Int32) (l h p4 : Int32) : g_X12_comes th s rf f 1 l h p4 = some (nI nc, th, sNew s nc 1 l h 0, rf, vf_upd f nc FP.fconst0) := by
  unfold g_X12_comes g_X12_comes_b71
  show gc true (gl (s 0) _) = _
  rw [e_gcT, e_gl, h0, if_neg (show ¬ nI nc = 6 from fun z => by have := nI_inj (by omega) (by omega) (show nI nc = nI 6 from z); omega)]
  have e0 : ∀ s' : Nat → Int32, ∀ v, g_X12_sets s' (nI nc) 0 v = some (upd s' (4 + 5 * nc) v) := fun s' v => k_X12_sets (j := 0) hn (by omega) v
  have e1 : ∀ s' : Nat → Int32, ∀ v, g_X12_sets s' (nI nc) 1 v = some (upd s' (4 + 5 * nc + 1) v) := fun s' v => k_X12_sets (j := 1) hn (by omega) v
  have e2 : ∀ s' : Nat → Int32, ∀ v, g_X12_sets s' (nI nc) 2 v = some (upd s' (4 + 5 * nc + 2) v) := fun s' v => k_X12_sets (j := 2) hn (by omega) v
  have e3 : ∀ s' : Nat → Int32, ∀ v, g_X12_sets s' (nI nc) 3 v = some (upd s' (4 + 5 * nc + 3) v) := fun s' v => k_X12_sets (j := 3) hn (by omega) v
  have e4 : ∀ s' : Nat → Int32, ∀ v, g_X12_sets s' (nI nc) 4 v = some (upd s' (4 + 5 * nc + 4) v) := fun s' v => k_X12_sets (j := 4) hn (by omega) v
  rw [e0, e_gbS, e1, e_gbS, e2, e_gbS, if_pos rfl, e3, e_gbS, e4, e_gbS, e_gc (x_inb hn (by omega)), x_cl (by omega)]
  show some _ = some _
  unfold sNew
  show some (nI nc, th, upd _ 0 (upd (upd (upd (upd (upd s (4 + 5 * nc) 1) (4 + 5 * nc + 1) l) (4 + 5 * nc + 2) h) (4 + 5 * nc + 3) _) (4 + 5 * nc + 4) 0 0 + 1), rf, _) = _
  rw [x_un (show (0 : Nat) ≠ 4 + 5 * nc + 4 by omega), x_un (show (0 : Nat) ≠ 4 + 5 * nc + 3 by omega), x_un (show (0 : Nat) ≠ 4 + 5 * nc + 2 by omega), x_un (show (0 : Nat) ≠ 4 + 5 * nc + 1 by omega), x_un (show (0 : Nat) ≠ 4 + 5 * nc by omega), h0, nI_1]
theorem k_X12_comes6 (h0 : s 0 = nI 6) (th : Int32) (rf : Nat → Int32) (p1 l h p4 : Int32) : g_X12_comes th s rf f p1 l h p4 = some (0, p4, s, upd (upd (upd (upd rf 0 1) 1 6) 2 0) 3 0, f) := by
  unfold g_X12_comes
  show gc true (gl (s 0) _) = _
  rw [e_gcT, e_gl, h0]
  rfl
end RELB
