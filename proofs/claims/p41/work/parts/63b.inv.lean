/-! BOOKS that stay books; the histories (gen/inv.py) -/
section
variable {LS : List Nat} {SE : Nat → SV} {RA : Nat → BK} {nx ch n4 a : Nat} {b sb : BK} {past be s rf sv : Nat → Int32} {pastF beF f svF : Nat → UInt32} {kp rs de hc ca cd th p1 p2 p3 bd le ke isv : Int32} {ans : Nat → Int64} {bks : Nat → Option Nat}
theorem div100_fin (v : Int32) : FF (FP.fdiv (FP.i2f v) (1120403456 : UInt32)) := by
  have h := Jvm.FP.Core.fdiv_mag (a := FP.i2f v) (b := 1120403456) (K := 160) (L := 133) (Jvm.FP.Core.i2f_mag v) (by decide) (by decide) (by omega) (by omega)
  exact Jvm.FP.Core.fin_of_lt32 h (by omega)
theorem hb_key {x : UInt32} (hn : Jvm.FP.Core.val32 x ≠ .nan) (h : x.toNat % 2 ^ 31 ≤ 1176255488) : HBd x := by
  have hh : Jvm.FP.Core.val32 1176255488 ≠ .nan := (Jvm.FP.Core.notNaN_iff32 _).mp ff_hi.notNaN
  have hl : Jvm.FP.Core.val32 3323739136 ≠ .nan := (Jvm.FP.Core.notNaN_iff32 _).mp ff_lo.notNaN
  have hx := x.toNat_lt
  have e : hld x = x := by
    have k1 : ¬ FP.fcmp x 3323739136 = some .lt := fun q => by
      have := (Jvm.FP.Core.fcmp_lt_key hn hl).mp q
      rw [fkey_const2] at this
      unfold Jvm.FP.Core.fkey at this
      split at this <;> omega
    have k2 : ¬ FP.fcmp x 1176255488 = some .gt := fun q => by
      have := (Jvm.FP.Core.fcmp_gt_key hn hh).mp q
      rw [fkey_const1] at this
      unfold Jvm.FP.Core.fkey at this
      split at this <;> omega
    have n1 : ¬ FP.fcmp x 1176255488 = none := fun q => by
      rw [show FP.fcmp x 1176255488 = some _ from Jvm.FP.Core.fcmp_key hn hh] at q
      cases q
    have g1 : (0 : Int32) ≤ Op.cmpValue (FP.fcmp x (3323739136 : UInt32)) .g := by
      cases hc : FP.fcmp x (3323739136 : UInt32) with
      | none => decide
      | some o => cases o with
        | lt => exact absurd hc k1
        | eq => decide
        | gt => decide
    have g2 : Op.cmpValue (FP.fcmp x (1176255488 : UInt32)) .l ≤ 0 := by
      cases hc : FP.fcmp x (1176255488 : UInt32) with
      | none => exact absurd hc n1
      | some o => cases o with
        | gt => exact absurd hc k2
        | eq => decide
        | lt => decide
    unfold hld
    rw [if_pos g1, if_pos g2]
  rw [← e]
  exact hb_hld (n32_of ((Jvm.FP.Core.notNaN_iff32 x).mpr hn))
theorem zv_16384 : Jvm.FP.Core.zval Jvm.FP.Core.b32 (Jvm.FP.Core.val32 1182793728) = (16384 : Int) * (Jvm.FP.Core.one32 : Int) := by decide +kernel
theorem zv_m16384 : Jvm.FP.Core.zval Jvm.FP.Core.b32 (Jvm.FP.Core.val32 3330277376) = (-16384 : Int) * (Jvm.FP.Core.one32 : Int) := by decide +kernel
theorem i2f_small {v : Int32} (h1 : -9999 ≤ v.toInt) (h2 : v.toInt ≤ 9999) : (FP.i2f v).toNat % 2 ^ 31 < 141 * 2 ^ 23 := by
  have hF := Jvm.FP.Core.i2f_int (a := v) (by omega)
  have hz := Jvm.FP.Core.FInt_zval hF
  have hn := Jvm.FP.Core.FInt_ne_nan hF
  have hp := Jvm.FP.Core.one32_pos
  have hh : Jvm.FP.Core.val32 1182793728 ≠ .nan := by decide +kernel
  have hl : Jvm.FP.Core.val32 3330277376 ≠ .nan := by decide +kernel
  have c1 := (Jvm.FP.Core.fcmp_lt_key hn hh).mp (Jvm.FP.Core.fcmp_lt.mpr ⟨hn, hh, by
    rw [hz, zv_16384]; exact Int.mul_lt_mul_of_pos_right (by omega) (by omega)⟩)
  have c2 := (Jvm.FP.Core.fcmp_gt_key hn hl).mp (Jvm.FP.Core.fcmp_gt.mpr ⟨hn, hl, by
    rw [hz, zv_m16384]; exact Int.mul_lt_mul_of_pos_right (by omega) (by omega)⟩)
  rw [show Jvm.FP.Core.fkey 1182793728 = 1182793728 by decide] at c1
  rw [show Jvm.FP.Core.fkey 3330277376 = -1182793728 by decide] at c2
  have hx := (FP.i2f v).toNat_lt
  show (Jvm.FP.Core.i2f v).toNat % 2 ^ 31 < 141 * 2 ^ 23
  unfold Jvm.FP.Core.fkey at c1 c2
  split at c1 <;> omega
theorem fh_div100 {v : Int32} (h1 : ¬ v < -9999) (h2 : v ≤ 9999) : FH (FP.fdiv (FP.i2f v) (1120403456 : UInt32)) := by
  rw [Int32.lt_iff_toInt_lt] at h1
  rw [Int32.le_iff_toInt_le] at h2
  have q3 : (-9999 : Int32).toInt = -9999 := rfl
  have q4 : (9999 : Int32).toInt = 9999 := rfl
  have h := Jvm.FP.Core.fdiv_mag (a := FP.i2f v) (b := 1120403456) (K := 141) (L := 133) (i2f_small (by omega) (by omega)) (by decide) (by decide) (by omega) (by omega)
  have hf := div100_fin v
  exact ⟨hf, hb_key ((Jvm.FP.Core.notNaN_iff32 _).mp hf.notNaN) (by
    have : (FP.fdiv (FP.i2f v) (1120403456 : UInt32)).toNat % 2 ^ 31 < (141 + (149 - 23 - 1) - 133 + 3) * 2 ^ 23 := h
    omega)⟩
end
section BOKS
variable {LS : List Nat} {SE : Nat → SV} {B : BB} {b' : BK}
theorem CX_ag5 {kd lo hi mn kd' lo' hi' mn' : Nat → Int32} {mu mu' : Nat → UInt32} (h : CX kd lo hi mn mu) (e1 : AG 6 kd' kd) (e2 : AG 6 lo' lo) (e3 : AG 6 hi' hi) (e4 : AG 6 mn' mn) (e5 : AG 6 mu' mu) : CX kd' lo' hi' mn' mu' := fun c hc => by
  rw [e1 c hc, e2 c hc, e3 c hc, e4 c hc, e5 c hc]
  exact h c hc
theorem CX_one {kd lo hi mn kd' lo' hi' mn' : Nat → Int32} {mu mu' : Nat → UInt32} {c : Nat} (h : CX kd lo hi mn mu) (e : ∀ d, d ≠ c → kd' d = kd d ∧ lo' d = lo d ∧ hi' d = hi d ∧ mn' d = mn d ∧ mu' d = mu d) (hc : CANH (kd' c, mn' c, mu' c) ∧ -99 ≤ (lo' c).toInt ∧ (hi' c).toInt ≤ 99 ∧ (lo' c).toInt ≤ (hi' c).toInt ∧ (kd' c = 0 → (lo' c).toInt ≤ (mn' c).toInt ∧ (mn' c).toInt ≤ (hi' c).toInt)) : CX kd' lo' hi' mn' mu' := fun d hd => by
  by_cases z : d = c
  · subst z
    exact hc
  · obtain ⟨a1, a2, a3, a4, a5⟩ := e d z
    rw [a1, a2, a3, a4, a5]
    exact h d hd
theorem SX_be {nc ns : Nat} {X : Nat → TX} {tx tx' : Nat → Option Nat} {cc cc' : Nat → Int32} (hn : ns ≤ 4) (h : SX LS SE nc ns X tx cc cc) (e : AG 4 tx' tx) : SX LS SE nc ns X tx' cc' cc' := ⟨fun i hi => by
  rw [e i (by omega)]
  exact h.1 i hi, fun i hi => by
  rw [e i hi]
  exact h.2 i hi⟩
theorem BOK_be (h : BOK LS SE B) (e : BE b' B.1) : BOK LS SE (b', B.2) := by
  obtain ⟨h6, h4, e1, e2, hX, hT⟩ := h
  obtain ⟨g1, g2, -, -, g5, g6, g7, g8, g9, g10, g11, g12⟩ := e
  exact ⟨h6, h4, g1.trans e1, g2.trans e2, CX_ag5 hX g7 g8 g9 g5 g6, SX_be h4 hT g11⟩
theorem BOK_gen (h : BOK LS SE B) (e1 : b'.1 = B.1.1) (e2 : b'.2.1 = B.1.2.1) (et : b'.2.2.2.2.2.2.2.2.2.2.1 = B.1.2.2.2.2.2.2.2.2.2.2.1) (hX : CX b'.2.2.2.2.2.2.1 b'.2.2.2.2.2.2.2.1 b'.2.2.2.2.2.2.2.2.1 b'.2.2.2.2.1 b'.2.2.2.2.2.1) : BOK LS SE (b', B.2) := by
  obtain ⟨h6, h4, g1, g2, -, hT⟩ := h
  exact ⟨h6, h4, e1.trans g1, e2.trans g2, hX, SX_be h4 hT (by rw [et]; exact AG_r _)⟩
theorem BOK_new (h : BOK LS SE B) (hn : B.2.1 < 6) {kn l hh v : Int32} (hc : CANH (kn, v, 0)) (hb : BNDS l hh) (hv : kn = 0 → l.toInt ≤ v.toInt ∧ v.toInt ≤ hh.toInt) : BOK LS SE (bNew B.1 B.2.1 kn l hh v, B.2.1 + 1, B.2.2) := by
  obtain ⟨h6, h4, g1, g2, hX, hT⟩ := h
  refine ⟨hn, h4, rfl, g2, ?_, fun i hi => ?_, hT.2⟩
  · refine CX_one (c := B.2.1) hX (fun d hd => ⟨x_un hd, x_un hd, x_un hd, x_un hd, x_vn hd⟩) ?_
    show CANH (upd B.1.2.2.2.2.2.2.1 B.2.1 kn B.2.1, upd B.1.2.2.2.2.1 B.2.1 v B.2.1, vf_upd B.1.2.2.2.2.2.1 B.2.1 FP.fconst0 B.2.1) ∧ -99 ≤ (upd B.1.2.2.2.2.2.2.2.1 B.2.1 l B.2.1).toInt ∧ (upd B.1.2.2.2.2.2.2.2.2.1 B.2.1 hh B.2.1).toInt ≤ 99 ∧ (upd B.1.2.2.2.2.2.2.2.1 B.2.1 l B.2.1).toInt ≤ (upd B.1.2.2.2.2.2.2.2.2.1 B.2.1 hh B.2.1).toInt ∧ (upd B.1.2.2.2.2.2.2.1 B.2.1 kn B.2.1 = 0 → (upd B.1.2.2.2.2.2.2.2.1 B.2.1 l B.2.1).toInt ≤ (upd B.1.2.2.2.2.1 B.2.1 v B.2.1).toInt ∧ (upd B.1.2.2.2.2.1 B.2.1 v B.2.1).toInt ≤ (upd B.1.2.2.2.2.2.2.2.2.1 B.2.1 hh B.2.1).toInt)
    rw [x_us, x_us, x_us, x_us, x_vs]
    exact ⟨hc, hb.1, hb.2.2, hb.2.1, hv⟩
  · obtain ⟨a, b, c, d⟩ := hT.1 i hi
    exact ⟨a, OKT_up b, c, d⟩
theorem BOK_pour (h : BOK LS SE B) {p v : Int32} {c : Nat} (ho : OKpour B p v c) : BOK LS SE (bPour B.1 c v, B.2) := by
  obtain ⟨hc, -, hk, hl, hh⟩ := ho
  have h6 := h.1
  obtain ⟨⟨a1, a2, a3, a4⟩, b1, b2, b3, b4⟩ := h.2.2.2.2.1 c (by omega)
  refine BOK_gen h rfl rfl rfl (CX_one (c := c) h.2.2.2.2.1 (fun d hd => ⟨rfl, rfl, rfl, x_un hd, rfl⟩) ?_)
  show CANH (B.1.2.2.2.2.2.2.1 c, upd B.1.2.2.2.2.1 c v c, B.1.2.2.2.2.2.1 c) ∧ -99 ≤ (B.1.2.2.2.2.2.2.2.1 c).toInt ∧ (B.1.2.2.2.2.2.2.2.2.1 c).toInt ≤ 99 ∧ (B.1.2.2.2.2.2.2.2.1 c).toInt ≤ (B.1.2.2.2.2.2.2.2.2.1 c).toInt ∧ (B.1.2.2.2.2.2.2.1 c = 0 → (B.1.2.2.2.2.2.2.2.1 c).toInt ≤ (upd B.1.2.2.2.2.1 c v c).toInt ∧ (upd B.1.2.2.2.2.1 c v c).toInt ≤ (B.1.2.2.2.2.2.2.2.2.1 c).toInt)
  rw [x_us]
  exact ⟨⟨a1, a2, fun z => absurd hk z, a4⟩, b1, b2, b3, fun _ => ⟨hl, hh⟩⟩
theorem BOK_ladle (h : BOK LS SE B) {p v : Int32} {c : Nat} (ho : OKladle B p v c) : BOK LS SE (bLadle B.1 c (FP.fdiv (FP.i2f v) (1120403456 : UInt32)), B.2) := by
  obtain ⟨hc, -, hk, g1, g2⟩ := ho
  have h6 := h.1
  obtain ⟨⟨a1, a2, a3, a4⟩, b1, b2, b3, b4⟩ := h.2.2.2.2.1 c (by omega)
  refine BOK_gen h rfl rfl rfl (CX_one (c := c) h.2.2.2.2.1 (fun d hd => ⟨rfl, rfl, rfl, rfl, x_vn hd⟩) ?_)
  show CANH (B.1.2.2.2.2.2.2.1 c, B.1.2.2.2.2.1 c, vf_upd B.1.2.2.2.2.2.1 c (FP.fdiv (FP.i2f v) (1120403456 : UInt32)) c) ∧ -99 ≤ (B.1.2.2.2.2.2.2.2.1 c).toInt ∧ (B.1.2.2.2.2.2.2.2.2.1 c).toInt ≤ 99 ∧ (B.1.2.2.2.2.2.2.2.1 c).toInt ≤ (B.1.2.2.2.2.2.2.2.2.1 c).toInt ∧ (B.1.2.2.2.2.2.2.1 c = 0 → (B.1.2.2.2.2.2.2.2.1 c).toInt ≤ (B.1.2.2.2.2.1 c).toInt ∧ (B.1.2.2.2.2.1 c).toInt ≤ (B.1.2.2.2.2.2.2.2.2.1 c).toInt)
  rw [x_vs]
  exact ⟨⟨a1, fun z => absurd z hk, a3, fh_div100 g1 g2⟩, b1, b2, b3, b4⟩
theorem BOK_bnds (h : BOK LS SE B) {p l hh : Int32} {c : Nat} (ho : OKbounds B p l hh c) : BOK LS SE (bBnds B.1 c l hh, B.2) := by
  obtain ⟨hc, -, hk, hb, g1, g2⟩ := ho
  have h6 := h.1
  obtain ⟨⟨a1, a2, a3, a4⟩, b1, b2, b3, b4⟩ := h.2.2.2.2.1 c (by omega)
  refine BOK_gen h rfl rfl rfl (CX_one (c := c) h.2.2.2.2.1 (fun d hd => ⟨rfl, x_un hd, x_un hd, rfl, rfl⟩) ?_)
  show CANH (B.1.2.2.2.2.2.2.1 c, B.1.2.2.2.2.1 c, B.1.2.2.2.2.2.1 c) ∧ -99 ≤ (upd B.1.2.2.2.2.2.2.2.1 c l c).toInt ∧ (upd B.1.2.2.2.2.2.2.2.2.1 c hh c).toInt ≤ 99 ∧ (upd B.1.2.2.2.2.2.2.2.1 c l c).toInt ≤ (upd B.1.2.2.2.2.2.2.2.2.1 c hh c).toInt ∧ (B.1.2.2.2.2.2.2.1 c = 0 → (upd B.1.2.2.2.2.2.2.2.1 c l c).toInt ≤ (B.1.2.2.2.2.1 c).toInt ∧ (B.1.2.2.2.2.1 c).toInt ≤ (upd B.1.2.2.2.2.2.2.2.2.1 c hh c).toInt)
  rw [x_us, x_us]
  exact ⟨⟨a1, a2, a3, a4⟩, hb.1, hb.2.2, hb.2.1, fun _ => ⟨g1, g2⟩⟩
/-! the histories -/
def rotA (R : Nat → Nat → Nat) (r : Nat) : Nat → Nat := R ((r + 1) % 6)
def rotB (R : Nat → Nat → Nat) (r : Nat) : Nat → Nat := R ((r + 5) % 6)
def rotU (Q : Nat → BK) (q : BK) (r : Nat) : BK := if r = 5 then q else Q (r + 1)
def rotD (Q : Nat → BK) (r : Nat) : BK := if r = 0 then Q 5 else Q (r - 1)
def set0 (Q : Nat → BK) (q : BK) (r : Nat) : BK := if r = 0 then q else Q r
theorem set0_eq (Q : Nat → BK) : set0 Q (Q 0) = Q := by
  funext r
  unfold set0
  by_cases h : r = 0
  · rw [if_pos h, h]
  · rw [if_neg h]
variable {RAd : Nat → Nat → Nat} {bR : Nat → BK} {bks : Nat → Option Nat} {nx ch : Int32} {c9 : Nat} {past : Nat → BB} {q : BK}
theorem HI_nx (h : HIo LS SE RAd bR bks nx ch c9 past) : ∃ n9, n9 < 6 ∧ nx = nI n9 ∧ bks n9 = some (RAd 0 0) ∧ (bks (if n9 = 0 then 5 else n9 - 1) = some (RAd 5 0)) := by
  obtain ⟨⟨n9, h1, h2, h3⟩, -⟩ := h
  refine ⟨n9, h1, h2, ?_, ?_⟩
  · have := h3 0 (by omega)
    rwa [show (n9 + 0) % 6 = n9 by omega] at this
  · have := h3 5 (by omega)
    by_cases z : n9 = 0
    · rw [if_pos z]
      subst z
      exact this
    · rw [if_neg z]
      rwa [show (n9 + 5) % 6 = n9 - 1 by omega] at this
theorem HI_push (h : HIo LS SE RAd bR bks nx ch c9 past) {n9 : Nat} (h9 : n9 < 6) (hx : nx = nI n9) (hB : BOK LS SE B) (hq : BE q B.1) : HIo LS SE (rotA RAd) (rotU bR q) bks (nI (if n9 = 5 then 0 else n9 + 1)) (nI (if c9 = 6 then 6 else c9 + 1)) (if c9 = 6 then 6 else c9 + 1) (fun r => if r = 0 then (q, B.2) else past (r - 1)) := by
  obtain ⟨⟨m, h1, h2, h3⟩, h4, h5, h6⟩ := h
  have em : m = n9 := nI_inj (by omega) (by omega) (h2.symm.trans hx)
  subst em
  refine ⟨⟨if m = 5 then 0 else m + 1, by split <;> omega, rfl, fun r hr => ?_⟩, by split <;> omega, rfl, fun r hr => ?_⟩
  · have e : ((if m = 5 then 0 else m + 1) + r) % 6 = (m + (r + 1) % 6) % 6 := by split <;> omega
    rw [e]
    exact h3 ((r + 1) % 6) (by omega)
  · by_cases z : r = 0
    · subst z
      exact ⟨rfl, BOK_be hB hq⟩
    · have hr' : r - 1 < c9 := by split at hr <;> omega
      have hr6 : r < 6 := by split at hr <;> omega
      obtain ⟨a, b⟩ := h6 (r - 1) hr'
      have e1 : rotU bR q (5 - r) = bR (5 - (r - 1)) := by
        unfold rotU
        rw [if_neg (by omega), show 5 - r + 1 = 5 - (r - 1) by omega]
      dsimp only
      rw [if_neg z, e1]
      exact ⟨a, b⟩
theorem HI_pop (h : HIo LS SE RAd bR bks nx ch c9 past) {n9 : Nat} (h9 : n9 < 6) (hx : nx = nI n9) (h0 : 0 < c9) : HIo LS SE (rotB RAd) (rotD bR) bks (nI (if n9 = 0 then 5 else n9 - 1)) (nI (c9 - 1)) (c9 - 1) (fun r => past (r + 1)) := by
  obtain ⟨⟨m, h1, h2, h3⟩, h4, h5, h6⟩ := h
  have em : m = n9 := nI_inj (by omega) (by omega) (h2.symm.trans hx)
  subst em
  refine ⟨⟨if m = 0 then 5 else m - 1, by split <;> omega, rfl, fun r hr => ?_⟩, by omega, rfl, fun r hr => ?_⟩
  · have e : ((if m = 0 then 5 else m - 1) + r) % 6 = (m + (r + 5) % 6) % 6 := by split <;> omega
    rw [e]
    exact h3 ((r + 5) % 6) (by omega)
  · obtain ⟨a, b⟩ := h6 (r + 1) (by omega)
    have e1 : rotD bR (5 - r) = bR (5 - (r + 1)) := by
      unfold rotD
      rw [if_neg (by omega), show 5 - r - 1 = 5 - (r + 1) by omega]
    rw [e1]
    exact ⟨a, b⟩
/-- books alike: as they are looked at -/
def BEB (B B' : BB) : Prop := BE B.1 B'.1 ∧ B.2 = B'.2
/-- the book ahead of a change is kept -/
def PUSHED (σ σ' : AB) : Prop := σ'.2.1 = (if σ.2.1 = 6 then 6 else σ.2.1 + 1) ∧ BEB (σ'.2.2.1 0) σ.1 ∧ ∀ r, r + 1 < σ'.2.1 → σ'.2.2.1 (r + 1) = σ.2.2.1 r
/-- what a change leaves -/
def KEPTR (σ σ' : AB) : Prop := σ'.2.2.2.1 = σ.2.2.2.1 ∧ σ'.2.2.2.2.1 = σ.2.2.2.2.1 ∧ σ'.2.2.2.2.2.2 = σ.2.2.2.2.2.2
def REFUSED (σ σ' : AB) : Prop := σ'.1 = σ.1 ∧ σ'.2.1 = σ.2.1 ∧ σ'.2.2.1 = σ.2.2.1 ∧ KEPTR σ σ'
end BOKS
