/-! THE CALLS that change something, told by the book (gen/chg.py) -/
/-- nothing is changed but a reason -/
def KEEP9 (nx ch : Nat) (q b : BK) (nv cv : Int32) (q' b' : BK) : Prop := nv = nI nx ∧ cv = nI ch ∧ q' = q ∧ b' = b
/-- the book is kept ahead of a change -/
def PUSH9 (nx ch : Nat) (b : BK) (nv cv : Int32) (q' : BK) : Prop := nv = nI (if nx = 5 then 0 else nx + 1) ∧ cv = nI (if ch = 6 then 6 else ch + 1) ∧ BE q' b
def OKdrams (B : BB) (l h : Int32) : Prop := BNDS l h ∧ B.2.1 < 6
def OKpour (B : BB) (p v : Int32) (c : Nat) : Prop := c < B.2.1 ∧ p = nI c ∧ B.1.2.2.2.2.2.2.1 c = 0 ∧ (B.1.2.2.2.2.2.2.2.1 c).toInt ≤ v.toInt ∧ v.toInt ≤ (B.1.2.2.2.2.2.2.2.2.1 c).toInt
def OKladle (B : BB) (p v : Int32) (c : Nat) : Prop := c < B.2.1 ∧ p = nI c ∧ B.1.2.2.2.2.2.2.1 c ≠ 0 ∧ ¬ v < -9999 ∧ v ≤ 9999
def OKbounds (B : BB) (p l h : Int32) (c : Nat) : Prop := c < B.2.1 ∧ p = nI c ∧ B.1.2.2.2.2.2.2.1 c = 0 ∧ BNDS l h ∧ l.toInt ≤ (B.1.2.2.2.2.1 c).toInt ∧ (B.1.2.2.2.2.1 c).toInt ≤ h.toInt
def bPour (b : BK) (c : Nat) (v : Int32) : BK := (b.1, b.2.1, b.2.2.1, b.2.2.2.1, upd b.2.2.2.2.1 c v, b.2.2.2.2.2.1, b.2.2.2.2.2.2.1, b.2.2.2.2.2.2.2.1, b.2.2.2.2.2.2.2.2.1, b.2.2.2.2.2.2.2.2.2.1, b.2.2.2.2.2.2.2.2.2.2.1, b.2.2.2.2.2.2.2.2.2.2.2)
def bLadle (b : BK) (c : Nat) (x : UInt32) : BK := (b.1, b.2.1, b.2.2.1, b.2.2.2.1, b.2.2.2.2.1, vf_upd b.2.2.2.2.2.1 c x, b.2.2.2.2.2.2.1, b.2.2.2.2.2.2.2.1, b.2.2.2.2.2.2.2.2.1, b.2.2.2.2.2.2.2.2.2.1, b.2.2.2.2.2.2.2.2.2.2.1, b.2.2.2.2.2.2.2.2.2.2.2)
def bBnds (b : BK) (c : Nat) (l h : Int32) : BK := (b.1, b.2.1, b.2.2.1, b.2.2.2.1, b.2.2.2.2.1, b.2.2.2.2.2.1, b.2.2.2.2.2.2.1, upd b.2.2.2.2.2.2.2.1 c l, upd b.2.2.2.2.2.2.2.2.1 c h, b.2.2.2.2.2.2.2.2.2.1, b.2.2.2.2.2.2.2.2.2.2.1, b.2.2.2.2.2.2.2.2.2.2.2)
theorem i32_lt0 {x : Int32} {n : Int} (hx : x.toInt = n) (hn : n < 0) : x < 0 := by
  rw [Int32.lt_iff_toInt_lt, hx]
  exact hn
theorem BOK_tx {LS : List Nat} {SE : Nat → SV} {B : BB} (h : BOK LS SE B) : (∀ i, i < 4 → oin9 LS (B.1.2.2.2.2.2.2.2.2.2.2.1 i) = true) ∧ (∀ c, c < 6 → bo (B.1.2.2.2.2.2.2.1 c) = true) := ⟨h.2.2.2.2.2.2, CX_bo h.2.2.2.2.1⟩
theorem kp_L_drams {LS : List Nat} {SE : Nat → SV} {B : BB} {nx ch : Nat} {bks : Nat → Option Nat} {q : BK} {a : Nat} {refusal_isKept : Int32} {refusal_reason : Int32} {refusal_detail : Int32} {refusal_hasCause : Int32} {p1 : Int32} {p2 : Int32} (hB : BOK LS SE B) (hn : nx < 6) (hc : ch ≤ 6) (hq : bks nx = some a) : Ok (g_L_drams LS SE B.1.1 B.1.2.1 B.1.2.2.1 B.1.2.2.2.1 refusal_isKept refusal_reason refusal_detail refusal_hasCause (nI nx) (nI ch) bks q.1 q.2.1 q.2.2.1 q.2.2.2.1 q.2.2.2.2.1 B.1.2.2.2.2.1 q.2.2.2.2.2.1 B.1.2.2.2.2.2.1 q.2.2.2.2.2.2.1 B.1.2.2.2.2.2.2.1 q.2.2.2.2.2.2.2.1 B.1.2.2.2.2.2.2.2.1 q.2.2.2.2.2.2.2.2.1 B.1.2.2.2.2.2.2.2.2.1 q.2.2.2.2.2.2.2.2.2.1 B.1.2.2.2.2.2.2.2.2.2.1 q.2.2.2.2.2.2.2.2.2.2.1 B.1.2.2.2.2.2.2.2.2.2.2.1 q.2.2.2.2.2.2.2.2.2.2.2 B.1.2.2.2.2.2.2.2.2.2.2.2 p1 p2 a) (fun o => (¬ OKdrams B p1 p2 ∧ o.1 < 0 ∧ KEEP9 nx ch q B.1 o.2.2.2.2.2.2.1 o.2.2.2.2.2.2.2.1 (o.2.2.2.2.2.2.2.2.1, o.2.2.2.2.2.2.2.2.2.1, o.2.2.2.2.2.2.2.2.2.2.1, o.2.2.2.2.2.2.2.2.2.2.2.1, o.2.2.2.2.2.2.2.2.2.2.2.2.1, o.2.2.2.2.2.2.2.2.2.2.2.2.2.2.1, o.2.2.2.2.2.2.2.2.2.2.2.2.2.2.2.2.1, o.2.2.2.2.2.2.2.2.2.2.2.2.2.2.2.2.2.2.1, o.2.2.2.2.2.2.2.2.2.2.2.2.2.2.2.2.2.2.2.2.1, o.2.2.2.2.2.2.2.2.2.2.2.2.2.2.2.2.2.2.2.2.2.2.1, o.2.2.2.2.2.2.2.2.2.2.2.2.2.2.2.2.2.2.2.2.2.2.2.2.1, o.2.2.2.2.2.2.2.2.2.2.2.2.2.2.2.2.2.2.2.2.2.2.2.2.2) (o.2.1, B.1.2.1, B.1.2.2.1, B.1.2.2.2.1, o.2.2.2.2.2.2.2.2.2.2.2.2.2.1, o.2.2.2.2.2.2.2.2.2.2.2.2.2.2.2.1, o.2.2.2.2.2.2.2.2.2.2.2.2.2.2.2.2.2.1, o.2.2.2.2.2.2.2.2.2.2.2.2.2.2.2.2.2.2.2.1, o.2.2.2.2.2.2.2.2.2.2.2.2.2.2.2.2.2.2.2.2.2.1, o.2.2.2.2.2.2.2.2.2.2.2.2.2.2.2.2.2.2.2.2.2.2.2.1, B.1.2.2.2.2.2.2.2.2.2.2.1, B.1.2.2.2.2.2.2.2.2.2.2.2)) ∨ (OKdrams B p1 p2 ∧ o.1 = nI B.2.1 ∧ PUSH9 nx ch B.1 o.2.2.2.2.2.2.1 o.2.2.2.2.2.2.2.1 (o.2.2.2.2.2.2.2.2.1, o.2.2.2.2.2.2.2.2.2.1, o.2.2.2.2.2.2.2.2.2.2.1, o.2.2.2.2.2.2.2.2.2.2.2.1, o.2.2.2.2.2.2.2.2.2.2.2.2.1, o.2.2.2.2.2.2.2.2.2.2.2.2.2.2.1, o.2.2.2.2.2.2.2.2.2.2.2.2.2.2.2.2.1, o.2.2.2.2.2.2.2.2.2.2.2.2.2.2.2.2.2.2.1, o.2.2.2.2.2.2.2.2.2.2.2.2.2.2.2.2.2.2.2.2.1, o.2.2.2.2.2.2.2.2.2.2.2.2.2.2.2.2.2.2.2.2.2.2.1, o.2.2.2.2.2.2.2.2.2.2.2.2.2.2.2.2.2.2.2.2.2.2.2.2.1, o.2.2.2.2.2.2.2.2.2.2.2.2.2.2.2.2.2.2.2.2.2.2.2.2.2) ∧ (o.2.1, B.1.2.1, B.1.2.2.1, B.1.2.2.2.1, o.2.2.2.2.2.2.2.2.2.2.2.2.2.1, o.2.2.2.2.2.2.2.2.2.2.2.2.2.2.2.1, o.2.2.2.2.2.2.2.2.2.2.2.2.2.2.2.2.2.1, o.2.2.2.2.2.2.2.2.2.2.2.2.2.2.2.2.2.2.2.1, o.2.2.2.2.2.2.2.2.2.2.2.2.2.2.2.2.2.2.2.2.2.1, o.2.2.2.2.2.2.2.2.2.2.2.2.2.2.2.2.2.2.2.2.2.2.2.1, B.1.2.2.2.2.2.2.2.2.2.2.1, B.1.2.2.2.2.2.2.2.2.2.2.2) = bNew B.1 B.2.1 0 p1 p2 (v0 p1 p2))) := by
  obtain ⟨h6, h4, e1, e2, hX, hT⟩ := id hB
  obtain ⟨htx, hbo⟩ := BOK_tx hB
  unfold g_L_drams g_X11_drams
  rcases k_needBounds p1 p2 with ⟨hb, hnb⟩ | ⟨hb, hnb⟩
  · by_cases h6' : B.2.1 < 6
    · have hroom : ∀ kp rs de hc, g_X11_needRoomForCauldron B.1.1 kp rs de hc = some (0, kp, rs, de, hc) := by
        intro kp rs de hc
        unfold g_X11_needRoomForCauldron
        rw [e1]
        exact if_pos (nI_lt (b := 6) h6' (by omega))
      refine bbe hnb (bt rfl (bbe (hroom _ _ _ _) (bt rfl (ba (ok_b (k_X4_remember (LS := LS) (SE := SE) htx hbo q hn hc hq) (fun o ho => ?_))))))
      refine bbe (by rw [e1]; exact k_X0_setUp h6' _ _ _ _ _ _ (show bo 0 = true from rfl)) (bs (ok_t rfl (ok_s (Or.inr ⟨⟨hb, h6'⟩, rfl, ⟨ho.1, ho.2.1, ho.2.2⟩, rfl⟩))))
    · have h6e : B.2.1 = 6 := by omega
      have hroom : ∀ kp rs de hc, g_X11_needRoomForCauldron B.1.1 kp rs de hc = some (4, 1, 1, nI 6, 0) := by
        intro kp rs de hc
        unfold g_X11_needRoomForCauldron
        rw [e1, h6e]
        rfl
      exact bbe hnb (bt rfl (bbe (hroom _ _ _ _) (bf (by decide) (bs (ok_f (show ¬ (4 : Int32) = 0 by decide) (ok_f (show ¬ (4 : Int32) = 1 by decide) (ok_t rfl (ok_s (Or.inl ⟨fun z => h6' z.2, show (-2 : Int32) < 0 by decide, rfl, rfl, rfl, rfl⟩)))))))))
  · exact bbe hnb (bf (by decide) (bs (ok_f (show ¬ (1 : Int32) = 0 by decide) (ok_t rfl (ok_s (Or.inl ⟨fun z => hb z.1, show (-1 : Int32) < 0 by decide, rfl, rfl, rfl, rfl⟩))))))
theorem kp_L_broth {LS : List Nat} {SE : Nat → SV} {B : BB} {nx ch : Nat} {bks : Nat → Option Nat} {q : BK} {a : Nat} {refusal_isKept : Int32} {refusal_reason : Int32} {refusal_detail : Int32} {refusal_hasCause : Int32}  (hB : BOK LS SE B) (hn : nx < 6) (hc : ch ≤ 6) (hq : bks nx = some a) : Ok (g_L_broth LS SE B.1.1 B.1.2.1 B.1.2.2.1 B.1.2.2.2.1 refusal_isKept refusal_reason refusal_detail refusal_hasCause (nI nx) (nI ch) bks q.1 q.2.1 q.2.2.1 q.2.2.2.1 q.2.2.2.2.1 B.1.2.2.2.2.1 q.2.2.2.2.2.1 B.1.2.2.2.2.2.1 q.2.2.2.2.2.2.1 B.1.2.2.2.2.2.2.1 q.2.2.2.2.2.2.2.1 B.1.2.2.2.2.2.2.2.1 q.2.2.2.2.2.2.2.2.1 B.1.2.2.2.2.2.2.2.2.1 q.2.2.2.2.2.2.2.2.2.1 B.1.2.2.2.2.2.2.2.2.2.1 q.2.2.2.2.2.2.2.2.2.2.1 B.1.2.2.2.2.2.2.2.2.2.2.1 q.2.2.2.2.2.2.2.2.2.2.2 B.1.2.2.2.2.2.2.2.2.2.2.2 a) (fun o => (¬ B.2.1 < 6 ∧ o.1 < 0 ∧ KEEP9 nx ch q B.1 o.2.2.2.2.2.2.1 o.2.2.2.2.2.2.2.1 (o.2.2.2.2.2.2.2.2.1, o.2.2.2.2.2.2.2.2.2.1, o.2.2.2.2.2.2.2.2.2.2.1, o.2.2.2.2.2.2.2.2.2.2.2.1, o.2.2.2.2.2.2.2.2.2.2.2.2.1, o.2.2.2.2.2.2.2.2.2.2.2.2.2.2.1, o.2.2.2.2.2.2.2.2.2.2.2.2.2.2.2.2.1, o.2.2.2.2.2.2.2.2.2.2.2.2.2.2.2.2.2.2.1, o.2.2.2.2.2.2.2.2.2.2.2.2.2.2.2.2.2.2.2.2.1, o.2.2.2.2.2.2.2.2.2.2.2.2.2.2.2.2.2.2.2.2.2.2.1, o.2.2.2.2.2.2.2.2.2.2.2.2.2.2.2.2.2.2.2.2.2.2.2.2.1, o.2.2.2.2.2.2.2.2.2.2.2.2.2.2.2.2.2.2.2.2.2.2.2.2.2) (o.2.1, B.1.2.1, B.1.2.2.1, B.1.2.2.2.1, o.2.2.2.2.2.2.2.2.2.2.2.2.2.1, o.2.2.2.2.2.2.2.2.2.2.2.2.2.2.2.1, o.2.2.2.2.2.2.2.2.2.2.2.2.2.2.2.2.2.1, o.2.2.2.2.2.2.2.2.2.2.2.2.2.2.2.2.2.2.2.1, o.2.2.2.2.2.2.2.2.2.2.2.2.2.2.2.2.2.2.2.2.2.1, o.2.2.2.2.2.2.2.2.2.2.2.2.2.2.2.2.2.2.2.2.2.2.2.1, B.1.2.2.2.2.2.2.2.2.2.2.1, B.1.2.2.2.2.2.2.2.2.2.2.2)) ∨ (B.2.1 < 6 ∧ o.1 = nI B.2.1 ∧ PUSH9 nx ch B.1 o.2.2.2.2.2.2.1 o.2.2.2.2.2.2.2.1 (o.2.2.2.2.2.2.2.2.1, o.2.2.2.2.2.2.2.2.2.1, o.2.2.2.2.2.2.2.2.2.2.1, o.2.2.2.2.2.2.2.2.2.2.2.1, o.2.2.2.2.2.2.2.2.2.2.2.2.1, o.2.2.2.2.2.2.2.2.2.2.2.2.2.2.1, o.2.2.2.2.2.2.2.2.2.2.2.2.2.2.2.2.1, o.2.2.2.2.2.2.2.2.2.2.2.2.2.2.2.2.2.2.1, o.2.2.2.2.2.2.2.2.2.2.2.2.2.2.2.2.2.2.2.2.1, o.2.2.2.2.2.2.2.2.2.2.2.2.2.2.2.2.2.2.2.2.2.2.1, o.2.2.2.2.2.2.2.2.2.2.2.2.2.2.2.2.2.2.2.2.2.2.2.2.1, o.2.2.2.2.2.2.2.2.2.2.2.2.2.2.2.2.2.2.2.2.2.2.2.2.2) ∧ (o.2.1, B.1.2.1, B.1.2.2.1, B.1.2.2.2.1, o.2.2.2.2.2.2.2.2.2.2.2.2.2.1, o.2.2.2.2.2.2.2.2.2.2.2.2.2.2.2.1, o.2.2.2.2.2.2.2.2.2.2.2.2.2.2.2.2.2.1, o.2.2.2.2.2.2.2.2.2.2.2.2.2.2.2.2.2.2.2.1, o.2.2.2.2.2.2.2.2.2.2.2.2.2.2.2.2.2.2.2.2.2.1, o.2.2.2.2.2.2.2.2.2.2.2.2.2.2.2.2.2.2.2.2.2.2.2.1, B.1.2.2.2.2.2.2.2.2.2.2.1, B.1.2.2.2.2.2.2.2.2.2.2.2) = bNew B.1 B.2.1 1 (-99) 99 0)) := by
  obtain ⟨h6, h4, e1, e2, hX, hT⟩ := id hB
  obtain ⟨htx, hbo⟩ := BOK_tx hB
  unfold g_L_broth g_X11_broth
  by_cases h6' : B.2.1 < 6
  · have hroom : ∀ kp rs de hc, g_X11_needRoomForCauldron B.1.1 kp rs de hc = some (0, kp, rs, de, hc) := by
      intro kp rs de hc
      unfold g_X11_needRoomForCauldron
      rw [e1]
      exact if_pos (nI_lt (b := 6) h6' (by omega))
    refine bbe (hroom _ _ _ _) (bt rfl (ba (ok_b (k_X4_remember (LS := LS) (SE := SE) htx hbo q hn hc hq) (fun o ho => ?_))))
    refine bbe (by rw [e1]; exact k_X0_setUp h6' _ _ _ _ _ _ (show bo 1 = true from rfl)) (bs (ok_t rfl (ok_s (Or.inr ⟨h6', rfl, ⟨ho.1, ho.2.1, ho.2.2⟩, rfl⟩))))
  · have h6e : B.2.1 = 6 := by omega
    have hroom : ∀ kp rs de hc, g_X11_needRoomForCauldron B.1.1 kp rs de hc = some (4, 1, 1, nI 6, 0) := by
      intro kp rs de hc
      unfold g_X11_needRoomForCauldron
      rw [e1, h6e]
      rfl
    exact bbe (hroom _ _ _ _) (bf (by decide) (bs (ok_f (show ¬ (4 : Int32) = 0 by decide) (ok_t rfl (ok_s (Or.inl ⟨h6', show (-2 : Int32) < 0 by decide, rfl, rfl, rfl, rfl⟩))))))
theorem kp_L_pour {LS : List Nat} {SE : Nat → SV} {B : BB} {nx ch : Nat} {bks : Nat → Option Nat} {q : BK} {a : Nat} {refusal_isKept : Int32} {refusal_reason : Int32} {refusal_detail : Int32} {refusal_hasCause : Int32} {p1 : Int32} {p2 : Int32} (hB : BOK LS SE B) (hn : nx < 6) (hc : ch ≤ 6) (hq : bks nx = some a) : Ok (g_L_pour LS SE B.1.1 B.1.2.1 B.1.2.2.1 B.1.2.2.2.1 B.1.2.2.2.2.2.2.1 refusal_isKept refusal_reason refusal_detail refusal_hasCause B.1.2.2.2.2.2.2.2.1 B.1.2.2.2.2.2.2.2.2.1 (nI nx) (nI ch) bks q.1 q.2.1 q.2.2.1 q.2.2.2.1 q.2.2.2.2.1 B.1.2.2.2.2.1 q.2.2.2.2.2.1 B.1.2.2.2.2.2.1 q.2.2.2.2.2.2.1 q.2.2.2.2.2.2.2.1 q.2.2.2.2.2.2.2.2.1 q.2.2.2.2.2.2.2.2.2.1 B.1.2.2.2.2.2.2.2.2.2.1 q.2.2.2.2.2.2.2.2.2.2.1 B.1.2.2.2.2.2.2.2.2.2.2.1 q.2.2.2.2.2.2.2.2.2.2.2 B.1.2.2.2.2.2.2.2.2.2.2.2 p1 p2 a) (fun o => ((¬ ∃ c, OKpour B p1 p2 c) ∧ o.1 ≤ -1001 ∧ KEEP9 nx ch q B.1 o.2.2.2.2.2.1 o.2.2.2.2.2.2.1 (o.2.2.2.2.2.2.2.1, o.2.2.2.2.2.2.2.2.1, o.2.2.2.2.2.2.2.2.2.1, o.2.2.2.2.2.2.2.2.2.2.1, o.2.2.2.2.2.2.2.2.2.2.2.1, o.2.2.2.2.2.2.2.2.2.2.2.2.2.1, o.2.2.2.2.2.2.2.2.2.2.2.2.2.2.1, o.2.2.2.2.2.2.2.2.2.2.2.2.2.2.2.1, o.2.2.2.2.2.2.2.2.2.2.2.2.2.2.2.2.1, o.2.2.2.2.2.2.2.2.2.2.2.2.2.2.2.2.2.1, o.2.2.2.2.2.2.2.2.2.2.2.2.2.2.2.2.2.2.1, o.2.2.2.2.2.2.2.2.2.2.2.2.2.2.2.2.2.2.2) (B.1.1, B.1.2.1, B.1.2.2.1, B.1.2.2.2.1, o.2.2.2.2.2.2.2.2.2.2.2.2.1, B.1.2.2.2.2.2.1, B.1.2.2.2.2.2.2.1, B.1.2.2.2.2.2.2.2.1, B.1.2.2.2.2.2.2.2.2.1, B.1.2.2.2.2.2.2.2.2.2.1, B.1.2.2.2.2.2.2.2.2.2.2.1, B.1.2.2.2.2.2.2.2.2.2.2.2)) ∨ (∃ c, OKpour B p1 p2 c ∧ o.1 = B.1.2.2.2.2.1 c ∧ PUSH9 nx ch B.1 o.2.2.2.2.2.1 o.2.2.2.2.2.2.1 (o.2.2.2.2.2.2.2.1, o.2.2.2.2.2.2.2.2.1, o.2.2.2.2.2.2.2.2.2.1, o.2.2.2.2.2.2.2.2.2.2.1, o.2.2.2.2.2.2.2.2.2.2.2.1, o.2.2.2.2.2.2.2.2.2.2.2.2.2.1, o.2.2.2.2.2.2.2.2.2.2.2.2.2.2.1, o.2.2.2.2.2.2.2.2.2.2.2.2.2.2.2.1, o.2.2.2.2.2.2.2.2.2.2.2.2.2.2.2.2.1, o.2.2.2.2.2.2.2.2.2.2.2.2.2.2.2.2.2.1, o.2.2.2.2.2.2.2.2.2.2.2.2.2.2.2.2.2.2.1, o.2.2.2.2.2.2.2.2.2.2.2.2.2.2.2.2.2.2.2) ∧ (B.1.1, B.1.2.1, B.1.2.2.1, B.1.2.2.2.1, o.2.2.2.2.2.2.2.2.2.2.2.2.1, B.1.2.2.2.2.2.1, B.1.2.2.2.2.2.2.1, B.1.2.2.2.2.2.2.2.1, B.1.2.2.2.2.2.2.2.2.1, B.1.2.2.2.2.2.2.2.2.2.1, B.1.2.2.2.2.2.2.2.2.2.2.1, B.1.2.2.2.2.2.2.2.2.2.2.2) = bPour B.1 c p2)) := by
  obtain ⟨h6, h4, e1, e2, hX, hT⟩ := id hB
  obtain ⟨htx, hbo⟩ := BOK_tx hB
  unfold g_L_pour g_X11_pour
  rcases idx p1 B.2.1 (by omega) with ⟨c, hc', rfl⟩ | ho
  · have hc6 : c < 6 := by omega
    have hin : inb (nI c) 6 = true := x_inb hc6 (by omega)
    have hcl : (nI c).toNatClampNeg = c := x_cl (by omega)
    have nC : g_X11_needCauldron B.1.1 (nI c) = some 0 := by rw [e1]; exact k_needCauldron_in hc' h6
    have one : ∀ d, OKpour B (nI c) p2 d → d = c := fun d hd => (nI_inj (by omega) (by have := hd.1; omega) hd.2.1).symm
    by_cases hk : B.1.2.2.2.2.2.2.1 c = 0
    · have nD := k_needDrams (kp := refusal_isKept) (rs := refusal_reason) (de := refusal_detail) (hc9 := refusal_hasCause) (kd := B.1.2.2.2.2.2.2.1) hc6
      rw [if_pos hk] at nD
      have hold := k_X0_holds (lo := B.1.2.2.2.2.2.2.2.1) (hi := B.1.2.2.2.2.2.2.2.2.1) hc6 p2.toInt64
      by_cases hh : HL B.1.2.2.2.2.2.2.2.1 B.1.2.2.2.2.2.2.2.2.1 c p2.toInt64 = true
      · rw [if_pos hh] at hold
        have hb2 := HL_i.mp hh
        rw [Int32.toInt_toInt64] at hb2
        refine bbe nC (bt rfl (bbe nD (bt rfl (bbe hold (bf (by decide) (ba (ok_b (k_X4_remember (LS := LS) (SE := SE) htx hbo q hn hc hq) (fun r hr => bc hin (bl (bc hin (bs (ok_t rfl (ok_s (Or.inr ⟨c, ⟨hc', rfl, hk, hb2⟩, ?_, ⟨hr.1, hr.2.1, hr.2.2⟩, ?_⟩))))))))))))))
        · dsimp only
          rw [hcl]
        · dsimp only
          rw [hcl]
          rfl
      · rw [if_neg hh] at hold
        refine bbe nC (bt rfl (bbe nD (bt rfl (bbe hold (bt rfl (bbe (show g_X7_keep refusal_isKept refusal_reason refusal_detail refusal_hasCause 3 p2 = some (1, 3, p2, 0) from rfl) (bs (ok_f (show ¬ (4 : Int32) = 0 by decide) (ok_f (show ¬ (4 : Int32) = 2 by decide) (ok_t rfl (ok_s (Or.inl ⟨fun z => ?_, show (-1002 : Int32) ≤ -1001 by decide, rfl, rfl, rfl, rfl⟩))))))))))))
        obtain ⟨d, hd⟩ := z
        have := one d hd
        subst this
        exact hh (HL_i.mpr (by rw [Int32.toInt_toInt64]; exact hd.2.2.2))
    · have nD := k_needDrams (kp := refusal_isKept) (rs := refusal_reason) (de := refusal_detail) (hc9 := refusal_hasCause) (kd := B.1.2.2.2.2.2.2.1) hc6
      rw [if_neg hk] at nD
      refine bbe nC (bt rfl (bbe nD (bf (show ¬ (4 : Int32) = 0 by decide) (bs (ok_f (show ¬ (4 : Int32) = 0 by decide) (ok_f (show ¬ (4 : Int32) = 2 by decide) (ok_t rfl (ok_s (Or.inl ⟨fun z => ?_, show (-1002 : Int32) ≤ -1001 by decide, rfl, rfl, rfl, rfl⟩)))))))))
      obtain ⟨d, hd⟩ := z
      have := one d hd
      subst this
      exact hk hd.2.2.1
  · have nC : g_X11_needCauldron B.1.1 p1 = some 2 := by rw [e1]; exact k_needCauldron_out ho
    refine bbe nC (bf (by decide) (bs (ok_f (show ¬ (2 : Int32) = 0 by decide) (ok_t rfl (ok_s (Or.inl ⟨fun z => ?_, show (-1001 : Int32) ≤ -1001 by decide, rfl, rfl, rfl, rfl⟩))))))
    obtain ⟨d, hd⟩ := z
    exact out_to (by omega) ho (by rw [hd.2.1, nI_toInt (by have := hd.1; omega)]; have := hd.1; omega)
theorem kp_L_ladle {LS : List Nat} {SE : Nat → SV} {B : BB} {nx ch : Nat} {bks : Nat → Option Nat} {q : BK} {a : Nat} {refusal_isKept : Int32} {refusal_reason : Int32} {refusal_detail : Int32} {refusal_hasCause : Int32} {p1 : Int32} {p2 : Int32} (hB : BOK LS SE B) (hn : nx < 6) (hc : ch ≤ 6) (hq : bks nx = some a) : Ok (g_L_ladle LS SE B.1.1 B.1.2.1 B.1.2.2.1 B.1.2.2.2.1 B.1.2.2.2.2.2.2.1 (nI nx) (nI ch) bks q.1 q.2.1 q.2.2.1 q.2.2.2.1 q.2.2.2.2.1 B.1.2.2.2.2.1 q.2.2.2.2.2.1 B.1.2.2.2.2.2.1 q.2.2.2.2.2.2.1 q.2.2.2.2.2.2.2.1 B.1.2.2.2.2.2.2.2.1 q.2.2.2.2.2.2.2.2.1 B.1.2.2.2.2.2.2.2.2.1 q.2.2.2.2.2.2.2.2.2.1 B.1.2.2.2.2.2.2.2.2.2.1 q.2.2.2.2.2.2.2.2.2.2.1 B.1.2.2.2.2.2.2.2.2.2.2.1 q.2.2.2.2.2.2.2.2.2.2.2 B.1.2.2.2.2.2.2.2.2.2.2.2 refusal_isKept refusal_reason refusal_detail refusal_hasCause p1 p2 a) (fun o => ((¬ ∃ c, OKladle B p1 p2 c) ∧ o.1 ≤ -1001 ∧ KEEP9 nx ch q B.1 o.2.1 o.2.2.1 (o.2.2.2.1, o.2.2.2.2.1, o.2.2.2.2.2.1, o.2.2.2.2.2.2.1, o.2.2.2.2.2.2.2.1, o.2.2.2.2.2.2.2.2.1, o.2.2.2.2.2.2.2.2.2.2.1, o.2.2.2.2.2.2.2.2.2.2.2.1, o.2.2.2.2.2.2.2.2.2.2.2.2.1, o.2.2.2.2.2.2.2.2.2.2.2.2.2.1, o.2.2.2.2.2.2.2.2.2.2.2.2.2.2.1, o.2.2.2.2.2.2.2.2.2.2.2.2.2.2.2.1) (B.1.1, B.1.2.1, B.1.2.2.1, B.1.2.2.2.1, B.1.2.2.2.2.1, o.2.2.2.2.2.2.2.2.2.1, B.1.2.2.2.2.2.2.1, B.1.2.2.2.2.2.2.2.1, B.1.2.2.2.2.2.2.2.2.1, B.1.2.2.2.2.2.2.2.2.2.1, B.1.2.2.2.2.2.2.2.2.2.2.1, B.1.2.2.2.2.2.2.2.2.2.2.2)) ∨ (∃ c, OKladle B p1 p2 c ∧ (o.1 = 0 ∨ o.1 = 1) ∧ PUSH9 nx ch B.1 o.2.1 o.2.2.1 (o.2.2.2.1, o.2.2.2.2.1, o.2.2.2.2.2.1, o.2.2.2.2.2.2.1, o.2.2.2.2.2.2.2.1, o.2.2.2.2.2.2.2.2.1, o.2.2.2.2.2.2.2.2.2.2.1, o.2.2.2.2.2.2.2.2.2.2.2.1, o.2.2.2.2.2.2.2.2.2.2.2.2.1, o.2.2.2.2.2.2.2.2.2.2.2.2.2.1, o.2.2.2.2.2.2.2.2.2.2.2.2.2.2.1, o.2.2.2.2.2.2.2.2.2.2.2.2.2.2.2.1) ∧ (B.1.1, B.1.2.1, B.1.2.2.1, B.1.2.2.2.1, B.1.2.2.2.2.1, o.2.2.2.2.2.2.2.2.2.1, B.1.2.2.2.2.2.2.1, B.1.2.2.2.2.2.2.2.1, B.1.2.2.2.2.2.2.2.2.1, B.1.2.2.2.2.2.2.2.2.2.1, B.1.2.2.2.2.2.2.2.2.2.2.1, B.1.2.2.2.2.2.2.2.2.2.2.2) = bLadle B.1 c (FP.fdiv (FP.i2f p2) (1120403456 : UInt32)))) := by
  obtain ⟨h6, h4, e1, e2, hX, hT⟩ := id hB
  obtain ⟨htx, hbo⟩ := BOK_tx hB
  unfold g_L_ladle g_X11_ladle
  rcases idx p1 B.2.1 (by omega) with ⟨c, hc', rfl⟩ | ho
  · have hc6 : c < 6 := by omega
    obtain ⟨⟨a1, a2, a3, a4⟩, -⟩ := hX c hc6
    have hin : inb (nI c) 6 = true := x_inb hc6 (by omega)
    have hcl : (nI c).toNatClampNeg = c := x_cl (by omega)
    have nC : g_X11_needCauldron B.1.1 (nI c) = some 0 := by rw [e1]; exact k_needCauldron_in hc' h6
    have one : ∀ d, OKladle B (nI c) p2 d → d = c := fun d hd => (nI_inj (by omega) (by have := hd.1; omega) hd.2.1).symm
    by_cases g1 : p2 < -9999
    · unfold g_X11_ladle_b19
      exact bbe nC (bt rfl (bt g1 (bs (ok_f (show ¬ (1 : Int32) = 0 by decide) (ok_t rfl (ok_s (Or.inl ⟨fun z => z.elim (fun d hd => hd.2.2.2.1 g1), show (-1003 : Int32) ≤ -1001 by decide, rfl, rfl, rfl, rfl⟩)))))))
    by_cases g2 : p2 ≤ 9999
    · by_cases hk : B.1.2.2.2.2.2.2.1 c = 0
      · refine bbe nC (bt rfl (bf g1 (bt g2 (bc hin (bt (by rw [hcl]; exact hk) (bbe (show g_X7_keep refusal_isKept refusal_reason refusal_detail refusal_hasCause 4 (nI c) = some (1, 4, nI c, 0) from rfl) (bs (ok_f (show ¬ (4 : Int32) = 0 by decide) (ok_f (show ¬ (4 : Int32) = 1 by decide) (ok_f (show ¬ (4 : Int32) = 2 by decide) (ok_t rfl (ok_s (Or.inl ⟨fun z => ?_, show (-1002 : Int32) ≤ -1001 by decide, rfl, rfl, rfl, rfl⟩)))))))))))))
        obtain ⟨d, hd⟩ := z
        have := one d hd
        subst this
        exact hd.2.2.1 hk
      · refine bbe nC (bt rfl (bf g1 (bt g2 (bc hin (bf (by rw [hcl]; exact hk) (ba (ok_b (k_X4_remember (LS := LS) (SE := SE) htx hbo q hn hc hq) (fun r hr => bc hin (bbe (by rw [hcl]; exact k_bitsOf a4.1) (bc (ff_div100 p2) (bc hin (bs (ok_t rfl ?_)))))))))))))
        rw [hcl]
        by_cases z0 : (B.1.2.2.2.2.2.1 c).toInt32 = 0
        · exact ok_t z0 (ok_s (Or.inr ⟨c, ⟨hc', rfl, hk, g1, g2⟩, Or.inl rfl, ⟨hr.1, hr.2.1, hr.2.2⟩, rfl⟩))
        · exact ok_f z0 (ok_s (Or.inr ⟨c, ⟨hc', rfl, hk, g1, g2⟩, Or.inr rfl, ⟨hr.1, hr.2.1, hr.2.2⟩, rfl⟩))
    · unfold g_X11_ladle_b19
      exact bbe nC (bt rfl (bf g1 (bf g2 (bs (ok_f (show ¬ (1 : Int32) = 0 by decide) (ok_t rfl (ok_s (Or.inl ⟨fun z => z.elim (fun d hd => g2 hd.2.2.2.2), show (-1003 : Int32) ≤ -1001 by decide, rfl, rfl, rfl, rfl⟩))))))))
  · have nC : g_X11_needCauldron B.1.1 p1 = some 2 := by rw [e1]; exact k_needCauldron_out ho
    refine bbe nC (bf (by decide) (bs (ok_f (show ¬ (2 : Int32) = 0 by decide) (ok_f (show ¬ (2 : Int32) = 1 by decide) (ok_t rfl (ok_s (Or.inl ⟨fun z => ?_, show (-1001 : Int32) ≤ -1001 by decide, rfl, rfl, rfl, rfl⟩)))))))
    obtain ⟨d, hd⟩ := z
    exact out_to (by omega) ho (by rw [hd.2.1, nI_toInt (by have := hd.1; omega)]; have := hd.1; omega)
theorem kp_L_bounds {LS : List Nat} {SE : Nat → SV} {B : BB} {nx ch : Nat} {bks : Nat → Option Nat} {q : BK} {a : Nat} {refusal_isKept : Int32} {refusal_reason : Int32} {refusal_detail : Int32} {refusal_hasCause : Int32} {typing_faultAt : Int32} {typing_stores : Int32} {typing_spoons : Int32} {typing_isBroth : Nat → Int32} {typing_low : Nat → Int64} {typing_high : Nat → Int64} {typing_storeIsBroth : Nat → Int32} {typing_storeLow : Nat → Int64} {typing_storeHigh : Nat → Int64} {p1 : Int32} {p2 : Int32} {p3 : Int32} (hB : BOK LS SE B) (hn : nx < 6) (hc : ch ≤ 6) (hq : bks nx = some a) : Ok (g_L_bounds LS SE B.1.1 B.1.2.1 B.1.2.2.1 B.1.2.2.2.1 B.1.2.2.2.2.2.2.1 refusal_isKept refusal_reason refusal_detail refusal_hasCause B.1.2.2.2.2.1 (nI nx) (nI ch) bks q.1 q.2.1 q.2.2.1 q.2.2.2.1 q.2.2.2.2.1 q.2.2.2.2.2.1 B.1.2.2.2.2.2.1 q.2.2.2.2.2.2.1 q.2.2.2.2.2.2.2.1 B.1.2.2.2.2.2.2.2.1 q.2.2.2.2.2.2.2.2.1 B.1.2.2.2.2.2.2.2.2.1 q.2.2.2.2.2.2.2.2.2.1 B.1.2.2.2.2.2.2.2.2.2.1 q.2.2.2.2.2.2.2.2.2.2.1 B.1.2.2.2.2.2.2.2.2.2.2.1 q.2.2.2.2.2.2.2.2.2.2.2 B.1.2.2.2.2.2.2.2.2.2.2.2 typing_faultAt typing_stores typing_spoons typing_isBroth typing_low typing_high typing_storeIsBroth typing_storeLow typing_storeHigh p1 p2 p3 a) (fun o => ((¬ ∃ c, OKbounds B p1 p2 p3 c) ∧ o.1 ≤ -1001 ∧ KEEP9 nx ch q B.1 o.2.2.2.2.2.1 o.2.2.2.2.2.2.1 (o.2.2.2.2.2.2.2.1, o.2.2.2.2.2.2.2.2.1, o.2.2.2.2.2.2.2.2.2.1, o.2.2.2.2.2.2.2.2.2.2.1, o.2.2.2.2.2.2.2.2.2.2.2.1, o.2.2.2.2.2.2.2.2.2.2.2.2.1, o.2.2.2.2.2.2.2.2.2.2.2.2.2.1, o.2.2.2.2.2.2.2.2.2.2.2.2.2.2.1, o.2.2.2.2.2.2.2.2.2.2.2.2.2.2.2.2.1, o.2.2.2.2.2.2.2.2.2.2.2.2.2.2.2.2.2.2.1, o.2.2.2.2.2.2.2.2.2.2.2.2.2.2.2.2.2.2.2.1, o.2.2.2.2.2.2.2.2.2.2.2.2.2.2.2.2.2.2.2.2.1) (B.1.1, B.1.2.1, B.1.2.2.1, B.1.2.2.2.1, B.1.2.2.2.2.1, B.1.2.2.2.2.2.1, B.1.2.2.2.2.2.2.1, o.2.2.2.2.2.2.2.2.2.2.2.2.2.2.2.1, o.2.2.2.2.2.2.2.2.2.2.2.2.2.2.2.2.2.1, B.1.2.2.2.2.2.2.2.2.2.1, B.1.2.2.2.2.2.2.2.2.2.2.1, B.1.2.2.2.2.2.2.2.2.2.2.2)) ∨ (∃ c, OKbounds B p1 p2 p3 c ∧ (∃ u v, u < 5 ∧ v < 5 ∧ o.1 = nI u - nI v) ∧ PUSH9 nx ch B.1 o.2.2.2.2.2.1 o.2.2.2.2.2.2.1 (o.2.2.2.2.2.2.2.1, o.2.2.2.2.2.2.2.2.1, o.2.2.2.2.2.2.2.2.2.1, o.2.2.2.2.2.2.2.2.2.2.1, o.2.2.2.2.2.2.2.2.2.2.2.1, o.2.2.2.2.2.2.2.2.2.2.2.2.1, o.2.2.2.2.2.2.2.2.2.2.2.2.2.1, o.2.2.2.2.2.2.2.2.2.2.2.2.2.2.1, o.2.2.2.2.2.2.2.2.2.2.2.2.2.2.2.2.1, o.2.2.2.2.2.2.2.2.2.2.2.2.2.2.2.2.2.2.1, o.2.2.2.2.2.2.2.2.2.2.2.2.2.2.2.2.2.2.2.1, o.2.2.2.2.2.2.2.2.2.2.2.2.2.2.2.2.2.2.2.2.1) ∧ (B.1.1, B.1.2.1, B.1.2.2.1, B.1.2.2.2.1, B.1.2.2.2.2.1, B.1.2.2.2.2.2.1, B.1.2.2.2.2.2.2.1, o.2.2.2.2.2.2.2.2.2.2.2.2.2.2.2.1, o.2.2.2.2.2.2.2.2.2.2.2.2.2.2.2.2.2.1, B.1.2.2.2.2.2.2.2.2.2.1, B.1.2.2.2.2.2.2.2.2.2.2.1, B.1.2.2.2.2.2.2.2.2.2.2.2) = bBnds B.1 c p2 p3)) := by
  obtain ⟨h6, h4, e1, e2, hX, hT⟩ := id hB
  obtain ⟨htx, hbo⟩ := BOK_tx hB
  unfold g_L_bounds g_X11_bounds
  rcases idx p1 B.2.1 (by omega) with ⟨c, hc', rfl⟩ | ho
  · have hc6 : c < 6 := by omega
    have hin : inb (nI c) 6 = true := x_inb hc6 (by omega)
    have hcl : (nI c).toNatClampNeg = c := x_cl (by omega)
    have nC : g_X11_needCauldron B.1.1 (nI c) = some 0 := by rw [e1]; exact k_needCauldron_in hc' h6
    have one : ∀ d, OKbounds B (nI c) p2 p3 d → d = c := fun d hd => (nI_inj (by omega) (by have := hd.1; omega) hd.2.1).symm
    rcases k_needBounds p2 p3 with ⟨hb, hnb⟩ | ⟨hb, hnb⟩
    · by_cases hk : B.1.2.2.2.2.2.2.1 c = 0
      · have nD := k_needDrams (kp := refusal_isKept) (rs := refusal_reason) (de := refusal_detail) (hc9 := refusal_hasCause) (kd := B.1.2.2.2.2.2.2.1) hc6
        rw [if_pos hk] at nD
        have bad : (B.1.2.2.2.2.1 c < p2 ∨ ¬ B.1.2.2.2.2.1 c ≤ p3) → ¬ ∃ d, OKbounds B (nI c) p2 p3 d := by
          rintro h ⟨d, hd⟩
          have := one d hd
          subst this
          obtain ⟨-, -, -, -, g1, g2⟩ := hd
          rw [Int32.lt_iff_toInt_lt, Int32.le_iff_toInt_le] at h
          omega
        by_cases g1 : B.1.2.2.2.2.1 c < p2
        · unfold g_X11_bounds_b42
          exact bbe nC (bt rfl (bbe hnb (bt rfl (bbe nD (bt rfl (bc hin (bl (bt (by rw [hcl]; exact g1) (bbe (show g_X7_keep refusal_isKept refusal_reason refusal_detail refusal_hasCause 3 (B.1.2.2.2.2.1 (nI c).toNatClampNeg) = some (1, 3, B.1.2.2.2.2.1 (nI c).toNatClampNeg, 0) from rfl) (bs (ok_f (show ¬ (4 : Int32) = 0 by decide) (ok_f (show ¬ (4 : Int32) = 1 by decide) (ok_f (show ¬ (4 : Int32) = 2 by decide) (ok_t rfl (ok_s (Or.inl ⟨bad (Or.inl g1), show (-1002 : Int32) ≤ -1001 by decide, rfl, rfl, rfl, rfl⟩))))))))))))))))
        by_cases g2 : B.1.2.2.2.2.1 c ≤ p3
        · have hTN : SX LS SE B.2.1 B.2.2.1 B.2.2.2 B.1.2.2.2.2.2.2.2.2.2.2.1 B.1.2.2.2.2.2.2.2.2.2.2.2 B.1.2.2.2.2.2.2.2.2.2.2.2 := hT
          refine bbe nC (bt rfl (bbe hnb (bt rfl (bbe nD (bt rfl (bc hin (bl (bf (by rw [hcl]; exact g1) (bt (by rw [hcl]; exact g2) (ba (ok_b (k_X4_remember (LS := LS) (SE := SE) htx hbo q hn hc hq) (fun r hr => ?_))))))))))))
          refine ba (ok_b (by rw [e2]; exact k_countTyped h6 h4 hbo hT _ _ _ _ _ _ _ _ _) (fun r6 hr6 => bc hin (bc hin ?_)))
          rw [hcl]
          refine ba (ok_b (by rw [e2]; exact k_countTyped h6 h4 hbo hT _ _ _ _ _ _ _ _ _) (fun r7 hr7 => bl (bs (ok_t rfl (ok_s (Or.inr ⟨c, ⟨hc', rfl, hk, hb, ?_, ?_⟩, ⟨CT B.1.2.2.2.2.2.2.1 (upd B.1.2.2.2.2.2.2.2.1 c p2) (upd B.1.2.2.2.2.2.2.2.2.1 c p3) B.2.2.2 B.2.2.1, CT B.1.2.2.2.2.2.2.1 B.1.2.2.2.2.2.2.2.1 B.1.2.2.2.2.2.2.2.2.1 B.2.2.2 B.2.2.1, ?_, ?_, ?_⟩, ⟨hr.1, hr.2.1, hr.2.2⟩, rfl⟩))))))
          · rw [Int32.lt_iff_toInt_lt] at g1
            omega
          · rw [Int32.le_iff_toInt_le] at g2
            exact g2
          · have := CT_le B.1.2.2.2.2.2.2.1 (upd B.1.2.2.2.2.2.2.2.1 c p2) (upd B.1.2.2.2.2.2.2.2.2.1 c p3) B.2.2.2 B.2.2.1
            omega
          · have := CT_le B.1.2.2.2.2.2.2.1 B.1.2.2.2.2.2.2.2.1 B.1.2.2.2.2.2.2.2.2.1 B.2.2.2 B.2.2.1
            omega
          · dsimp only
            rw [hr6, hr7]
        · unfold g_X11_bounds_b42
          exact bbe nC (bt rfl (bbe hnb (bt rfl (bbe nD (bt rfl (bc hin (bl (bf (by rw [hcl]; exact g1) (bf (by rw [hcl]; exact g2) (bbe (show g_X7_keep refusal_isKept refusal_reason refusal_detail refusal_hasCause 3 (B.1.2.2.2.2.1 (nI c).toNatClampNeg) = some (1, 3, B.1.2.2.2.2.1 (nI c).toNatClampNeg, 0) from rfl) (bs (ok_f (show ¬ (4 : Int32) = 0 by decide) (ok_f (show ¬ (4 : Int32) = 1 by decide) (ok_f (show ¬ (4 : Int32) = 2 by decide) (ok_t rfl (ok_s (Or.inl ⟨bad (Or.inr g2), show (-1002 : Int32) ≤ -1001 by decide, rfl, rfl, rfl, rfl⟩)))))))))))))))))
      · have nD := k_needDrams (kp := refusal_isKept) (rs := refusal_reason) (de := refusal_detail) (hc9 := refusal_hasCause) (kd := B.1.2.2.2.2.2.2.1) hc6
        rw [if_neg hk] at nD
        refine bbe nC (bt rfl (bbe hnb (bt rfl (bbe nD (bf (show ¬ (4 : Int32) = 0 by decide) (bs (ok_f (show ¬ (4 : Int32) = 0 by decide) (ok_f (show ¬ (4 : Int32) = 1 by decide) (ok_f (show ¬ (4 : Int32) = 2 by decide) (ok_t rfl (ok_s (Or.inl ⟨fun z => ?_, show (-1002 : Int32) ≤ -1001 by decide, rfl, rfl, rfl, rfl⟩))))))))))))
        obtain ⟨d, hd⟩ := z
        have := one d hd
        subst this
        exact hk hd.2.2.1
    · exact bbe nC (bt rfl (bbe hnb (bf (by decide) (bs (ok_f (show ¬ (1 : Int32) = 0 by decide) (ok_t rfl (ok_s (Or.inl ⟨fun z => z.elim (fun d hd => hb hd.2.2.2.1), show (-1003 : Int32) ≤ -1001 by decide, rfl, rfl, rfl, rfl⟩))))))))
  · have nC : g_X11_needCauldron B.1.1 p1 = some 2 := by rw [e1]; exact k_needCauldron_out ho
    refine bbe nC (bf (by decide) (bs (ok_f (show ¬ (2 : Int32) = 0 by decide) (ok_f (show ¬ (2 : Int32) = 1 by decide) (ok_t rfl (ok_s (Or.inl ⟨fun z => ?_, show (-1001 : Int32) ≤ -1001 by decide, rfl, rfl, rfl, rfl⟩)))))))
    obtain ⟨d, hd⟩ := z
    exact out_to (by omega) ho (by rw [hd.2.1, nI_toInt (by have := hd.1; omega)]; have := hd.1; omega)
theorem kp_L_undo {LS : List Nat} {SE : Nat → SV} {B : BB} {nx ch : Nat} {bks : Nat → Option Nat} {q : BK} {a : Nat}   (htx : 0 < ch → ∀ i, i < 4 → oin9 LS (q.2.2.2.2.2.2.2.2.2.2.1 i) = true) (hbo : 0 < ch → ∀ c, c < 6 → bo (q.2.2.2.2.2.2.1 c) = true) (hn : nx < 6) (hc : ch ≤ 6) (hq : bks (if nx = 0 then 5 else nx - 1) = some a) : Ok (g_L_undo LS SE (nI nx) (nI ch) B.1.1 B.1.2.1 B.1.2.2.1 B.1.2.2.2.1 bks q.1 q.2.1 q.2.2.1 q.2.2.2.1 B.1.2.2.2.2.1 q.2.2.2.2.1 B.1.2.2.2.2.2.1 q.2.2.2.2.2.1 B.1.2.2.2.2.2.2.1 q.2.2.2.2.2.2.1 B.1.2.2.2.2.2.2.2.1 q.2.2.2.2.2.2.2.1 B.1.2.2.2.2.2.2.2.2.1 q.2.2.2.2.2.2.2.2.1 B.1.2.2.2.2.2.2.2.2.2.1 q.2.2.2.2.2.2.2.2.2.1 B.1.2.2.2.2.2.2.2.2.2.2.1 q.2.2.2.2.2.2.2.2.2.2.1 B.1.2.2.2.2.2.2.2.2.2.2.2 q.2.2.2.2.2.2.2.2.2.2.2 a) (fun o => (ch = 0 ∧ o.1 = -14 ∧ o.2.1 = nI nx ∧ o.2.2.1 = nI ch ∧ (o.2.2.2.1, o.2.2.2.2.1, o.2.2.2.2.2.1, o.2.2.2.2.2.2.1, o.2.2.2.2.2.2.2.1, o.2.2.2.2.2.2.2.2.1, o.2.2.2.2.2.2.2.2.2.1, o.2.2.2.2.2.2.2.2.2.2.1, o.2.2.2.2.2.2.2.2.2.2.2.1, o.2.2.2.2.2.2.2.2.2.2.2.2.1, o.2.2.2.2.2.2.2.2.2.2.2.2.2.1, o.2.2.2.2.2.2.2.2.2.2.2.2.2.2) = B.1) ∨ (0 < ch ∧ o.1 = nI (ch - 1) ∧ o.2.1 = nI (if nx = 0 then 5 else nx - 1) ∧ o.2.2.1 = nI (ch - 1) ∧ BE (o.2.2.2.1, o.2.2.2.2.1, o.2.2.2.2.2.1, o.2.2.2.2.2.2.1, o.2.2.2.2.2.2.2.1, o.2.2.2.2.2.2.2.2.1, o.2.2.2.2.2.2.2.2.2.1, o.2.2.2.2.2.2.2.2.2.2.1, o.2.2.2.2.2.2.2.2.2.2.2.1, o.2.2.2.2.2.2.2.2.2.2.2.2.1, o.2.2.2.2.2.2.2.2.2.2.2.2.2.1, o.2.2.2.2.2.2.2.2.2.2.2.2.2.2) q)) := by
  unfold g_L_undo g_X11_undo
  by_cases h0 : ch = 0
  · subst h0
    exact bt rfl (bs (ok_f (show ¬ (3 : Int32) = 0 by decide) (ok_t rfl (ok_s (Or.inl ⟨rfl, rfl, rfl, rfl, rfl⟩)))))
  · have hz : ¬ nI ch = 0 := fun z => h0 (nI_inj (by omega) (by omega) (show nI ch = nI 0 from z))
    refine bf hz (ba (ok_b (k_X4_giveBack (LS := LS) (SE := SE) (htx (by omega)) (hbo (by omega)) B.1 hn (by omega) hq) (fun o ho => bs (ok_t rfl (ok_s (Or.inr ⟨by omega, ho.2.1, ho.1, ho.2.1, ho.2.2⟩))))))
theorem kp_L_append {LS : List Nat} {SE : Nat → SV} {B : BB} {nx ch : Nat} {bks : Nat → Option Nat} {q : BK} {a : Nat} {inputLength : Int32} {input : Nat → Int32} {p1 : Int32} {inp : List Nat} (hL : inp.length ≤ 60) (hlen : inputLength = nI inp.length) : Ok (g_L_append inputLength input p1) (fun o => (inp.length < 60 ∧ ¬ p1 < 32 ∧ p1 ≤ 126 ∧ o.1 = nI (inp.length + 1) ∧ o.2.1 = nI (inp.length + 1) ∧ o.2.2 = upd input inp.length (vp_nar .char p1)) ∨ (¬ (inp.length < 60 ∧ ¬ p1 < 32 ∧ p1 ≤ 126) ∧ o.1 < 0 ∧ o.2.1 = nI inp.length ∧ o.2.2 = input)) := by
  unfold g_L_append g_X11_append
  subst hlen
  by_cases g1 : p1 < 32
  · unfold g_X11_append_b12
    exact bt g1 (bs (ok_f (show ¬ (1 : Int32) = 0 by decide) (ok_t rfl (ok_s (Or.inr ⟨fun z => z.2.1 g1, show (-12 : Int32) < 0 by decide, rfl, rfl⟩)))))
  by_cases g2 : p1 ≤ 126
  · by_cases g3 : inp.length < 60
    · refine bf g1 (bt g2 (bt (nI_lt (b := 60) g3 (by omega)) (bc (x_inb g3 (by omega)) (bl (bs (ok_t rfl (ok_s (Or.inl ⟨g3, g1, g2, ?_, ?_, ?_⟩))))))))
      · dsimp only
        rw [nI_1]
      · dsimp only
        rw [nI_1]
      · dsimp only
        rw [x_cl (by omega)]
    · refine bf g1 (bt g2 (bf (nI_nlt (b := 60) (a := inp.length) (by omega) (by omega)) (bs (ok_f (show ¬ (5 : Int32) = 0 by decide) (ok_f (show ¬ (5 : Int32) = 1 by decide) (ok_t rfl (ok_s (Or.inr ⟨fun z => g3 z.1, show (-13 : Int32) < 0 by decide, rfl, rfl⟩))))))))
  · unfold g_X11_append_b12
    exact bf g1 (bf g2 (bs (ok_f (show ¬ (1 : Int32) = 0 by decide) (ok_t rfl (ok_s (Or.inr ⟨fun z => g2 z.2.2, show (-12 : Int32) < 0 by decide, rfl, rfl⟩))))))
