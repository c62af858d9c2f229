/-! COOKING a spell once: both sides alike, from contents that are told alike -/
section CSTEP
variable {LS : List Nat} {SE : Nat → SV} {kd lo hi : Nat → Int32} {CN : Nat → CV} {k w : Nat → Nat} {T nc i a q : Nat} {x : TX} {nm mn : Nat → Int32} {nu mu f : Nat → UInt32} {s : Nat → Int32}
theorem stC_b {w : Nat} {v v' : CV} (h : stC kd lo hi w v = some v') : v' = v ∧ v.1 = kd w ∧ (v.1 = 0 → HL lo hi w v.2.1.toInt64 = true) := by
  unfold stC at h
  by_cases h1 : v.1 = kd w
  · rw [if_pos h1] at h
    by_cases h2 : v.1 = 0
    · rw [if_pos h2] at h
      by_cases h3 : HL lo hi w v.2.1.toInt64 = true
      · rw [if_pos h3] at h
        cases h
        exact ⟨rfl, h1, fun _ => h3⟩
      · rw [if_neg h3] at h
        cases h
    · rw [if_neg h2] at h
      cases h
      exact ⟨rfl, h1, fun z => absurd z h2⟩
  · rw [if_neg h1] at h
    cases h
theorem v7_b (h7 : k q = 7) {v : CV} (h : vG (ckP kd lo hi CN k w) q = some v) : v.1 = 0 → (lo (w q)).toInt ≤ v.2.1.toInt ∧ v.2.1.toInt ≤ (hi (w q)).toInt := by
  intro h0
  rw [vC_at, h7] at h
  unfold ckOp at h
  rw [if_neg (by decide), if_neg (by decide), if_neg (by decide), if_neg (by decide), if_pos rfl] at h
  cases hx : VG (ckP kd lo hi CN k w) q (SS k q (DD k q - fnd (k q))) with
  | none =>
    rw [h7] at hx
    rw [hx] at h
    cases h
  | some u =>
    rw [h7] at hx
    rw [hx] at h
    obtain ⟨e, -, e3⟩ := stC_b h
    rw [e] at h0 ⊢
    have := HL_i.mp (e3 h0)
    rw [Int32.toInt_toInt64] at this
    exact this
/-- the contents that cooking leaves are such as may be -/
theorem NWR_CX (hw : ∀ p, p < T → (k p = 0 ∨ k p = 7) → w p < 6) (hC : CX kd lo hi mn mu) (hCN : CN = fun c => (kd c, mn c, mu c)) (h : NWR kd lo hi CN k w T nm nu) : CX kd lo hi nm nu := by
  intro c hc
  obtain ⟨v, v1, v2, v3, v4, v5⟩ := h c hc
  obtain ⟨-, b1, b2, b3, b4⟩ := hC c hc
  have hh : FH v.2.2 := hv_nwO hw (fun d hd => by rw [hCN]; exact (hC d hd).1.2.2.2) hc v1
  refine ⟨?_, b1, b2, b3, fun h0 => ?_⟩
  · rw [v4, v5, ← v3]; exact v2.held hh
  · rw [v4]
    unfold nwO NWv at v1
    cases hl : LA k w c T with
    | none =>
      rw [hl] at v1
      cases v1
      rw [hCN]
      exact b4 h0
    | some q =>
      rw [hl] at v1
      obtain ⟨l1, l2⟩ := LA_is T q hl
      have := v7_b l1 v1 (v3.trans h0)
      rw [l2] at this
      exact this
theorem NWR_one {nm' : Nat → Int32} {nu' : Nat → UInt32} (h : NWR kd lo hi CN k w T nm nu) (h' : NWR kd lo hi CN k w T nm' nu') : ∀ c, c < 6 → nm c = nm' c ∧ nu c = nu' c := by
  intro c hc
  obtain ⟨v, v1, v2, v3, v4, v5⟩ := h c hc
  obtain ⟨u, u1, u2, u3, u4, u5⟩ := h' c hc
  rw [v1] at u1
  cases u1
  exact ⟨v4.trans u4.symm, v5.trans u5.symm⟩
theorem LA_none {c : Nat} : ∀ T, (∀ p, p < T → k p = 7 → w p ≠ c) → LA k w c T = none
  | 0, _ => rfl
  | T + 1, h => by
    have e : LA k w c (T + 1) = LA k w c T := if_neg (fun z => h T (Nat.lt_succ_self T) z.1 z.2)
    rw [e]
    exact LA_none T (fun p hp => h p (by omega))
theorem NWR_far {c : Nat} (hCN : CN = fun c => (kd c, mn c, mu c)) (h : NWR kd lo hi CN k w T nm nu) (hc : c < 6) (hw : ∀ p, p < T → k p = 7 → w p ≠ c) : nm c = mn c ∧ nu c = mu c := by
  obtain ⟨v, v1, v2, v3, v4, v5⟩ := h c hc
  unfold nwO NWv at v1
  rw [LA_none T hw, hCN] at v1
  cases v1
  exact ⟨v4, v5⟩
/-- the reason why a spell boils over is told -/
theorem cz_0 (hsh : SH T k) (hf : FV (ckP kd lo hi CN k w) T (some q)) : (czP kd k w q (VG (ckP kd lo hi CN k w) q)).1 ≠ 0 := by
  obtain ⟨h1, h2, h3⟩ := hf
  obtain ⟨k7, kf, k5⟩ := hsh.2.2 q h1
  have val : ∀ j, j < DD k q → ∃ v, VG (ckP kd lo hi CN k w) q (SS k q j) = some v := by
    intro j hj
    have hl := SS_lt k q j hj
    rw [VG_old q hl]
    cases hv : vG (ckP kd lo hi CN k w) (SS k q j) with
    | none => exact absurd hv (h3 _ hl)
    | some v => exact ⟨v, rfl⟩
  rw [vC_at] at h2
  unfold czP czOp
  unfold ckOp at h2
  by_cases e7 : k q = 7
  · obtain ⟨v, hv⟩ := val (DD k q - fnd (k q)) (by rw [e7] at kf ⊢; have : fnd 7 = 1 := rfl; omega)
    rw [if_pos e7, hv]
    show (if v.1 = kd (w q) then (nI 3, v.2.1) else (nI 7, nI (w q))).1 ≠ 0
    split
    · exact show nI 3 ≠ 0 by decide
    · exact show nI 7 ≠ 0 by decide
  rw [if_neg e7]
  by_cases e56 : k q = 5 ∨ k q = 6
  · rw [if_pos e56]
    exact show nI 7 ≠ 0 by decide
  rw [if_neg e56]
  by_cases e0 : k q = 0
  · rw [if_pos e0] at h2
    exfalso
    unfold nwO NWv at h2
    cases hl : LA k w (w q) q with
    | none => rw [hl] at h2; cases h2
    | some r => rw [hl] at h2; exact h3 r (LA_lt q r hl) h2
  by_cases e1 : k q = 1
  · rw [if_neg e0, if_pos e1] at h2
    cases h2
  have hf2 : fnd (k q) = 2 := by
    unfold fnd
    rw [if_neg (by omega), if_pos (by omega)]
  obtain ⟨v, hv⟩ := val (DD k q - fnd (k q)) (by omega)
  obtain ⟨u, hu⟩ := val (DD k q - 1) (by omega)
  rw [hv, hu]
  show (if v.1 = u.1 then (nI 8, exc3 (lrk (nI (k q)) v.2.1.toInt64 u.2.1.toInt64)) else (nI 7, -1)).1 ≠ 0
  split
  · exact show nI 8 ≠ 0 by decide
  · exact show nI 7 ≠ 0 by decide
/-! the kinds and bounds stay, also where a spell boils over -/
section KEEPSB
variable {f : Nat → Nat} {s0 s sg nb iB : Nat → Int32} {ff br : Nat → UInt32} {dr : Nat → Int64} {ca cd : Int32} {p : Nat}
theorem ok_and {α : Type} {m : Option α} {P Q : α → Prop} (h1 : Ok m P) (h2 : Ok m Q) : Ok m (fun x => P x ∧ Q x) := by
  obtain ⟨x, a1, a2⟩ := h1
  obtain ⟨y, b1, b2⟩ := h2
  rw [a1] at b1
  cases b1
  exact ⟨x, a1, a2, b2⟩
theorem sSt_SB {w : Nat} {v : Int32} (h : SBk s kd lo hi) : SBk (sSt s w v) kd lo hi := fun c hc => by
  unfold sSt
  rw [x_un (by omega), x_un (by omega), x_un (by omega), x_un (by omega), x_un (by omega), x_un (by omega), x_un (by omega), x_un (by omega), x_un (by omega)]
  exact h c hc
theorem tC_S (hsh : SH T k) (hp : p < T) (hb : ∀ c, c < 6 → bo (kd c) = true) (hT : TK T k w f sg nb) (hR : RD iB dr br (DD k p) (fun i => VG (ckP kd lo hi CN k w) p (SS k p i))) (hS : SBk s kd lo hi) :
    Ok (g_X12_does ca cd sg nb iB s dr ff br (nI p) (nI (DD k p))) (fun o => SBk o.2.2.2.2.1 kd lo hi) := by
  obtain ⟨h7, hf, h5⟩ := hsh.2.2 p hp
  have hTT := hsh.1
  obtain ⟨hsg, hnu, hF⟩ := hT p hp
  have hd5 := DD_le hsh p (by omega)
  have hFx := hF
  unfold FSk at hFx
  have rk : (k p = 2 ∨ k p = 3 ∨ k p = 4) → Ok (g_X12_does ca cd sg nb iB s dr ff br (nI p) (nI (DD k p))) (fun o => SBk o.2.2.2.2.1 kd lo hi) := by
    intro hk
    have hf2 : fnd (k p) = 2 := by rcases hk with e | e | e <;> rw [e] <;> rfl
    obtain ⟨n, hn⟩ : ∃ n, DD k p = n + 2 := ⟨DD k p - 2, by rw [hf2] at hf; omega⟩
    obtain ⟨x, q1, q2, q3, q4, q5, q6⟩ := hR n (by omega)
    obtain ⟨y, r1, r2, r3, r4, r5, r6⟩ := hR (n + 1) (by omega)
    rw [hn]
    refine ok_e (mD_rk hk (by omega) (by omega) hsg hF q6 r6) ?_
    split
    · split <;> exact hS
    · exact hS
  rcases k8 h7 with e | e | e | e | e | e | e | e
  · rw [e] at hF hnu
    exact ok_e (mD_0 (by omega) (by omega) hS (by omega) (hb _ (by omega)) hsg hF (hnu (Or.inl rfl))) hS
  · rw [e] at hF hnu
    exact ok_e (mD_1 (by omega) (by omega) hsg hF (hnu (Or.inr (Or.inl rfl)))) hS
  · exact rk (Or.inl e)
  · exact rk (Or.inr (Or.inl e))
  · exact rk (Or.inr (Or.inr e))
  · rw [e] at hf hF
    obtain ⟨n, hn⟩ : ∃ n, DD k p = n + 1 := ⟨DD k p - 1, by rw [fnd_5] at hf; omega⟩
    rw [hn]
    refine ok_e (mD_5 (by omega) (by omega) hsg hF) ?_
    split <;> exact hS
  · rw [e] at hf hF
    obtain ⟨n, hn⟩ : ∃ n, DD k p = n + 1 := ⟨DD k p - 1, by rw [fnd_6] at hf; omega⟩
    rw [hn]
    refine ok_e (mD_6 (by omega) (by omega) hsg hF) ?_
    split <;> exact hS
  · rw [e] at hf hF hnu
    obtain ⟨n, hn⟩ : ∃ n, DD k p = n + 1 := ⟨DD k p - 1, by rw [fnd_7] at hf; omega⟩
    rw [hn]
    refine ok_e (mD_7 (by omega) (by omega) hS (by omega) (hb _ (by omega)) hsg hF (hnu (Or.inr (Or.inr rfl)))) ?_
    split
    · split
      · split
        · exact sSt_SB hS
        · exact hS
      · exact sSt_SB hS
    · exact hS
theorem lC_S {i : Nat} (hi4 : i < 4) (hsh : SH T k) (hb : ∀ c, c < 6 → bo (kd c) = true) (hT : TK T k w f sg nb) (sp ms : Int32) :
    ∀ (n p : Nat) (iB s : Nat → Int32) (dr : Nat → Int64) (br ff : Nat → UInt32) (ca cd : Int32), p ≤ T → T - p < n → RD iB dr br (DD k p) (fun i => VG (ckP kd lo hi CN k w) p (SS k p i)) → SMR kd lo hi CN k w p s0 s ff →
      Ok (g_X12_cooks_b9 (nI i) n br dr ff iB nb s sg (nI T) sp ms ca cd (nI (DD k p)) (nI p)) (fun o => SBk o.2.2.2.2.2.2.1 kd lo hi)
  | 0, p, _, _, _, _, _, _, _, _, h, _, _ => absurd h (Nat.not_lt_zero _)
  | n + 1, p, iB, s, dr, br, ff, ca, cd, hp, hn, hR, hS => by
    unfold g_X12_cooks_b9
    have hTT := hsh.1
    by_cases c : p = T
    · subst c
      have e : (34 + (62 * nI i) : Int32) = nI (34 + 62 * i) := by rw [c_34, c_62, pk_mul, nI_add]
      rw [e]
      refine ok_t (nI_le (Nat.le_refl _) (by omega)) (ok_c (x_inb (by omega) (by omega)) (ok_c (x_inb (by omega) (by omega)) (ok_c rfl (ok_c rfl (ok_s (fun c hc => ?_))))))
      rw [x_cl (by omega)]
      show upd _ 2 _ (4 + 5 * c) = _ ∧ upd _ 2 _ (4 + 5 * c + 1) = _ ∧ upd _ 2 _ (4 + 5 * c + 2) = _
      rw [x_un (by omega), x_un (by omega), x_un (by omega), x_un (by omega), x_un (by omega), x_un (by omega)]
      exact hS.1 c hc
    · have hp' : p < T := by omega
      obtain ⟨h7, hf, h5⟩ := hsh.2.2 p hp'
      obtain ⟨hsg, hnu, hF⟩ := hT p hp'
      have hd5 := DD_le hsh p hp
      refine ok_f (nI_ge hp' (by omega)) ?_
      refine ok_b (ok_and (tC hsh hp' hb hT hR hS) (tC_S hsh hp' hb hT hR hS.1)) (fun o ho => ?_)
      obtain ⟨⟨h0, h1⟩, hSB⟩ := ho
      cases hv : vG (ckP kd lo hi CN k w) p with
      | none =>
        obtain ⟨h2, h3⟩ := h0 hv
        exact ok_f (by rw [h2]; decide) (ok_s hSB)
      | some a =>
        obtain ⟨e1, e4, e5⟩ := h1 a hv
        refine ok_t e1 ?_
        refine ok_be (kM_more (by omega) hsg hF) (ok_l (ok_l ?_))
        rw [mr_next h7 hf hd5, nI_1]
        exact lC_S hi4 hsh hb hT sp ms n (p + 1) o.2.2.2.1 o.2.2.2.2.1 o.2.2.2.2.2.1 o.2.2.2.2.2.2.2 o.2.2.2.2.2.2.1 o.2.1 o.2.2.1 (by omega) (by omega) e5 e4
theorem k_X12_cooksS {s : Nat → Int32} {i nc : Nat} {x : TX} {ff : Nat → UInt32} (hi4 : i < 4) (hx : OKT nc x) (hs : SPM s i x) (hb : ∀ c, c < 6 → bo (kd c) = true) (hS : SBk s kd lo hi) (hC : CNR kd CN (fun c => s (4 + 5 * c + 3)) ff) (tk sp ms ca cd : Int32) (nb sg iB : Nat → Int32) (dr : Nat → Int64) (br : Nat → UInt32) :
    Ok (g_X12_cooks tk sp ms ca cd s nb sg iB dr ff br (nI i)) (fun o => SBk o.2.2.2.2.2.2.1 kd lo hi) := by
  unfold g_X12_cooks
  have hsh := OKT_SH hx
  have hT := hsh.1
  refine ok_b (k_X12_tells hi4 hx hs tk sp ms nb sg) (fun o ho => ?_)
  rw [ho.1]
  exact lC_S hi4 hsh hb ho.2.2 o.2.1 o.2.2.1 100 0 iB s dr br ff ca cd (Nat.zero_le _) (by omega) (fun i z => absurd z (Nat.not_lt_zero i)) (SMR_0 hS hC)
end KEEPSB
/-- contents and a spell, as both tell them -/
def CKI (nc i : Nat) (x : TX) (kd lo hi nm : Nat → Int32) (nu : Nat → UInt32) (s : Nat → Int32) (f : Nat → UInt32) : Prop := CX kd lo hi nm nu ∧ (∀ c, c < 6 → s (4 + 5 * c) = kd c ∧ s (4 + 5 * c + 1) = lo c ∧ s (4 + 5 * c + 2) = hi c ∧ s (4 + 5 * c + 3) = nm c ∧ f c = nu c) ∧ s 0 = nI nc ∧ SPM s i x
/-- what else cooking changes -/
def CKD (i T : Nat) (k w : Nat → Nat) (st s s' : Nat → Int32) : Prop := (∀ c, c < 6 → st c = nI (NC k w c T) ∧ s' (4 + 5 * c + 4) = s (4 + 5 * c + 4) + nI (NC k w c T)) ∧ s' 3 = s 3 + nI (NS k T) ∧ s' 2 = s 2 + 1 ∧ s' (34 + 62 * i) = s (34 + 62 * i) + 1 ∧ (∀ j, j < 2 ∨ (34 ≤ j ∧ j ≠ 34 + 62 * i) → s' j = s j)
/-- both cook: both boil over, for the same reason; or both leave the same -/
def CKQ (nc i : Nat) (x : TX) (kd lo hi nm : Nat → Int32) (nu : Nat → UInt32) (s : Nat → Int32) (r : G2O) (u : COM) : Prop :=
  (r.1 = 0 ∧ ¬ FV (ckP kd lo hi (fun c => (kd c, nm c, nu c)) (rT x).2.1 (rT x).2.2.1) (rT x).1 none ∧ ∃ q, q < 24 ∧ r.2.1 = nI q ∧ u.1 = nI q ∧ r.2.2.1 = u.2.2.2.2.1 ∧ r.2.2.2.1 = u.2.2.2.2.2.1 ∧ r.2.2.1 ≠ 0 ∧ SBk u.2.2.2.2.2.2.1 kd lo hi) ∨
  (r.1 = 1 ∧ u.1 = -1 ∧ FV (ckP kd lo hi (fun c => (kd c, nm c, nu c)) (rT x).2.1 (rT x).2.2.1) (rT x).1 none ∧ CKI nc i x kd lo hi r.2.2.2.2.2.2.1 r.2.2.2.2.2.2.2.2.1 u.2.2.2.2.2.2.1 u.2.2.2.2.2.2.2.2.2.2.2.1 ∧ CKD i (rT x).1 (rT x).2.1 (rT x).2.2.1 r.2.2.2.2.2.2.2.2.2.1 s u.2.2.2.2.2.2.1 ∧ AG 6 r.2.2.2.2.2.1 nm ∧ AG 6 r.2.2.2.2.2.2.2.1 nu ∧ (∀ c, nc ≤ c → c < 6 → r.2.2.2.2.2.2.1 c = nm c ∧ r.2.2.2.2.2.2.2.2.1 c = nu c))
theorem cook_step (hi4 : i < 4) (hx : SPC LS SE a x) (ho : OKT nc x) (hn : nc ≤ 6) (h : CKI nc i x kd lo hi nm nu s f) (ba ca cd sp : Int32) (xm iB mn9 st : Nat → Int32) (xu mu9 : Nat → UInt32) (tk sp' ms ca' cd' : Int32) (nb sg iB' : Nat → Int32) (dr : Nat → Int64) (br : Nat → UInt32) :
    Ok (g_X2_goesOn ba ca cd sp (SE a).2.2.1 xm nm xu nu st (SE a).2.2.2.2.2.2.1 (SE a).2.2.2.2.2.2.2.1 kd iB mn9 mu9 lo hi) (fun r => Ok (g_X12_cooks tk sp' ms ca' cd' s nb sg iB' dr f br (nI i)) (fun u => CKQ nc i x kd lo hi nm nu s r u)) := by
  obtain ⟨hC, hS, h0, hP⟩ := h
  obtain ⟨_, _, _, b4, _, _, _, b8⟩ := id hx
  have hsh := OKT_SH ho
  have hbo := CX_bo hC
  have hSB : SBk s kd lo hi := fun c hc => ⟨(hS c hc).1, (hS c hc).2.1, (hS c hc).2.2.1⟩
  have hCR : CNR kd (fun c => (kd c, nm c, nu c)) (fun c => s (4 + 5 * c + 3)) f := fun c hc => ⟨(hC c hc).1.can, rfl, (hS c hc).2.2.2.1, (hS c hc).2.2.2.2⟩
  rw [b4]
  refine ok_m (k2 hsh (OKT_w ho hn) hbo (fun p hp => ⟨(b8 p hp).1, (b8 p hp).2.1⟩) (CX_CNR hC) ba ca cd sp xm iB mn9 st xu mu9) (fun r hr => ok_m (ok_and (k_X12_cooks hi4 ho hP hbo hSB hCR tk sp' ms ca' cd' nb sg iB' dr br) (k_X12_cooksS hi4 ho hP hbo hSB hCR tk sp' ms ca' cd' nb sg iB' dr br)) (fun u hu => ?_))
  obtain ⟨z, z1, z2, z3, z4, z5, z6, z7⟩ := hr
  obtain ⟨⟨y, y1, y2, y3, y4⟩, ySB⟩ := hu
  have e := FV_one y1 z1
  subst e
  have hT24 := hsh.1
  cases y with
  | some q =>
    refine Or.inl ⟨z2, ?_, q, ?_, z3, y2, ?_, ?_, ?_, ySB⟩
    · exact fun z => absurd z1.2.1 (z q z1.1)
    · have := z1.1; omega
    · have := congrArg Prod.fst ((z4 q rfl).trans (y3 q rfl).symm)
      exact this
    · have := congrArg Prod.snd ((z4 q rfl).trans (y3 q rfl).symm)
      exact this
    · have := congrArg Prod.fst (z4 q rfl)
      rw [show r.2.2.1 = _ from this]
      exact cz_0 hsh z1
  | none =>
    obtain ⟨w1, w2⟩ := z7 rfl
    obtain ⟨s1, f1, m1, m2, m3⟩ := y4 rfl
    obtain ⟨n1, n2, n3, n4, n5⟩ := m1
    have hone := NWR_one w1 n2
    rw [if_pos rfl] at z2
    refine Or.inr ⟨z2, y2, y1, ⟨NWR_CX (OKT_w ho hn) hC rfl w1, fun c hc => ?_, ?_, ?_⟩, ⟨fun c hc => ⟨w2 c hc, ?_⟩, ?_, ?_, ?_, fun j hj => ?_⟩, z5, z6, fun c hc1 hc2 => NWR_far rfl w1 hc2 (fun p hp h7 => ?_)⟩
    · rw [m2, m3, x_un (by omega), x_un (by omega), x_un (by omega), x_un (by omega), x_un (by omega), x_un (by omega), x_un (by omega), x_un (by omega)]
      exact ⟨(n1 c hc).1, (n1 c hc).2.1, (n1 c hc).2.2, (hone c hc).1.symm, (hone c hc).2.symm⟩
    · rw [m2, x_un (by omega), x_un (by omega), n5 0 (by omega)]
      exact h0
    · rw [m2]
      exact SPM_rows hP ho.1 (fun j h1 h2 => by rw [x_un (by omega), x_un (by omega), n5 _ (by omega)])
    · rw [m2, x_un (by omega), x_un (by omega)]
      exact n3 c hc
    · rw [m2, x_un (by omega), x_un (by omega)]
      exact n4
    · rw [m2, x_us, n5 2 (by omega)]
    · rw [m2, x_un (by omega), x_us, n5 _ (by omega)]
    · rw [m2, x_un (by omega), x_un (by omega), n5 j (by omega)]
    · have := ho.2.2.2.2 p hp (Or.inr h7)
      omega
/-- how many are unlike -/
def DFc (nm mn : Nat → Int32) (nu mu : Nat → UInt32) : Nat → Nat
  | 0 => 0
  | c + 1 => DFc nm mn nu mu c + if nm c = mn c ∧ nu c = mu c then 0 else 1
theorem DF_le (nm mn : Nat → Int32) (nu mu : Nat → UInt32) : ∀ c, DFc nm mn nu mu c ≤ c
  | 0 => Nat.le_refl 0
  | c + 1 => by
    have := DF_le nm mn nu mu c
    show DFc nm mn nu mu c + (if nm c = mn c ∧ nu c = mu c then 0 else 1) ≤ c + 1
    split <;> omega
theorem DF_far {nm mn : Nat → Int32} {nu mu : Nat → UInt32} : ∀ d, (∀ c, nc ≤ c → c < nc + d → nm c = mn c ∧ nu c = mu c) → DFc nm mn nu mu (nc + d) = DFc nm mn nu mu nc
  | 0, _ => rfl
  | d + 1, h => by
    have e : DFc nm mn nu mu (nc + (d + 1)) = DFc nm mn nu mu (nc + d) + (if nm (nc + d) = mn (nc + d) ∧ nu (nc + d) = mu (nc + d) then 0 else 1) := rfl
    rw [e, if_pos (h _ (by omega) (by omega)), DF_far d (fun c h1 h2 => h c h1 (by omega))]
    rfl
theorem l_diff {nm mn nm0 mn0 : Nat → Int32} {nu mu nu0 mu0 : Nat → UInt32} (h1 : ∀ c, c < 6 → nm0 c = nm c ∧ mn0 c = mn c ∧ nu0 c = nu c ∧ mu0 c = mu c ∧ FF (nu c) ∧ FF (mu c)) : ∀ (n c : Nat), c ≤ 6 → 6 - c < n → g_X1_differences_b4 nm0 mn0 nu0 mu0 n (nI (DFc nm mn nu mu c)) (nI c) = some (nI (DFc nm mn nu mu 6))
  | 0, c, _, h => absurd h (Nat.not_lt_zero _)
  | n + 1, c, hc, hm => by
    unfold g_X1_differences_b4 g_X1_differences_b43 g_X1_differences_b46
    by_cases e : c = 6
    · subst e
      exact if_pos (nI_le (a := 6) (b := 6) (Nat.le_refl _) (by omega))
    · have hc6 : c < 6 := by omega
      obtain ⟨q1, q2, q3, q4, q5, q6⟩ := h1 c hc6
      have hin : inb (nI c) 6 = true := x_inb hc6 (by omega)
      have ih := l_diff h1 n (c + 1) (by omega) (by omega)
      have es : DFc nm mn nu mu (c + 1) = DFc nm mn nu mu c + if nm c = mn c ∧ nu c = mu c then 0 else 1 := rfl
      rw [if_neg (show ¬ (6 : Int32) ≤ nI c from nI_ge (show c < 6 by omega) (show (6 : Nat) < 2147483648 by omega)), e_gc hin, e_gc hin, x_cl (by omega), q1, q2]
      by_cases g1 : nm c = mn c
      · rw [if_pos g1, e_gc hin, e_gc hin, q3, q4, k_differ q5 q6, e_gbS, e_gl, e_gl, e_gl, nI_1, nI_1]
        by_cases g2 : nu c = mu c
        · rw [if_pos ⟨g1, g2⟩] at es
          rw [if_pos g2, if_pos (show nI 0 = 0 from rfl)]
          have es' : DFc nm mn nu mu (c + 1) = DFc nm mn nu mu c := es
          rw [← es']
          exact ih
        · rw [if_neg (fun z => g2 z.2)] at es
          rw [if_neg g2, if_neg (show ¬ nI 1 = 0 by decide), ← es]
          exact ih
      · rw [if_neg (fun z => g1 z.1)] at es
        rw [if_neg g1, e_gl, e_gl, nI_1, nI_1, ← es]
        exact ih
theorem k_changes {nm mn nm0 mn0 : Nat → Int32} {nu mu nu0 mu0 : Nat → UInt32} (h1 : ∀ c, c < 6 → nm0 c = nm c ∧ mn0 c = mn c ∧ nu0 c = nu c ∧ mu0 c = mu c ∧ FF (nu c) ∧ FF (mu c)) : g_X2_changes nm0 mn0 nu0 mu0 = some (nI (DFc nm mn nu mu 6)) := by
  have := l_diff h1 100 0 (Nat.zero_le _) (by omega)
  unfold g_X2_changes g_X1_differences
  show gb (g_X1_differences_b4 nm0 mn0 nu0 mu0 100 (nI (DFc nm mn nu mu 0)) (nI 0)) _ = _
  rw [this]
  rfl
theorem l_unlike {nm mn : Nat → Int32} {nu mu : Nat → UInt32} {s s0 : Nat → Int32} {f f0 : Nat → UInt32} (hn : nc ≤ 6) (h0 : s 0 = nI nc) (h1 : ∀ c, c < 6 → s (4 + 5 * c + 3) = nm c ∧ s0 (4 + 5 * c + 3) = mn c ∧ f c = nu c ∧ f0 c = mu c ∧ FF (nu c) ∧ FF (mu c)) : ∀ (n c : Nat), c ≤ nc → nc - c < n → g_X12_unlike_b5 282 6 s0 f0 s f n (nI (DFc nm mn nu mu c)) (nI c) = some (nI (DFc nm mn nu mu nc))
  | 0, c, _, h => absurd h (Nat.not_lt_zero _)
  | n + 1, c, hc, hm => by
    unfold g_X12_unlike_b5 g_X12_unlike_b41 g_X12_unlike_b69 g_X12_unlike_b74
    rw [e_gc (show inb 0 282 = true from rfl), show s (0 : Int32).toNatClampNeg = nI nc from h0]
    by_cases e : c = nc
    · subst e
      exact if_pos (nI_le (Nat.le_refl _) (by omega))
    · have hc6 : c < 6 := by omega
      obtain ⟨q1, q2, q3, q4, q5, q6⟩ := h1 c hc6
      have hin : inb (nI c) 6 = true := x_inb hc6 (by omega)
      have ih := l_unlike hn h0 h1 n (c + 1) (by omega) (by omega)
      have es : DFc nm mn nu mu (c + 1) = DFc nm mn nu mu c + if nm c = mn c ∧ nu c = mu c then 0 else 1 := rfl
      have e1 : ((4 + (5 * nI c)) + 3 : Int32) = nI (4 + 5 * c + 3) := by rw [c_4, c_5, c_3, pk_mul, nI_add, nI_add]
      rw [if_neg (nI_ge (by omega) (by omega)), show (3 : Int32) = nI 3 from rfl, k_X12_of (j := 3) hc6 (by omega), e_gbS]
      rw [show ((4 + (5 * nI c)) + nI 3 : Int32) = nI (4 + 5 * c + 3) from e1, e_gc (x_inb (by omega) (by omega)), x_cl (by omega), q1, q2]
      by_cases g1 : nm c = mn c
      · rw [if_pos g1, if_pos rfl, e_gc hin, x_cl (by omega), q3, k_Jbits q5, e_gbS, e_gc hin, q4, k_Jbits q6, e_gbS]
        by_cases g2 : nu c = mu c
        · rw [if_pos ⟨g1, g2⟩] at es
          rw [if_pos (by rw [g2]), e_gl, e_gl, nI_1, show nI (DFc nm mn nu mu c) + 0 = nI (DFc nm mn nu mu c) from nI_add _ 0]
          have es' : DFc nm mn nu mu (c + 1) = DFc nm mn nu mu c := es
          rw [← es']
          exact ih
        · rw [if_neg (fun z => g2 z.2)] at es
          rw [if_neg (fun z => g2 (by
            have y := congrArg Int32.toUInt32 z
            exact y)), e_gl, e_gl, nI_1, nI_1, ← es]
          exact ih
      · rw [if_neg (fun z => g1 z.1)] at es
        rw [if_neg g1, if_neg (by decide), e_gl, e_gl, nI_1, nI_1, ← es]
        exact ih
theorem k_unlike {nm mn : Nat → Int32} {nu mu : Nat → UInt32} {s s0 : Nat → Int32} {f f0 : Nat → UInt32} (hn : nc ≤ 6) (h0 : s 0 = nI nc) (h1 : ∀ c, c < 6 → s (4 + 5 * c + 3) = nm c ∧ s0 (4 + 5 * c + 3) = mn c ∧ f c = nu c ∧ f0 c = mu c ∧ FF (nu c) ∧ FF (mu c)) : g_X12_unlike 282 6 s0 f0 s f = some (nI (DFc nm mn nu mu nc)) := by
  unfold g_X12_unlike
  exact l_unlike hn h0 h1 100 0 (Nat.zero_le _) (by omega)
end CSTEP
