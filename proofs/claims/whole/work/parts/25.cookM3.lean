/-! the reference's cooking of a whole text; a spell in its book -/
section CM3
variable {T : Nat} {k w f : Nat → Nat} {kd lo hi : Nat → Int32} {CN : Nat → CV} {s0 sg nu : Nat → Int32}
abbrev COM : Type := Int32 × Int32 × Int32 × Int32 × Int32 × Int32 × (Nat → Int32) × (Nat → Int32) × (Nat → Int32) × (Nat → Int32) × (Nat → Int64) × (Nat → UInt32) × (Nat → UInt32)
/-- what the reference's cooking gives -/
abbrev RMk (kd lo hi : Nat → Int32) (CN : Nat → CV) (T : Nat) (k w : Nat → Nat) (s0 : Nat → Int32) (i : Nat) (o : COM) : Prop :=
  ∃ f, FV (ckP kd lo hi CN k w) T f ∧ o.1 = fcode f ∧ (∀ p, f = some p → (o.2.2.2.2.1, o.2.2.2.2.2.1) = czP kd k w p (VG (ckP kd lo hi CN k w) p)) ∧ (f = none → ∃ s ff, SMR kd lo hi CN k w T s0 s ff ∧ o.2.2.2.2.2.2.1 = upd (upd s (34 + 62 * i) (s (34 + 62 * i) + 1)) 2 (s 2 + 1) ∧ o.2.2.2.2.2.2.2.2.2.2.2.1 = ff)
theorem lC {i : Nat} (hi4 : i < 4) (hsh : SH T k) (hb : ∀ c, c < 6 → bo (kd c) = true) (hT : TK T k w f sg nu) (sp ms : Int32) :
    ∀ (n p : Nat) (iB s : Nat → Int32) (dr : Nat → Int64) (br ff : Nat → UInt32) (ca cd : Int32), p ≤ T → T - p < n → (∀ q, q < p → vG (ckP kd lo hi CN k w) q ≠ none) → RD iB dr br (DD k p) (fun i => VG (ckP kd lo hi CN k w) p (SS k p i)) → SMR kd lo hi CN k w p s0 s ff →
      Ok (g_X12_cooks_b9 (nI i) n br dr ff iB nu s sg (nI T) sp ms ca cd (nI (DD k p)) (nI p)) (RMk kd lo hi CN T k w s0 i)
  | 0, p, _, _, _, _, _, _, _, _, h, _, _, _ => absurd h (Nat.not_lt_zero _)
  | n + 1, p, iB, s, dr, br, ff, ca, cd, hp, hn, hq, hR, hS => by
    unfold g_X12_cooks_b9
    have hTT := hsh.1
    by_cases c : p = T
    · subst c
      have e : (34 + (62 * nI i) : Int32) = nI (34 + 62 * i) := by rw [c_34, c_62, pk_mul, nI_add]
      rw [e]
      refine ok_t (nI_le (Nat.le_refl _) (by omega)) (ok_c (x_inb (by omega) (by omega)) (ok_c (x_inb (by omega) (by omega)) (ok_c rfl (ok_c rfl (ok_s ⟨none, hq, rfl, fun p z => (by cases z), fun _ => ⟨s, ff, hS, ?_, rfl⟩⟩)))))
      rw [x_cl (by omega)]
      show upd (upd s (34 + 62 * i) (s (34 + 62 * i) + 1)) 2 (upd s (34 + 62 * i) (s (34 + 62 * i) + 1) 2 + 1) = _
      rw [x_un (show (2 : Nat) ≠ 34 + 62 * i by omega)]
    · have hp' : p < T := by omega
      obtain ⟨h7, hf, h5⟩ := hsh.2.2 p hp'
      obtain ⟨hsg, hnu, hF⟩ := hT p hp'
      have hd5 := DD_le hsh p hp
      refine ok_f (nI_ge hp' (by omega)) ?_
      refine ok_b (tC hsh hp' hb hT hR hS) (fun o ho => ?_)
      obtain ⟨h0, h1⟩ := ho
      cases hv : vG (ckP kd lo hi CN k w) p with
      | none =>
        obtain ⟨h2, h3⟩ := h0 hv
        exact ok_f (by rw [h2]; decide) (ok_s ⟨some p, ⟨hp', hv, hq⟩, rfl, fun p' z => (by cases z; exact h3), fun z => (by cases z)⟩)
      | some a =>
        obtain ⟨e1, e4, e5⟩ := h1 a hv
        refine ok_t e1 ?_
        refine ok_be (kM_more (by omega) hsg hF) (ok_l (ok_l ?_))
        rw [mr_next h7 hf hd5, nI_1]
        exact lC hi4 hsh hb hT sp ms n (p + 1) o.2.2.2.1 o.2.2.2.2.1 o.2.2.2.2.2.1 o.2.2.2.2.2.2.2 o.2.2.2.2.2.2.1 o.2.1 o.2.2.1 (by omega) (by omega) (fun q hq' => by
          by_cases c : q = p
          · rw [c, hv]; exact fun z => by cases z
          · exact hq q (by omega)) e5 e4
/-- the reference's contents -/
theorem SMR_0 {s : Nat → Int32} {ff : Nat → UInt32} (hS : SBk s kd lo hi) (hC : CNR kd CN (fun c => s (4 + 5 * c + 3)) ff) : SMR kd lo hi CN k w 0 s s ff :=
  ⟨hS, NWR_0 hC, fun c hc => (Int32.add_zero _).symm, (Int32.add_zero _).symm, fun j hj => rfl⟩
end CM3
/-- a text: how long it is, and its characters; what is read of it -/
abbrev TX : Type := Nat × (Nat → Nat)
def rT (x : TX) : RS := ((rd x.2 x.1 0 rs0).2).getD rs0
/-- a text that is a spell, of cauldrons that there are -/
def OKT (nc : Nat) (x : TX) : Prop := x.1 ≤ 60 ∧ (∀ j, x.2 j < 65536) ∧ (rd x.2 x.1 0 rs0).2 = some (rT x) ∧ fin (rT x) = true ∧ (∀ p, p < (rT x).1 → ((rT x).2.1 p = 0 ∨ (rT x).2.1 p = 7) → (rT x).2.2.1 p < nc)
theorem GS_SH {S : RS} (h : GS S) (hf : fin S = true) : SH S.1 S.2.1 := by
  obtain ⟨h1, h2, h3⟩ := h
  have hf' : S.2.2.2.2.1 = false ∧ dd S = 0 ∧ 0 < NS S.2.1 S.1 := by
    unfold fin at hf
    exact of_decide_eq_true hf
  refine ⟨by omega, hf'.2.1, fun p hp => ?_⟩
  obtain ⟨a1, a2, a3⟩ := h1 p hp
  exact ⟨by unfold FSk at a1; omega, a2, a3⟩
theorem OKT_GS {nc : Nat} {x : TX} (h : OKT nc x) : GS (rT x) := rd_GS x.1 0 rs0 GS_0 _ h.2.2.1
theorem OKT_SH {nc : Nat} {x : TX} (h : OKT nc x) : SH (rT x).1 (rT x).2.1 := GS_SH (OKT_GS h) h.2.2.2.1
theorem OKT_w {nc : Nat} {x : TX} (h : OKT nc x) (hn : nc ≤ 6) : ∀ p, p < (rT x).1 → ((rT x).2.1 p = 0 ∨ (rT x).2.1 p = 7) → (rT x).2.2.1 p < 6 := fun p hp e => by
  have := h.2.2.2.2 p hp e
  omega
theorem OKT_aL {nc : Nat} {x : TX} (h : OKT nc x) : (rT x).2.2.2.2.1 = false ∧ dd (rT x) = 0 ∧ 0 < NS (rT x).2.1 (rT x).1 := by
  have hf := h.2.2.2.1
  unfold fin at hf
  exact of_decide_eq_true hf
/-- a spell in the reference's numbers -/
def SPM (s : Nat → Int32) (i : Nat) (x : TX) : Prop := s (34 + 62 * i + 1) = nI x.1 ∧ ∀ j, j < x.1 → s (34 + 62 * i + 2 + j) = nI (x.2 j)
theorem k_X12_tells {s : Nat → Int32} {i nc : Nat} {x : TX} (hi : i < 4) (hx : OKT nc x) (hs : SPM s i x) (tk sp ms : Int32) (nu sg : Nat → Int32) :
    Ok (g_X12_tells tk sp ms s nu sg (nI i)) (fun o => o.1 = nI (rT x).1 ∧ o.2.2.1 = nI (MS (rT x).2.1 (rT x).1) ∧ TK (rT x).1 (rT x).2.1 (rT x).2.2.1 (rT x).2.2.2.1 o.2.2.2.2 o.2.2.2.1) := by
  unfold g_X12_tells
  have hx1 := hx.1
  have e : (34 + (62 * nI i) : Int32) = nI (34 + 62 * i) := by rw [c_34, c_62, pk_mul, nI_add]
  rw [e, e_gl, show nI (34 + 62 * i) + 1 = nI (34 + 62 * i + 1) from nI_1 _, show nI (34 + 62 * i) + 2 = nI (34 + 62 * i + 2) from nI_add _ 2]
  refine ok_c (x_inb (by omega) (by omega)) ?_
  rw [x_cl (by omega), hs.1]
  refine ok_b (k_X12_reads (np := 282) (off := 34 + 62 * i + 2) (L := x.1) (p1 := s) (c := x.2) hx.2.1 (by omega) (by omega) (by omega) hs.2 tk sp ms nu sg) (fun o ho => ok_s ?_)
  obtain ⟨h1, h2, h3, h4⟩ := ho.2 (rT x) hx.2.2.1
  have hL := OKT_aL hx
  rw [hL.1] at h1
  refine ⟨h1, h3, fun p hp => ?_⟩
  obtain ⟨a1, a2⟩ := h4 p hp
  exact ⟨a1, fun _ => a2, ((OKT_GS hx).1 p hp).1⟩
theorem k_X12_cooks {s : Nat → Int32} {i nc : Nat} {x : TX} {kd lo hi : Nat → Int32} {CN : Nat → CV} (hi4 : i < 4) (hx : OKT nc x) (hs : SPM s i x) (hb : ∀ c, c < 6 → bo (kd c) = true) (hS : SBk s kd lo hi) {ff : Nat → UInt32} (hC : CNR kd CN (fun c => s (4 + 5 * c + 3)) ff) (tk sp ms ca cd : Int32) (nu sg iB : Nat → Int32) (dr : Nat → Int64) (br : Nat → UInt32) :
    Ok (g_X12_cooks tk sp ms ca cd s nu sg iB dr ff br (nI i)) (RMk kd lo hi CN (rT x).1 (rT x).2.1 (rT x).2.2.1 s i) := by
  unfold g_X12_cooks
  have hsh := OKT_SH hx
  have hT := hsh.1
  refine ok_b (k_X12_tells hi4 hx hs tk sp ms nu sg) (fun o ho => ?_)
  rw [ho.1]
  exact lC hi4 hsh hb ho.2.2 o.2.1 o.2.2.1 100 0 iB s dr br ff ca cd (Nat.zero_le _) (by omega) (fun q z => absurd z (Nat.not_lt_zero q)) (fun i z => absurd z (Nat.not_lt_zero i)) (SMR_0 hS hC)
theorem k_X12_faultOf {s : Nat → Int32} {i nc : Nat} {x : TX} {kd lo hi : Nat → Int32} (hi4 : i < 4) (hx : OKT nc x) (hs : SPM s i x) (hb : ∀ c, c < 6 → bo (kd c) = true) (hS : SBk s kd lo hi) (tk sp ms so : Int32) (nu sg iB sB : Nat → Int32) (l h sL sH : Nat → Int64) :
    Ok (g_X12_faultOf tk sp ms so s nu sg l h iB sL sH sB (nI i)) (fun o => ∃ f, FV (tyP kd lo hi (rT x).2.1 (rT x).2.2.1) (rT x).1 f ∧ o.1 = fcode f ∧ (f = none → o.2.2.2.2.1 = nI (NS (rT x).2.1 (rT x).1) ∧ SR (rT x).2.1 (tyP kd lo hi (rT x).2.1 (rT x).2.2.1) (rT x).1 o.2.2.2.2.2.2.2.2.2.2.2.2 o.2.2.2.2.2.2.2.2.2.2.1 o.2.2.2.2.2.2.2.2.2.2.2.1)) := by
  unfold g_X12_faultOf
  have hsh := OKT_SH hx
  have hT := hsh.1
  refine ok_b (k_X12_tells hi4 hx hs tk sp ms nu sg) (fun o ho => ?_)
  rw [ho.1]
  refine ok_m (lM hsh hb hS ho.2.2 o.2.1 o.2.2.1 100 0 iB sB l h sL sH (Nat.zero_le _) (by omega) (fun q z => absurd z (Nat.not_lt_zero q)) (fun i z => absurd z (Nat.not_lt_zero i)) (fun q z => absurd z (Nat.not_lt_zero q))) (fun r hr => ?_)
  obtain ⟨f, h1, h2, _, _, _, _, _, h3⟩ := hr
  exact ⟨f, h1, h2, h3⟩
