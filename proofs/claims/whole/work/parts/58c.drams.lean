/-! THE CALLS: a cauldron of drams, of broth -/
section DRM
variable {LS : List Nat} {SE : Nat → SV} {RA : Nat → BK} {nx ch n4 a : Nat} {b : BK} {past be s rf : Nat → Int32} {pastF beF f : Nat → UInt32} {kp rs de hc ca cd th p1 p2 : Int32} {ans : Nat → Int64} {bks : Nat → Option Nat}
theorem upB_self (RA : Nat → BK) (i j : Nat) : upB RA i (RA i) j = RA j := by
  unfold upB
  split
  · rename_i h; rw [h]
  · rfl
theorem HA_self (h : HA LS SE RA nx ch past pastF) : HA LS SE (upB RA nx (RA nx)) nx ch past pastF := by
  obtain ⟨h1, h2, h3⟩ := h
  exact ⟨h1, h2, HR_cg h3 h2 (fun r _ => upB_self RA nx _)⟩
/-- the class's ring and the reference's rows, behind a call -/
def NH (LS : List Nat) (SE : Nat → SV) (RA : Nat → BK) (nx : Nat) (q : BK) (nv cv pv : Int32) (past : Nat → Int32) (pastF : Nat → UInt32) : Prop := ∃ nx' ch', nv = nI nx' ∧ cv = nI ch' ∧ pv = nI ch' ∧ HA LS SE (upB RA nx q) nx' ch' past pastF ∧ (nx' = nx ∨ nx' = if nx = 5 then 0 else nx + 1)
theorem NH_self (h : HA LS SE RA nx ch past pastF) : NH LS SE RA nx (RA nx) (nI nx) (nI ch) (nI ch) past pastF := ⟨nx, ch, rfl, rfl, rfl, HA_self h, Or.inl rfl⟩
theorem BR_back (h : BR LS SE b s f) : BR LS SE b (va_cpy (va_cpy s be 0 0 282) s 0 0 282) (va_cpy (va_cpy f beF 0 0 6) f 0 0 6) := BR_ag' h (BE_r _) (AG_t (AG_cpy _ _ _) (AG_cpy _ _ _)) (AG_t (AG_cpy _ _ _) (AG_cpy _ _ _))
theorem BR_keep (h : BR LS SE b s f) : BR LS SE b (va_cpy s be 0 0 282) (va_cpy f beF 0 0 6) := BR_ag' h (BE_r _) (AG_cpy _ _ _) (AG_cpy _ _ _)
theorem op_drams (hB : BR LS SE b s f) (hH : HA LS SE RA nx ch past pastF) (hq : bks nx = some a) (hR : RFR kp rs de hc ca cd rf) (hn : 0 < n4) (hn9 : n4 < 2147483648) :
    Ok (g_L_drams LS SE n4 ans b.1 b.2.1 b.2.2.1 b.2.2.2.1 kp rs de hc (nI nx) (nI ch) bks (RA nx).1 (RA nx).2.1 (RA nx).2.2.1 (RA nx).2.2.2.1 (RA nx).2.2.2.2.1 b.2.2.2.2.1 (RA nx).2.2.2.2.2.1 b.2.2.2.2.2.1 (RA nx).2.2.2.2.2.2.1 b.2.2.2.2.2.2.1 (RA nx).2.2.2.2.2.2.2.1 b.2.2.2.2.2.2.2.1 (RA nx).2.2.2.2.2.2.2.2.1 b.2.2.2.2.2.2.2.2.1 (RA nx).2.2.2.2.2.2.2.2.2.1 b.2.2.2.2.2.2.2.2.2.1 (RA nx).2.2.2.2.2.2.2.2.2.2.1 b.2.2.2.2.2.2.2.2.2.2.1 (RA nx).2.2.2.2.2.2.2.2.2.2.2 b.2.2.2.2.2.2.2.2.2.2.2 p1 p2 a) (fun o => Ok (g_X12_drams (nI ch) th s be f beF rf past pastF p1 p2) (fun o' => o.1 = o'.2.2.1 ∧ (o.1 = 0 → o.2.1 = vp_updL ans 0 o'.1.toInt64) ∧ (o.1 ≠ 0 → o.2.1 = ans) ∧ BR LS SE (o.2.2.1, b.2.1, b.2.2.1, b.2.2.2.1, o.2.2.2.2.2.2.2.2.2.2.2.2.2.2.1, o.2.2.2.2.2.2.2.2.2.2.2.2.2.2.2.2.1, o.2.2.2.2.2.2.2.2.2.2.2.2.2.2.2.2.2.2.1, o.2.2.2.2.2.2.2.2.2.2.2.2.2.2.2.2.2.2.2.2.1, o.2.2.2.2.2.2.2.2.2.2.2.2.2.2.2.2.2.2.2.2.2.2.1, o.2.2.2.2.2.2.2.2.2.2.2.2.2.2.2.2.2.2.2.2.2.2.2.2.1, b.2.2.2.2.2.2.2.2.2.2.1, b.2.2.2.2.2.2.2.2.2.2.2) o'.2.2.2.1 o'.2.2.2.2.2.1 ∧ NH LS SE RA nx (o.2.2.2.2.2.2.2.2.2.1, o.2.2.2.2.2.2.2.2.2.2.1, o.2.2.2.2.2.2.2.2.2.2.2.1, o.2.2.2.2.2.2.2.2.2.2.2.2.1, o.2.2.2.2.2.2.2.2.2.2.2.2.2.1, o.2.2.2.2.2.2.2.2.2.2.2.2.2.2.2.1, o.2.2.2.2.2.2.2.2.2.2.2.2.2.2.2.2.2.1, o.2.2.2.2.2.2.2.2.2.2.2.2.2.2.2.2.2.2.2.1, o.2.2.2.2.2.2.2.2.2.2.2.2.2.2.2.2.2.2.2.2.2.1, o.2.2.2.2.2.2.2.2.2.2.2.2.2.2.2.2.2.2.2.2.2.2.2.1, o.2.2.2.2.2.2.2.2.2.2.2.2.2.2.2.2.2.2.2.2.2.2.2.2.2.1, o.2.2.2.2.2.2.2.2.2.2.2.2.2.2.2.2.2.2.2.2.2.2.2.2.2.2) o.2.2.2.2.2.2.2.1 o.2.2.2.2.2.2.2.2.1 o'.2.1 o'.2.2.2.2.2.2.2.2.1 o'.2.2.2.2.2.2.2.2.2 ∧ RFR o.2.2.2.1 o.2.2.2.2.1 o.2.2.2.2.2.1 o.2.2.2.2.2.2.1 ca cd o'.2.2.2.2.2.2.2.1)) := by
  obtain ⟨nc, ns, X, hBx⟩ := id hB
  have hcau : b.1 = nI nc := hBx.2.2.1
  have h0 : s 0 = nI nc := hBx.2.2.2.2.1
  obtain ⟨htx, hbo⟩ := BR_tx hB
  have hgc : inb 0 n4 = true := decide_eq_true ⟨by decide, by show (0 : Int) < n4; omega⟩
  unfold g_L_drams g_X11_drams
  obtain ⟨ka1, ka2⟩ := k_areBounds p1 p2
  rcases k_needBounds p1 p2 with ⟨hb, hnb⟩ | ⟨hb, hnb⟩
  · by_cases h6 : nc < 6
    · have hroom : g_X11_needRoomForCauldron b.1 kp rs de hc = some (0, kp, rs, de, hc) := by
        unfold g_X11_needRoomForCauldron
        rw [hcau]
        exact if_pos (nI_lt (b := 6) h6 (by omega))
      refine ok_b (R := fun r => ∃ q, BE q b ∧ r = (0, nI nc, nI (nc + 1), kp, rs, de, hc, nI (if nx = 5 then 0 else nx + 1), nI (if ch = 6 then 6 else ch + 1), q.1, q.2.1, q.2.2.1, q.2.2.2.1, q.2.2.2.2.1, upd b.2.2.2.2.1 nc (v0 p1 p2), q.2.2.2.2.2.1, vf_upd b.2.2.2.2.2.1 nc FP.fconst0, q.2.2.2.2.2.2.1, upd b.2.2.2.2.2.2.1 nc 0, q.2.2.2.2.2.2.2.1, upd b.2.2.2.2.2.2.2.1 nc p1, q.2.2.2.2.2.2.2.2.1, upd b.2.2.2.2.2.2.2.2.1 nc p2, q.2.2.2.2.2.2.2.2.2.1, upd b.2.2.2.2.2.2.2.2.2.1 nc 0, q.2.2.2.2.2.2.2.2.2.2.1, q.2.2.2.2.2.2.2.2.2.2.2)) ?_ (fun r hr => ?_)
      · refine ok_be hnb (ok_t rfl (ok_be hroom (ok_t rfl (ok_b (k_X4_remember (LS := LS) (SE := SE) htx hbo (RA nx) hH.1 hH.2.1 hq) (fun o ho => ?_)))))
        rw [hcau]
        refine ok_be (k_X0_setUp h6 _ _ _ _ _ _ (show bo 0 = true from rfl)) (ok_s ⟨o.2.2, ho.2.2, ?_⟩)
        rw [ho.1, ho.2.1]
      · obtain ⟨q, hqb, hr⟩ := hr
        subst hr
        refine ok_t rfl (ok_c hgc (ok_s ?_))
        unfold g_X12_drams
        obtain ⟨past', pastF', hE1, hE2⟩ := HA_push (s := sNew s nc 0 p1 p2 (v0 p1 p2)) (f := vf_upd f nc FP.fconst0) hH (BR_keep (be := be) (beF := beF) hB) hqb (nI nc)
        refine ok_be (k_X12_keep th s be f beF) (ok_be (ka1 hb) (ok_f (by decide) (ok_be (k_X12_comes h0 h6 _ _ _ _ _) ?_)))
        unfold g_X12_drams_b29
        refine ok_be hE1 (ok_s ⟨rfl, fun _ => rfl, fun z => absurd rfl z, ⟨nc + 1, ns, X, BR_new hBx h6 (CANH_d _) hb (fun _ => v0_b hb)⟩, ⟨_, _, rfl, rfl, rfl, hE2, Or.inr rfl⟩, hR⟩)
    · have h6' : nc = 6 := by have := hBx.1; omega
      subst h6'
      have hroom : g_X11_needRoomForCauldron b.1 kp rs de hc = some (4, 1, 1, nI 6, 0) := by
        unfold g_X11_needRoomForCauldron
        rw [hcau]
        rfl
      refine ok_b (ok_be hnb (ok_t rfl (ok_be hroom (ok_f (by decide) (ok_s (show _ = _ from rfl)))))) (fun r hr => ?_)
      subst hr
      refine ok_f (show ¬ (4 : Int32) = 0 by decide) (ok_f (show ¬ (4 : Int32) = 1 by decide) (ok_t rfl (ok_s ?_)))
      unfold g_X12_drams
      refine ok_be (k_X12_keep th s be f beF) (ok_be (ka1 hb) (ok_f (by decide) (ok_be (k_X12_comes6 h0 _ _ _ _ _ _) ?_)))
      unfold g_X12_drams_b29
      exact ok_be (k_X12_endsF (show ¬ (2 : Int32) ≤ 0 by decide)) (ok_s ⟨rfl, fun z => absurd z (show ¬ (2 : Int32) = 0 by decide), fun _ => rfl, BR_back hB, NH_self hH, RFR_keep (hc := 0) (show (1 : Int32) ≠ 0 by decide)⟩)
  · refine ok_b (ok_be hnb (ok_f (by decide) (ok_s (show _ = _ from rfl)))) (fun r hr => ?_)
    subst hr
    refine ok_f (show ¬ (1 : Int32) = 0 by decide) (ok_t rfl (ok_s ?_))
    unfold g_X12_drams
    refine ok_be (k_X12_keep th s be f beF) (ok_be (ka2 hb) (ok_t rfl (ok_be (show g_X12_fails _ 1 = some (0, 1) from rfl) ?_)))
    unfold g_X12_drams_b29
    exact ok_be (k_X12_endsF (show ¬ (1 : Int32) ≤ 0 by decide)) (ok_s ⟨rfl, fun z => absurd z (show ¬ (1 : Int32) = 0 by decide), fun _ => rfl, BR_back hB, NH_self hH, hR⟩)
theorem op_broth (hB : BR LS SE b s f) (hH : HA LS SE RA nx ch past pastF) (hq : bks nx = some a) (hR : RFR kp rs de hc ca cd rf) (hn : 0 < n4) (hn9 : n4 < 2147483648) :
    Ok (g_L_broth LS SE n4 ans b.1 b.2.1 b.2.2.1 b.2.2.2.1 kp rs de hc (nI nx) (nI ch) bks (RA nx).1 (RA nx).2.1 (RA nx).2.2.1 (RA nx).2.2.2.1 (RA nx).2.2.2.2.1 b.2.2.2.2.1 (RA nx).2.2.2.2.2.1 b.2.2.2.2.2.1 (RA nx).2.2.2.2.2.2.1 b.2.2.2.2.2.2.1 (RA nx).2.2.2.2.2.2.2.1 b.2.2.2.2.2.2.2.1 (RA nx).2.2.2.2.2.2.2.2.1 b.2.2.2.2.2.2.2.2.1 (RA nx).2.2.2.2.2.2.2.2.2.1 b.2.2.2.2.2.2.2.2.2.1 (RA nx).2.2.2.2.2.2.2.2.2.2.1 b.2.2.2.2.2.2.2.2.2.2.1 (RA nx).2.2.2.2.2.2.2.2.2.2.2 b.2.2.2.2.2.2.2.2.2.2.2 a) (fun o => Ok (g_X12_broth (nI ch) th s be f beF rf past pastF) (fun o' => o.1 = o'.2.2.1 ∧ (o.1 = 0 → o.2.1 = vp_updL ans 0 o'.1.toInt64) ∧ (o.1 ≠ 0 → o.2.1 = ans) ∧ BR LS SE (o.2.2.1, b.2.1, b.2.2.1, b.2.2.2.1, o.2.2.2.2.2.2.2.2.2.2.2.2.2.2.1, o.2.2.2.2.2.2.2.2.2.2.2.2.2.2.2.2.1, o.2.2.2.2.2.2.2.2.2.2.2.2.2.2.2.2.2.2.1, o.2.2.2.2.2.2.2.2.2.2.2.2.2.2.2.2.2.2.2.2.1, o.2.2.2.2.2.2.2.2.2.2.2.2.2.2.2.2.2.2.2.2.2.2.1, o.2.2.2.2.2.2.2.2.2.2.2.2.2.2.2.2.2.2.2.2.2.2.2.2.1, b.2.2.2.2.2.2.2.2.2.2.1, b.2.2.2.2.2.2.2.2.2.2.2) o'.2.2.2.1 o'.2.2.2.2.2.1 ∧ NH LS SE RA nx (o.2.2.2.2.2.2.2.2.2.1, o.2.2.2.2.2.2.2.2.2.2.1, o.2.2.2.2.2.2.2.2.2.2.2.1, o.2.2.2.2.2.2.2.2.2.2.2.2.1, o.2.2.2.2.2.2.2.2.2.2.2.2.2.1, o.2.2.2.2.2.2.2.2.2.2.2.2.2.2.2.1, o.2.2.2.2.2.2.2.2.2.2.2.2.2.2.2.2.2.1, o.2.2.2.2.2.2.2.2.2.2.2.2.2.2.2.2.2.2.2.1, o.2.2.2.2.2.2.2.2.2.2.2.2.2.2.2.2.2.2.2.2.2.1, o.2.2.2.2.2.2.2.2.2.2.2.2.2.2.2.2.2.2.2.2.2.2.2.1, o.2.2.2.2.2.2.2.2.2.2.2.2.2.2.2.2.2.2.2.2.2.2.2.2.2.1, o.2.2.2.2.2.2.2.2.2.2.2.2.2.2.2.2.2.2.2.2.2.2.2.2.2.2) o.2.2.2.2.2.2.2.1 o.2.2.2.2.2.2.2.2.1 o'.2.1 o'.2.2.2.2.2.2.2.2.1 o'.2.2.2.2.2.2.2.2.2 ∧ RFR o.2.2.2.1 o.2.2.2.2.1 o.2.2.2.2.2.1 o.2.2.2.2.2.2.1 ca cd o'.2.2.2.2.2.2.2.1)) := by
  obtain ⟨nc, ns, X, hBx⟩ := id hB
  have hcau : b.1 = nI nc := hBx.2.2.1
  have h0 : s 0 = nI nc := hBx.2.2.2.2.1
  obtain ⟨htx, hbo⟩ := BR_tx hB
  have hgc : inb 0 n4 = true := decide_eq_true ⟨by decide, by show (0 : Int) < n4; omega⟩
  unfold g_L_broth g_X11_broth
  have hbb : BNDS (-99) 99 := by unfold BNDS; decide
  by_cases h6 : nc < 6
  · have hroom : g_X11_needRoomForCauldron b.1 kp rs de hc = some (0, kp, rs, de, hc) := by
      unfold g_X11_needRoomForCauldron
      rw [hcau]
      exact if_pos (nI_lt (b := 6) h6 (by omega))
    refine ok_b (R := fun r => ∃ q, BE q b ∧ r = (0, nI nc, nI (nc + 1), kp, rs, de, hc, nI (if nx = 5 then 0 else nx + 1), nI (if ch = 6 then 6 else ch + 1), q.1, q.2.1, q.2.2.1, q.2.2.2.1, q.2.2.2.2.1, upd b.2.2.2.2.1 nc 0, q.2.2.2.2.2.1, vf_upd b.2.2.2.2.2.1 nc FP.fconst0, q.2.2.2.2.2.2.1, upd b.2.2.2.2.2.2.1 nc 1, q.2.2.2.2.2.2.2.1, upd b.2.2.2.2.2.2.2.1 nc (-99), q.2.2.2.2.2.2.2.2.1, upd b.2.2.2.2.2.2.2.2.1 nc 99, q.2.2.2.2.2.2.2.2.2.1, upd b.2.2.2.2.2.2.2.2.2.1 nc 0, q.2.2.2.2.2.2.2.2.2.2.1, q.2.2.2.2.2.2.2.2.2.2.2)) ?_ (fun r hr => ?_)
    · refine ok_be hroom (ok_t rfl (ok_b (k_X4_remember (LS := LS) (SE := SE) htx hbo (RA nx) hH.1 hH.2.1 hq) (fun o ho => ?_)))
      rw [hcau]
      refine ok_be (k_X0_setUp h6 _ _ _ _ _ _ (show bo 1 = true from rfl)) (ok_s ⟨o.2.2, ho.2.2, ?_⟩)
      rw [ho.1, ho.2.1]
      rfl
    · obtain ⟨q, hqb, hr⟩ := hr
      subst hr
      refine ok_t rfl (ok_c hgc (ok_s ?_))
      unfold g_X12_broth
      obtain ⟨past', pastF', hE1, hE2⟩ := HA_push (s := sNew s nc 1 (-99) 99 0) (f := vf_upd f nc FP.fconst0) hH (BR_keep (be := be) (beF := beF) hB) hqb (nI nc)
      refine ok_be (k_X12_keep th s be f beF) (ok_be (k_X12_comes1 h0 h6 _ _ _ _ _) ?_)
      refine ok_be hE1 (ok_s ⟨rfl, fun _ => rfl, fun z => absurd rfl z, ⟨nc + 1, ns, X, BR_new hBx h6 (CANH_b fh_0) hbb (fun z => absurd z (by decide))⟩, ⟨_, _, rfl, rfl, rfl, hE2, Or.inr rfl⟩, hR⟩)
  · have h6' : nc = 6 := by have := hBx.1; omega
    subst h6'
    have hroom : g_X11_needRoomForCauldron b.1 kp rs de hc = some (4, 1, 1, nI 6, 0) := by
      unfold g_X11_needRoomForCauldron
      rw [hcau]
      rfl
    refine ok_b (ok_be hroom (ok_f (by decide) (ok_s (show _ = _ from rfl)))) (fun r hr => ?_)
    subst hr
    refine ok_f (show ¬ (4 : Int32) = 0 by decide) (ok_t rfl (ok_s ?_))
    unfold g_X12_broth
    refine ok_be (k_X12_keep th s be f beF) (ok_be (k_X12_comes6 h0 _ _ _ _ _ _) ?_)
    exact ok_be (k_X12_endsF (show ¬ (1 : Int32) ≤ 0 by decide)) (ok_s ⟨rfl, fun z => absurd z (show ¬ (1 : Int32) = 0 by decide), fun _ => rfl, BR_back hB, NH_self hH, RFR_keep (hc := 0) (show (1 : Int32) ≠ 0 by decide)⟩)
end DRM
