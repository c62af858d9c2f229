/-! rows of the whole claim that speak of the class alone (gen/pure1.py) -/
abbrev BK : Type := Int32 × Int32 × Int32 × Int32 × (Nat → Int32) × (Nat → UInt32) × (Nat → Int32) × (Nat → Int32) × (Nat → Int32) × (Nat → Int32) × (Nat → Option Nat) × (Nat → Int32)
def SPC (LS : List Nat) (SE : Nat → SV) (a : Nat) (x : TX) : Prop :=
  inl9 LS a = true ∧ (SE a).1 = x.1 ∧ (∀ j, j < x.1 → (SE a).2.1 j = nI (x.2 j)) ∧ (SE a).2.2.1 = nI (rT x).1 ∧ (SE a).2.2.2.1 = nI (NS (rT x).2.1 (rT x).1) ∧ (SE a).2.2.2.2.1 = nI (MS (rT x).2.1 (rT x).1) ∧ (∀ p, p < (rT x).1 → (SE a).2.2.2.2.2.1 p = nI ((rT x).2.2.2.1 p)) ∧ SPR (rT x).1 (rT x).2.1 (rT x).2.2.1 (SE a).2.2.2.2.2.2.1 (SE a).2.2.2.2.2.2.2.1 (SE a).2.2.2.2.2.2.2.2.1 (SE a).2.2.2.2.2.2.2.2.2
def CX (kd lo hi mn : Nat → Int32) (mu : Nat → UInt32) : Prop := ∀ c, c < 6 → CANH (kd c, mn c, mu c) ∧ -99 ≤ (lo c).toInt ∧ (hi c).toInt ≤ 99 ∧ (lo c).toInt ≤ (hi c).toInt ∧ (kd c = 0 → (lo c).toInt ≤ (mn c).toInt ∧ (mn c).toInt ≤ (hi c).toInt)
def SX (LS : List Nat) (SE : Nat → SV) (nc ns : Nat) (X : Nat → TX) (tx : Nat → Option Nat) (_cc _s : Nat → Int32) : Prop := (∀ i, i < ns → (∃ a, tx i = some a ∧ SPC LS SE a (X i)) ∧ OKT nc (X i) ∧ True ∧ True) ∧ ∀ i, i < 4 → oin9 LS (tx i) = true
def BE (b b' : BK) : Prop := b.1 = b'.1 ∧ b.2.1 = b'.2.1 ∧ b.2.2.1 = b'.2.2.1 ∧ b.2.2.2.1 = b'.2.2.2.1 ∧ AG 6 b.2.2.2.2.1 b'.2.2.2.2.1 ∧ AG 6 b.2.2.2.2.2.1 b'.2.2.2.2.2.1 ∧ AG 6 b.2.2.2.2.2.2.1 b'.2.2.2.2.2.2.1 ∧ AG 6 b.2.2.2.2.2.2.2.1 b'.2.2.2.2.2.2.2.1 ∧ AG 6 b.2.2.2.2.2.2.2.2.1 b'.2.2.2.2.2.2.2.2.1 ∧ AG 6 b.2.2.2.2.2.2.2.2.2.1 b'.2.2.2.2.2.2.2.2.2.1 ∧ AG 4 b.2.2.2.2.2.2.2.2.2.2.1 b'.2.2.2.2.2.2.2.2.2.2.1 ∧ AG 4 b.2.2.2.2.2.2.2.2.2.2.2 b'.2.2.2.2.2.2.2.2.2.2.2
section
variable {LS : List Nat} {SE : Nat → SV} {nc ns : Nat} {X : Nat → TX} {b b' : BK} {s s' : Nat → Int32} {ff ff' : Nat → UInt32}
theorem AG_r {α : Type} {n : Nat} (f : Nat → α) : AG n f f := fun _ _ => rfl
theorem AG_t {α : Type} {n : Nat} {f g h : Nat → α} (a : AG n f g) (b : AG n g h) : AG n f h := fun c hc => (a c hc).trans (b c hc)
theorem AG_y {α : Type} {n : Nat} {f g : Nat → α} (a : AG n f g) : AG n g f := fun c hc => (a c hc).symm
theorem BE_r (b : BK) : BE b b := ⟨rfl, rfl, rfl, rfl, AG_r _, AG_r _, AG_r _, AG_r _, AG_r _, AG_r _, AG_r _, AG_r _⟩
theorem CX_BND {kd lo hi mn : Nat → Int32} {mu : Nat → UInt32} (h : CX kd lo hi mn mu) : BND kd lo hi := fun c hc => ⟨(h c hc).1.1, (h c hc).2.1, (h c hc).2.2.1, (h c hc).2.2.2.1⟩
theorem CX_CNR {kd lo hi mn : Nat → Int32} {mu : Nat → UInt32} (h : CX kd lo hi mn mu) : CNR kd (fun c => (kd c, mn c, mu c)) mn mu := fun c hc => ⟨(h c hc).1.can, rfl, rfl, rfl⟩
theorem CX_CNH {kd lo hi mn : Nat → Int32} {mu : Nat → UInt32} (h : CX kd lo hi mn mu) : CNH kd lo hi (fun c => (kd c, mn c, mu c)) := fun c hc => ⟨rfl, (h c hc).2.2.2.2⟩
theorem CX_bo {kd lo hi mn : Nat → Int32} {mu : Nat → UInt32} (h : CX kd lo hi mn mu) : ∀ c, c < 6 → bo (kd c) = true := fun c hc => (h c hc).1.1
end
section
variable {LS : List Nat} {SE : Nat → SV}
theorem AG_u {α : Type} {i : Nat} {f g : Nat → α} (h : AG i f g) : AG (i + 1) (va_up f i (g i)) g := fun c hc => by
  by_cases e : c = i
  · rw [e]; exact x_as
  · rw [x_an e]; exact h c (by omega)
theorem AG_ui {i : Nat} {f g : Nat → Int32} (h : AG i f g) : AG (i + 1) (upd f i (g i)) g := fun c hc => by
  by_cases e : c = i
  · rw [e]; exact x_us
  · rw [x_un e]; exact h c (by omega)
theorem AG_uf {i : Nat} {f g : Nat → UInt32} (h : AG i f g) : AG (i + 1) (vf_upd f i (g i)) g := fun c hc => by
  by_cases e : c = i
  · rw [e]; exact x_vs
  · rw [x_vn e]; exact h c (by omega)
theorem AG_z {α : Type} (f g : Nat → α) : AG 0 f g := fun c hc => absurd hc (Nat.not_lt_zero c)
theorem l_X0_copy2 {p : BK} (ht : ∀ i, i < 4 → oin9 LS (p.2.2.2.2.2.2.2.2.2.2.1 i) = true) {mn : Nat → Int32} {mu : Nat → UInt32} {kd lo hi si : Nat → Int32} (e5 : AG 6 mn p.2.2.2.2.1) (e6 : AG 6 mu p.2.2.2.2.2.1) (e7 : AG 6 kd p.2.2.2.2.2.2.1) (e8 : AG 6 lo p.2.2.2.2.2.2.2.1) (e9 : AG 6 hi p.2.2.2.2.2.2.2.2.1) (e10 : AG 6 si p.2.2.2.2.2.2.2.2.2.1) :
    ∀ (n i : Nat) (cc : Nat → Int32) (tx : Nat → Option Nat), i ≤ 4 → 4 - i < n → AG i cc p.2.2.2.2.2.2.2.2.2.2.2 → AG i tx p.2.2.2.2.2.2.2.2.2.2.1 → Ok (g_X0_copy_b91 LS p.1 p.2.1 p.2.2.1 p.2.2.2.1 p.2.2.2.2.2.2.2.2.2.2.1 p.2.2.2.2.2.2.2.2.2.2.2 n mn mu cc hi kd lo si tx (nI i)) (fun o => BE o p)
  | 0, i, _, _, _, h, _, _ => absurd h (Nat.not_lt_zero _)
  | n + 1, i, cc, tx, hi', hn, hc, hx => by
    unfold g_X0_copy_b91
    by_cases c : i = 4
    · subst c
      exact ok_t (nI_le (Nat.le_refl _) (by omega)) (ok_s ⟨rfl, rfl, rfl, rfl, e5, e6, e7, e8, e9, e10, hx, hc⟩)
    · refine ok_f (nI_ge (show i < 4 by omega) (show (4 : Nat) < 2147483648 by omega)) (ok_c (x_inb (by omega) (by omega)) (ok_c (x_inb (by omega) (by omega)) (ok_c ?_ (ok_c (x_inb (by omega) (by omega)) (ok_c (x_inb (by omega) (by omega)) (ok_l ?_))))))
      · rw [x_cl (by omega)]; exact ht i (by omega)
      · rw [x_cl (by omega), nI_1]
        exact l_X0_copy2 ht e5 e6 e7 e8 e9 e10 n (i + 1) _ _ (by omega) (by omega) (AG_ui hc) (AG_u hx)
theorem l_X0_copy {p : BK} (ht : ∀ i, i < 4 → oin9 LS (p.2.2.2.2.2.2.2.2.2.2.1 i) = true) (hb : ∀ c, c < 6 → bo (p.2.2.2.2.2.2.1 c) = true) {mn : Nat → Int32} {mu : Nat → UInt32} {tx : Nat → Option Nat} {cc : Nat → Int32} :
    ∀ (n i : Nat) (kd lo hi si : Nat → Int32), i ≤ 6 → 6 - i < n → AG i kd p.2.2.2.2.2.2.1 → AG i lo p.2.2.2.2.2.2.2.1 → AG i hi p.2.2.2.2.2.2.2.2.1 → AG i si p.2.2.2.2.2.2.2.2.2.1 → Ok (g_X0_copy_b10 LS p.1 p.2.1 p.2.2.1 p.2.2.2.1 mn p.2.2.2.2.1 mu p.2.2.2.2.2.1 p.2.2.2.2.2.2.1 p.2.2.2.2.2.2.2.1 p.2.2.2.2.2.2.2.2.1 p.2.2.2.2.2.2.2.2.2.1 tx p.2.2.2.2.2.2.2.2.2.2.1 cc p.2.2.2.2.2.2.2.2.2.2.2 n hi kd lo si (nI i)) (fun o => BE o p)
  | 0, i, _, _, _, _, _, h, _, _, _, _ => absurd h (Nat.not_lt_zero _)
  | n + 1, i, kd, lo, hi, si, hi', hn, hk, hl, hh, hs => by
    unfold g_X0_copy_b10
    by_cases c : i = 6
    · subst c
      refine ok_t (nI_le (Nat.le_refl _) (by omega)) (ok_b (k_X1_copy _ _ _ _) (fun o ho => ?_))
      exact l_X0_copy2 ht ho.1 ho.2 hk hl hh hs 100 0 cc tx (by omega) (by omega) (AG_z _ _) (AG_z _ _)
    · have hin : inb (nI i) 6 = true := x_inb (by omega) (by omega)
      refine ok_f (nI_ge (show i < 6 by omega) (show (6 : Nat) < 2147483648 by omega)) (ok_c hin (ok_c hin (ok_c hin (ok_c hin (ok_c hin (ok_c hin (ok_c hin (ok_c hin (ok_l ?_)))))))))
      rw [x_cl (by omega), nI_1, x_nb (hb i (by omega))]
      exact l_X0_copy ht hb n (i + 1) _ _ _ _ (by omega) (by omega) (AG_ui hk) (AG_ui hl) (AG_ui hh) (AG_ui hs)
theorem k_X0_copy {p : BK} (ht : ∀ i, i < 4 → oin9 LS (p.2.2.2.2.2.2.2.2.2.2.1 i) = true) (hb : ∀ c, c < 6 → bo (p.2.2.2.2.2.2.1 c) = true) (q : BK) :
    Ok (g_X0_copy LS SE q.1 q.2.1 q.2.2.1 q.2.2.2.1 p.1 p.2.1 p.2.2.1 p.2.2.2.1 q.2.2.2.2.1 p.2.2.2.2.1 q.2.2.2.2.2.1 p.2.2.2.2.2.1 q.2.2.2.2.2.2.1 p.2.2.2.2.2.2.1 q.2.2.2.2.2.2.2.1 p.2.2.2.2.2.2.2.1 q.2.2.2.2.2.2.2.2.1 p.2.2.2.2.2.2.2.2.1 q.2.2.2.2.2.2.2.2.2.1 p.2.2.2.2.2.2.2.2.2.1 q.2.2.2.2.2.2.2.2.2.2.1 p.2.2.2.2.2.2.2.2.2.2.1 q.2.2.2.2.2.2.2.2.2.2.2 p.2.2.2.2.2.2.2.2.2.2.2) (fun o => BE o p) := by
  unfold g_X0_copy
  exact l_X0_copy ht hb 100 0 _ _ _ _ (by omega) (by omega) (AG_z _ _) (AG_z _ _) (AG_z _ _) (AG_z _ _)
theorem k_X4_remember {p : BK} (ht : ∀ i, i < 4 → oin9 LS (p.2.2.2.2.2.2.2.2.2.2.1 i) = true) (hb : ∀ c, c < 6 → bo (p.2.2.2.2.2.2.1 c) = true) (q : BK) {nx ch : Nat} {bks : Nat → Option Nat} {a : Nat} (hn : nx < 6) (hc : ch ≤ 6) (hq : bks nx = some a) :
    Ok (g_X4_remember LS SE (nI nx) (nI ch) p.1 p.2.1 p.2.2.1 p.2.2.2.1 bks q.1 q.2.1 q.2.2.1 q.2.2.2.1 q.2.2.2.2.1 p.2.2.2.2.1 q.2.2.2.2.2.1 p.2.2.2.2.2.1 q.2.2.2.2.2.2.1 p.2.2.2.2.2.2.1 q.2.2.2.2.2.2.2.1 p.2.2.2.2.2.2.2.1 q.2.2.2.2.2.2.2.2.1 p.2.2.2.2.2.2.2.2.1 q.2.2.2.2.2.2.2.2.2.1 p.2.2.2.2.2.2.2.2.2.1 q.2.2.2.2.2.2.2.2.2.2.1 p.2.2.2.2.2.2.2.2.2.2.1 q.2.2.2.2.2.2.2.2.2.2.2 p.2.2.2.2.2.2.2.2.2.2.2 a) (fun o => o.1 = nI (if nx = 5 then 0 else nx + 1) ∧ o.2.1 = nI (if ch = 6 then 6 else ch + 1) ∧ BE o.2.2 p) := by
  unfold g_X4_remember g_X4_remember_b35
  refine ok_c (x_inb hn (by omega)) (ok_c (by rw [x_cl (by omega), hq]; exact decide_eq_true rfl) (ok_b (k_X0_copy ht hb q) (fun o ho => ?_)))
  have e1 : (if 6 < nI ch + 1 then (6 : Int32) else nI ch + 1) = nI (if ch = 6 then 6 else ch + 1) := by
    rw [nI_1]
    by_cases c : ch = 6
    · rw [if_pos c, if_pos (show (6 : Int32) < nI (ch + 1) from nI_lt (a := 6) (by omega) (by omega))]; rfl
    · rw [if_neg c, if_neg (show ¬ (6 : Int32) < nI (ch + 1) from nI_nlt (b := ch + 1) (a := 6) (by omega) (by omega))]
  rw [e1, nI_1]
  by_cases c : nx = 5
  · refine ok_t (show (6 : Int32) ≤ nI (nx + 1) from nI_le (a := 6) (by omega) (by omega)) (ok_l (ok_s ⟨?_, rfl, ho⟩))
    rw [if_pos c]; rfl
  · refine ok_f (show ¬ (6 : Int32) ≤ nI (nx + 1) from nI_ge (show nx + 1 < 6 by omega) (show (6 : Nat) < 2147483648 by omega)) (ok_l (ok_s ⟨?_, rfl, ho⟩))
    rw [if_neg c]
theorem k_X4_giveBack {q : BK} (ht : ∀ i, i < 4 → oin9 LS (q.2.2.2.2.2.2.2.2.2.2.1 i) = true) (hb : ∀ c, c < 6 → bo (q.2.2.2.2.2.2.1 c) = true) (p : BK) {nx ch : Nat} {bks : Nat → Option Nat} {a : Nat} (hn : nx < 6) (hc : 0 < ch) (hq : bks (if nx = 0 then 5 else nx - 1) = some a) :
    Ok (g_X4_giveBack LS SE (nI nx) (nI ch) p.1 p.2.1 p.2.2.1 p.2.2.2.1 bks q.1 q.2.1 q.2.2.1 q.2.2.2.1 p.2.2.2.2.1 q.2.2.2.2.1 p.2.2.2.2.2.1 q.2.2.2.2.2.1 p.2.2.2.2.2.2.1 q.2.2.2.2.2.2.1 p.2.2.2.2.2.2.2.1 q.2.2.2.2.2.2.2.1 p.2.2.2.2.2.2.2.2.1 q.2.2.2.2.2.2.2.2.1 p.2.2.2.2.2.2.2.2.2.1 q.2.2.2.2.2.2.2.2.2.1 p.2.2.2.2.2.2.2.2.2.2.1 q.2.2.2.2.2.2.2.2.2.2.1 p.2.2.2.2.2.2.2.2.2.2.2 q.2.2.2.2.2.2.2.2.2.2.2 a) (fun o => o.1 = nI (if nx = 0 then 5 else nx - 1) ∧ o.2.1 = nI (ch - 1) ∧ BE o.2.2 q) := by
  have e2 : nI ch - 1 = nI (ch - 1) := pk_sub (b := 1) hc
  unfold g_X4_giveBack g_X4_giveBack_b18
  rw [e2]
  by_cases c : nx = 0
  · rw [if_pos c] at hq ⊢
    refine ok_t (show nI nx ≤ 0 from nI_le (b := 0) (by omega) (by omega)) (ok_c rfl (ok_c (show decide (bks 5 = some a) = true from decide_eq_true hq) (ok_b (k_X0_copy ht hb p) (fun o ho => ok_l (ok_s ⟨rfl, rfl, ho⟩)))))
  · rw [if_neg c] at hq ⊢
    have e3 : nI nx - 1 = nI (nx - 1) := pk_sub (b := 1) (by omega)
    rw [e3]
    refine ok_f (show ¬ nI nx ≤ 0 from nI_ge (show 0 < nx by omega) (by omega)) (ok_c (x_inb (by omega) (by omega)) (ok_c (by rw [x_cl (by omega), hq]; exact decide_eq_true rfl) (ok_b (k_X0_copy ht hb p) (fun o ho => ok_l (ok_s ⟨rfl, rfl, ho⟩)))))
end
