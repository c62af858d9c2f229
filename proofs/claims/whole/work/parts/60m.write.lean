/-! WRITE (gen/wwrite.py): what the reader leaves fits its rows; a spell more on both sides -/
/-- if it comes to an end, then with a property -/
def Aft {α : Type} (m : Option α) (P : α → Prop) : Prop := ∀ r, m = some r → P r
section AFT
variable {α β : Type} {P : α → Prop} {R : β → Prop}
theorem af_s {x : α} (h : P x) : Aft (some x) P := fun r e => by cases e; exact h
theorem af_n : Aft (none : Option α) P := fun r e => by cases e
theorem af_c {b : Bool} {k : Option α} (h : Aft k P) : Aft (gc b k) P := fun r e => h r (gc_some e).2
theorem af_l {a : β} {k : β → Option α} (h : Aft (k a) P) : Aft (gl a k) P := h
theorem af_b {o : Option β} {k : β → Option α} (h : Aft o R) (hk : ∀ x, R x → Aft (k x) P) : Aft (gb o k) P := fun r e => by
  obtain ⟨x, e1, e2⟩ := gb_some e
  exact hk x (h x e1) r e2
theorem af_bt {o : Option β} {k : β → Option α} (hk : ∀ x, Aft (k x) P) : Aft (gb o k) P := fun r e => by
  obtain ⟨x, e1, e2⟩ := gb_some e
  exact hk x r e2
theorem af_i {c : Prop} [Decidable c] {x y : Option α} (ht : Aft x P) (hf : Aft y P) : Aft (if c then x else y) P := by
  by_cases hc : c
  · rw [if_pos hc]; exact ht
  · rw [if_neg hc]; exact hf
end AFT
def FC (f : Nat → Int32) : Prop := ∀ j, j < 24 → fits .char (.int (f j)) = true
section AFW
variable {fs ks vs ps sq ls p1 : Nat → Int32} {tk st ms sp aL aD q c v a1 a2 : Int32}
theorem FC_up {fs : Nat → Int32} (h : FC fs) (t : Nat) (c : Int32) : FC (upd fs t (vp_nar .char c)) := fun j hj => by
  by_cases e : j = t
  · rw [e, x_us]; exact fits_narrow_char c
  · rw [x_un e]; exact h j hj
theorem af_fitsToken (h : FC fs) : Aft (g_X6_fitsToken tk ms sp fs ks vs ps sq ls q c v a1 a2) (fun r => FC r.2.2.2.2.1) := by
  unfold g_X6_fitsToken g_X6_fitsToken_b102 g_X6_fitsToken_b132 g_X6_fitsToken_b151
  have h2 : FC (upd fs tk.toNatClampNeg (vp_nar .char c)) := FC_up h _ c
  exact af_l (af_i (af_s h) (af_i (af_s h) (af_i (af_c (af_c (af_c (af_i (af_c (af_i (af_c (af_i (af_l (af_l (af_s h2))) (af_c (af_l (af_l (af_s h2)))))) (af_c (af_c (af_i (af_l (af_l (af_s h2))) (af_c (af_l (af_l (af_s h2))))))))) (af_c (af_c (af_i (af_c (af_i (af_l (af_l (af_s h2))) (af_c (af_l (af_l (af_s h2)))))) (af_c (af_c (af_i (af_l (af_l (af_s h2))) (af_c (af_l (af_l (af_s h2)))))))))))))) (af_s h))))
theorem af_fitsStore (h : FC fs) : Aft (g_X6_fitsStore tk st ms sp fs ks vs ps sq ls c) (fun r => FC r.2.2.2.2.2.1) := by
  unfold g_X6_fitsStore
  exact af_l (af_b (af_fitsToken h) (fun r hr => af_c (af_s hr)))
theorem af_b53 (h : FC fs) : Aft (g_X6_fitsDigit_b53 tk ms sp vs fs ks ps sq ls c v) (fun r => FC r.2.2.2.2.2.2.1) := by
  unfold g_X6_fitsDigit_b53
  exact (af_b (af_fitsToken h) (fun r hr => af_c (af_s hr)))
theorem af_fitsDigit (h : FC fs) : Aft (g_X6_fitsDigit tk ms sp aD vs fs ks ps sq ls c) (fun r => FC r.2.2.2.2.2.2.1) := by
  unfold g_X6_fitsDigit
  exact af_l (af_l (af_i (af_b53 h) (af_i (af_b53 h) (af_i (af_b53 h) (af_c (af_c (af_s h)))))))
theorem af_b55 (h : FC fs) : Aft (g_X6_fits_b55 tk st ms sp aL vs fs ks ps sq ls c) (fun r => FC r.2.2.2.2.2.2.2.2.1) := by
  unfold g_X6_fits_b55
  exact af_bt (fun _ => af_i (af_i (af_b (af_fitsToken h) (fun r hr => af_c (af_s hr))) (af_i (af_b (af_fitsToken h) (fun r hr => af_c (af_s hr))) (af_i (af_b (af_fitsToken h) (fun r hr => af_c (af_s hr))) (af_i (af_b (af_fitsToken h) (fun r hr => af_c (af_s hr))) (af_i (af_i (af_s h) (af_s h)) (af_i (af_b (af_fitsToken h) (fun r hr => af_c (af_s hr))) (af_s h))))))) (af_b (af_fitsToken h) (fun r hr => af_c (af_s hr))))
theorem af_fits (h : FC fs) : Aft (g_X6_fits tk st ms sp aL aD vs fs ks ps sq ls c) (fun r => FC r.2.2.2.2.2.2.2.2.1) := by
  unfold g_X6_fits
  exact af_i (af_i (af_b55 h) (af_i (af_b55 h) (af_b (af_fitsDigit h) (fun r hr => af_c (af_s hr))))) (af_bt (fun _ => af_i (af_s h) (af_b (af_fitsStore h) (fun r hr => af_i (af_s hr) (af_s hr)))))
theorem af_b40 {n9 : Nat} {x3 : Int32} : ∀ (n : Nat) (fs ks ls ps sq vs : Nat → Int32) (tk st aL aD ms sp x4 : Int32), FC fs → Aft (g_X6_errorIn_b40 n9 p1 n fs ks ls ps sq vs tk st aL aD ms sp x3 x4) (fun r => FC r.2.2.2.2.2.2.2.2.1)
  | 0, _, _, _, _, _, _, _, _, _, _, _, _, _, _ => af_n
  | n + 1, fs, ks, ls, ps, sq, vs, tk, st, aL, aD, ms, sp, x4, h => by
    unfold g_X6_errorIn_b40
    exact af_i (af_i (af_s h) (af_i (af_i (af_s h) (af_s h)) (af_s h))) (af_c (af_b (af_fits h) (fun r hr => af_i (af_s hr) (af_l (af_b40 n _ _ _ _ _ _ _ _ _ _ _ _ _ hr)))))
theorem af_errorIn {n9 : Nat} (h : FC fs) : ∀ r, g_X6_errorIn n9 tk st ms sp aL aD p1 vs fs ks ps sq ls c = some r → FC r.2.2.2.2.2.2.2.2.1 := by
  unfold g_X6_errorIn
  exact af_l (af_b40 _ _ _ _ _ _ _ _ _ _ _ _ _ _ h)
end AFW
/-! a spell more -/
section MORE
variable {LS : List Nat} {SE : Nat → SV} {a0 a : Nat} {v : SV} {x : TX}
theorem inl_up (h : inl9 LS a = true) : inl9 (a0 :: LS) a = true := decide_eq_true (List.mem_cons_of_mem _ (inl9_in h))
theorem oin_up {r : Option Nat} (h : oin9 LS r = true) : oin9 (a0 :: LS) r = true := by
  cases r with
  | none => rfl
  | some y => exact decide_eq_true (List.mem_cons_of_mem _ (oin9_in h y rfl))
theorem SPC_up (h : SPC LS SE a x) (h0 : a0 ∉ LS) : SPC (a0 :: LS) (va_up SE a0 v) a x := by
  have hm := inl9_in h.1
  have e : va_up SE a0 v a = SE a := x_an (fun z => h0 (z ▸ hm))
  unfold SPC
  rw [e]
  exact ⟨inl_up h.1, h.2⟩
theorem SX_up {nc ns : Nat} {X : Nat → TX} {tx : Nat → Option Nat} {cc s : Nat → Int32} (h : SX LS SE nc ns X tx cc s) (h0 : a0 ∉ LS) : SX (a0 :: LS) (va_up SE a0 v) nc ns X tx cc s :=
  ⟨fun i hi => by
    obtain ⟨⟨a, a1, a2⟩, a3⟩ := h.1 i hi
    exact ⟨⟨a, a1, SPC_up a2 h0⟩, a3⟩, fun i hi => oin_up (h.2 i hi)⟩
theorem BR_up {b : BK} {s : Nat → Int32} {f : Nat → UInt32} (h : BR LS SE b s f) (h0 : a0 ∉ LS) : BR (a0 :: LS) (va_up SE a0 v) b s f := by
  obtain ⟨nc, ns, X, h1, h2, h3, h4, h5, h6, h7, h8, h9, h10, h11⟩ := h
  exact ⟨nc, ns, X, h1, h2, h3, h4, h5, h6, h7, h8, h9, h10, SX_up h11 h0⟩
theorem HR_up {Q : Nat → BK} {ch : Nat} {past : Nat → Int32} {pastF : Nat → UInt32} (h : HR LS SE Q ch past pastF) (h0 : a0 ∉ LS) : HR (a0 :: LS) (va_up SE a0 v) Q ch past pastF := fun i hi => BR_up (h i hi) h0
theorem SVR_up {iv : Int32} {sb : BK} {sv : Nat → Int32} {svF : Nat → UInt32} (h : SVR LS SE iv sb sv svF) (h0 : a0 ∉ LS) : SVR (a0 :: LS) (va_up SE a0 v) iv sb sv svF := h.imp id (fun z => ⟨z.1, BR_up z.2 h0⟩)
theorem HI_up {RAd : Nat → Nat → Nat} {bR : Nat → BK} {bks : Nat → Option Nat} {nx ch pm : Int32} {past : Nat → Int32} {pastF : Nat → UInt32} (h : HI LS SE RAd bR bks nx ch pm past pastF) (h0 : a0 ∉ LS) : HI (a0 :: LS) (va_up SE a0 v) RAd bR bks nx ch pm past pastF := by
  obtain ⟨n9, c9, h1, h2, h3, h4, h5, h6, h7⟩ := h
  exact ⟨n9, c9, h1, h2, h3, h4, h5, HR_up h6 h0, h7⟩
theorem SI_up (h : SI LS SE) (h0 : a0 ∉ LS) (hv : v.1 ≤ 60 ∧ ∀ j, j < v.1 → ∃ ch, ch < 128 ∧ v.2.1 j = nI ch) : SI (a0 :: LS) (va_up SE a0 v) := fun y hy => by
  rcases List.mem_cons.mp hy with e | e
  · subst e
    rw [x_as]; exact hv
  · rw [x_an (show y ≠ a0 from fun z => h0 (z ▸ e))]
    exact h y e
end MORE
section SWR
variable {s row : Nat → Int32} {i L j : Nat}
theorem sWr_o (hi : i < 4) (hL : L ≤ 60) (h1 : j ≠ 1) (h : j < 34 + 62 * i ∨ 34 + 62 * i + 62 ≤ j) : sWr s row i (nI L) j = s j := by
  unfold sWr
  rw [x_un h1, x_cl (by omega), cpy_out (by omega), x_un (by omega), x_un (by omega)]
theorem sWr_1 (hi : i < 4) (hL : L ≤ 60) : sWr s row i (nI L) 1 = s 1 + 1 := by
  unfold sWr
  rw [x_us, x_cl (by omega), cpy_out (Or.inl (by omega)), x_un (by omega), x_un (by omega)]
theorem sWr_c (hi : i < 4) (hL : L ≤ 60) : sWr s row i (nI L) (34 + 62 * i) = 0 := by
  unfold sWr
  rw [x_un (by omega), x_cl (by omega), cpy_out (Or.inl (by omega)), x_un (by omega), x_us]
theorem sWr_l (hi : i < 4) (hL : L ≤ 60) : sWr s row i (nI L) (34 + 62 * i + 1) = nI L := by
  unfold sWr
  rw [x_un (by omega), x_cl (by omega), cpy_out (Or.inl (by omega)), x_us]
theorem sWr_t (hi : i < 4) (hL : L ≤ 60) (hj : j < L) : sWr s row i (nI L) (34 + 62 * i + 2 + j) = row j := by
  unfold sWr
  rw [x_un (by omega), x_cl (by omega), cpy_at (by omega) (by omega)]
  congr 1
  omega
end SWR
/-- a book with a spell more -/
theorem BR_wr {LS : List Nat} {SE : Nat → SV} {b : BK} {s row : Nat → Int32} {f : Nat → UInt32} {nc ns : Nat} {X : Nat → TX} (h : BRx LS SE nc ns X b s f) (hn : ns < 4) {a0 : Nat} (h0 : a0 ∉ LS) {v : SV} {x : TX} (hx : OKT nc x) (hv : SPC (a0 :: LS) (va_up SE a0 v) a0 x) (hr : ∀ j, j < x.1 → row j = nI (x.2 j)) :
    BR (a0 :: LS) (va_up SE a0 v) (b.1, nI (ns + 1), b.2.2.1, b.2.2.2.1, b.2.2.2.2.1, b.2.2.2.2.2.1, b.2.2.2.2.2.2.1, b.2.2.2.2.2.2.2.1, b.2.2.2.2.2.2.2.2.1, b.2.2.2.2.2.2.2.2.2.1, va_up b.2.2.2.2.2.2.2.2.2.2.1 ns (some a0), upd b.2.2.2.2.2.2.2.2.2.2.2 ns 0) (sWr s row ns (nI x.1)) f := by
  obtain ⟨g1, g2, g3, g4, g5, g6, g7, g8, g9, g10, g11⟩ := h
  have hx1 := hx.1
  refine ⟨nc, ns + 1, va_up X ns x, g1, by omega, g3, rfl, ?_, ?_, ?_, ?_, g9, ?_, ?_, ?_⟩
  · rw [sWr_o (by omega) hx1 (by omega) (by omega)]; exact g5
  · rw [sWr_1 (by omega) hx1, g6, nI_1]
  · rw [sWr_o (by omega) hx1 (by omega) (by omega)]; exact g7
  · rw [sWr_o (by omega) hx1 (by omega) (by omega)]; exact g8
  · intro c hc
    rw [sWr_o (by omega) hx1 (by omega) (by omega), sWr_o (by omega) hx1 (by omega) (by omega), sWr_o (by omega) hx1 (by omega) (by omega), sWr_o (by omega) hx1 (by omega) (by omega), sWr_o (by omega) hx1 (by omega) (by omega)]
    exact g10 c hc
  · intro i hi
    by_cases e : i = ns
    · rw [e, x_as]
      exact ⟨⟨a0, x_as, hv⟩, hx, ⟨sWr_l (by omega) hx1, fun j hj => (sWr_t (by omega) hx1 hj).trans (hr j hj)⟩, (sWr_c (by omega) hx1).trans x_us.symm⟩
    · rw [x_an e]
      obtain ⟨⟨y, y1, y2⟩, y3, y4, y5⟩ := g11.1 i (by omega)
      refine ⟨⟨y, (x_an e).trans y1, SPC_up y2 h0⟩, y3, SPM_rows y4 y3.1 (fun j h1 h2 => sWr_o (by omega) hx1 (by omega) (by omega)), ?_⟩
      rw [sWr_o (by omega) hx1 (by omega) (by omega)]
      exact y5.trans (x_un e).symm
  · intro i hi
    show oin9 (a0 :: LS) (va_up b.2.2.2.2.2.2.2.2.2.2.1 ns (some a0) i) = true
    by_cases e : i = ns
    · rw [e, x_as]; exact decide_eq_true List.mem_cons_self
    · rw [x_an e]; exact oin_up (g11.2 i hi)
def nSV (k : Nat) (inp : Nat → Int32) (tk st ms : Int32) (fs ks vs ps ls : Nat → Int32) : SV := (k, va_cpy inp (fun _ => 0) (0 : Int32).toNatClampNeg (0 : Int32).toNatClampNeg (nI k).toNatClampNeg, (if (0 : Int32) < (if 24 < tk then 24 else tk) then (if 24 < tk then 24 else tk) else (0 : Int32)), st, ms, fs, ks, vs, ps, ls)
theorem nSV_t {k : Nat} (hk : k ≤ 60) {inp : Nat → Int32} {j : Nat} (hj : j < k) : va_cpy inp (fun _ => 0) (0 : Int32).toNatClampNeg (0 : Int32).toNatClampNeg (nI k).toNatClampNeg j = inp j := by
  rw [x_cl (a := k) (by omega)]
  exact cpy_in hj
theorem tk_of {t : Nat} (h : t ≤ 24) : (if (0 : Int32) < (if 24 < nI t then 24 else nI t) then (if 24 < nI t then 24 else nI t) else (0 : Int32)) = nI t := by
  have e : (if 24 < nI t then (24 : Int32) else nI t) = nI t := if_neg (show ¬ nI 24 < nI t from nI_nlt h (by omega))
  rw [e]
  by_cases h0 : t = 0
  · subst h0; rfl
  · exact if_pos (show nI 0 < nI t from nI_lt (by omega) (by omega))
theorem rd_le {c : Nat → Nat} : ∀ m j S, (rd c m j S).1 ≤ j + m
  | 0, j, S => Nat.le_refl _
  | m + 1, j, S => by
    cases hx : nx S (c j) with
    | none => rw [rd_none hx]; exact Nat.le_add_right _ _
    | some S' => rw [rd_some hx]; have := rd_le (c := c) m (j + 1) S'; omega
theorem eR_of {c : Nat → Nat} {m : Nat} : (∃ S, (rd c m 0 rs0).2 = some S ∧ fin S = true ∧ eR (rd c m 0 rs0) = -1) ∨ (∃ j, j ≤ m ∧ eR (rd c m 0 rs0) = nI j) := by
  have hl := rd_le (c := c) m 0 rs0
  have h : ∀ r : Nat × Option RS, r.1 ≤ 0 + m → (∃ S, r.2 = some S ∧ fin S = true ∧ eR r = -1) ∨ (∃ j, j ≤ m ∧ eR r = nI j) := by
    intro r hr
    obtain ⟨j, o⟩ := r
    have hr : j ≤ 0 + m := hr
    cases o with
    | none => exact Or.inr ⟨j, by omega, rfl⟩
    | some S =>
      by_cases hf : fin S = true
      · exact Or.inl ⟨S, rfl, hf, if_pos hf⟩
      · exact Or.inr ⟨j, by omega, if_neg hf⟩
  exact h _ hl
section WRT
variable {LS : List Nat} {SE : Nat → SV} {RA : Nat → BK} {nx ch n4 a nc ns m : Nat} {b : BK} {past be s rf inp mt row nu sg fs ks vs ps sq ls : Nat → Int32} {pastF beF f : Nat → UInt32} {kp rs de hc ca cd th le ke er pm tk st ms sp aL aD mtk msp mms : Int32} {ans : Nat → Int64} {bks : Nat → Option Nat} {c : Nat → Nat}
theorem wr_row (hm : m ≤ 60) : ∀ (n j : Nat) (row : Nat → Int32), j ≤ m → m - j < n → AG j row mt → ∃ row', AG m row' mt ∧ g_X12_write_b7 pm th (nI m) er mtk msp mms s be f beF nu sg rf past pastF mt n row (nI j) =
    gb (g_X12_keep th s be f beF) fun r1 =>
      gb (g_X12_doWrite r1.1 er mtk msp mms row' nu sg s rf (nI m)) fun r2 =>
      gb (g_X12_ends pm r2.2.1 past pastF r1.2.1 r2.2.2.2.2.2.2.2.2.1 r1.2.2 f r2.1) fun r3 =>
      some (r3.1, r3.2.1, r2.2.1, 0, r2.2.2.1, r2.2.2.2.1, r2.2.2.2.2.1, r2.2.2.2.2.2.1, r3.2.2.2.2.1, r1.2.1, r3.2.2.2.2.2, r1.2.2, row', r2.2.2.2.2.2.2.1, r2.2.2.2.2.2.2.2.1, r2.2.2.2.2.2.2.2.2.2, r3.2.2.1, r3.2.2.2.1)
  | 0, j, row, _, h, _ => absurd h (Nat.not_lt_zero _)
  | n + 1, j, row, hj, hn, hA => by
    unfold g_X12_write_b7
    by_cases e : j = m
    · subst e
      exact ⟨row, hA, if_pos (nI_le (Nat.le_refl _) (by omega))⟩
    · have hlt : j < m := by omega
      obtain ⟨row', h1, h2⟩ := wr_row hm n (j + 1) (upd row j (mt j)) (by omega) (by omega) (AG_ui hA)
      refine ⟨row', h1, ?_⟩
      rw [if_neg (nI_ge hlt (by omega)), e_gc (x_inb (by omega) (by omega)), e_gc (x_inb (by omega) (by omega)), e_gl, x_cl (by omega), nI_1]
      exact h2
theorem k_doWrite (hm : m ≤ 60) (hc : ∀ j, c j < 65536) (hr : ∀ j, j < m → row j = nI (c j)) (h0 : s 0 = nI nc) (h1 : s 1 = nI ns) (hn : nc ≤ 6) (hs : ns ≤ 4) : Ok (g_X12_doWrite 0 er mtk msp mms row nu sg s rf (nI m)) (fun q =>
    (∀ j, j ≤ m → eR (rd c m 0 rs0) = nI j → q.2.1 = 1 ∧ q.2.2.1 = nI j ∧ q.2.2.2.2.2.2.2.2.1 = s ∧ q.2.2.2.2.2.2.2.2.2 = rf) ∧
    ∀ S, (rd c m 0 rs0).2 = some S → fin S = true → (ns = 4 → q.2.1 = 2 ∧ q.2.2.1 = er ∧ q.2.2.2.2.2.2.2.2.1 = s ∧ q.2.2.2.2.2.2.2.2.2 = upd (upd (upd (upd rf 0 1) 1 4) 2 0) 3 0) ∧
      (ns < 4 → ∃ r, PBS S.1 S.2.1 S.2.2.1 nc r ∧ (r = none → q.1 = nI ns ∧ q.2.1 = 0 ∧ q.2.2.1 = er ∧ q.2.2.2.2.2.2.2.2.1 = sWr s row ns (nI m) ∧ q.2.2.2.2.2.2.2.2.2 = rf) ∧ ∀ p, r = some p → q.2.1 = nI 2 ∧ q.2.2.1 = er ∧ q.2.2.2.2.2.2.2.2.1 = s ∧ q.2.2.2.2.2.2.2.2.2 = upd (upd (upd (upd rf 0 5) 1 (nI p)) 2 0) 3 0)) := by
  unfold g_X12_doWrite
  refine ok_b (k_X12_reads (np := 60) (off := 0) (L := m) (p1 := row) (c := c) hc (by omega) (by omega) (by omega) (fun i hi => by rw [Nat.zero_add]; exact hr i hi) mtk msp mms nu sg) (fun q hq => ?_)
  obtain ⟨q1, q2⟩ := hq
  rcases eR_of (c := c) (m := m) with ⟨S, hS, hf, e⟩ | ⟨j, hj, e⟩
  · rw [e] at q1
    refine ok_t (by rw [q1]; decide) (ok_c rfl (ok_l ?_))
    have hv : s (1 : Int32).toNatClampNeg = nI ns := h1
    rw [hv]
    by_cases h4 : ns = 4
    · refine ok_t (by rw [h4]; rfl) (ok_be (k_X12_refuse 0 rf 2 1 4) (ok_s ⟨fun j hj z => ?_, fun S' hS' hf' => ⟨fun _ => ⟨rfl, rfl, rfl, rfl⟩, fun z => absurd h4 (by omega)⟩⟩))
      rw [e] at z
      exact absurd z.symm (fun z => by have := x_m1n (a := j) (by omega); rw [this] at z; exact z)
    · refine ok_f (fun z => h4 (nI_inj (by omega) (by omega) (show nI ns = nI 4 from z))) ?_
      obtain ⟨t1, t2, t3, t4⟩ := q2 S hS
      have hfin : S.2.2.2.2.1 = false ∧ dd S = 0 ∧ 0 < NS S.2.1 S.1 := by
        unfold fin at hf
        exact of_decide_eq_true hf
      rw [hfin.1] at t1
      have hG := rd_GS m 0 rs0 GS_0 S hS
      have hsh := GS_SH hG hf
      have hTK : TK S.1 S.2.1 S.2.2.1 S.2.2.2.1 q.2.2.2.2.2 q.2.2.2.2.1 := fun p hp => ⟨(t4 p hp).1, fun _ => (t4 p hp).2, (hG.1 p hp).1⟩
      have t1' : q.2.1 = nI S.1 := t1
      rw [t1']
      have hT24 := hsh.1
      refine ok_m (l_doWrite (th := 0) (er := er) (row := row) (rf := rf) (sp := q.2.2.1) (ms := q.2.2.2.1) hsh hTK hn h0 (by omega) hm 100 0 (Nat.zero_le _) (by omega) (fun q z => absurd z (Nat.not_lt_zero q))) (fun o ho => ⟨fun j hj z => ?_, fun S' hS' hf' => ?_⟩)
      · rw [e] at z
        exact absurd z.symm (fun z => by have := x_m1n (a := j) (by omega); rw [this] at z; exact z)
      · rw [hS] at hS'
        cases hS'
        exact ⟨fun z => absurd z h4, fun _ => ho⟩
  · rw [e] at q1
    refine ok_f (by rw [q1]; exact nI_nlt (b := 0) (Nat.zero_le _) (by omega)) (ok_be (show g_X12_fails 0 1 = some (0, 1) from rfl) (ok_s ⟨fun j' hj' z => ⟨rfl, q1.trans (e.symm.trans z), rfl, rfl⟩, fun S hS hf => ?_⟩))
    have : eR (rd c m 0 rs0) = -1 := by
      unfold eR
      rw [hS]
      exact if_pos hf
    rw [this] at e
    exact absurd e.symm (fun z => by have := x_m1n (a := j) (by omega); rw [this] at z; exact z)
theorem op_write (hB : BR LS SE b s f) (hH : HA LS SE RA nx ch past pastF) (hq : bks nx = some a) (hR : RFR kp rs de hc ca cd rf) (hT : TXR le inp mt) {k : Nat} (hk : le = nI k) (hk6 : k ≤ 60) (hK : ke = er ∧ (ke = -1 ∨ 0 ≤ ke)) (hn : 0 < n4) (hn9 : n4 < 2147483648) :
    Ok (g_L_write LS SE n4 le ke ans tk st ms sp aL aD inp vs fs ks ps sq ls b.1 b.2.1 b.2.2.1 b.2.2.2.1 (nI nx) (nI ch) bks (RA nx).1 (RA nx).2.1 (RA nx).2.2.1 (RA nx).2.2.2.1 (RA nx).2.2.2.2.1 b.2.2.2.2.1 (RA nx).2.2.2.2.2.1 b.2.2.2.2.2.1 (RA nx).2.2.2.2.2.2.1 b.2.2.2.2.2.2.1 (RA nx).2.2.2.2.2.2.2.1 b.2.2.2.2.2.2.2.1 (RA nx).2.2.2.2.2.2.2.2.1 b.2.2.2.2.2.2.2.2.1 (RA nx).2.2.2.2.2.2.2.2.2.1 b.2.2.2.2.2.2.2.2.2.1 (RA nx).2.2.2.2.2.2.2.2.2.2.1 b.2.2.2.2.2.2.2.2.2.2.1 (RA nx).2.2.2.2.2.2.2.2.2.2.2 b.2.2.2.2.2.2.2.2.2.2.2 kp rs de hc a) (fun o => Ok (g_X12_write (nI ch) th le er mtk msp mms s be f beF row nu sg rf past pastF mt) (fun o' => AN ans o.1 o.2.2.2.1 o'.1 o'.2.2.1 ∧ (o.2.1 = 0 ∧ o'.2.2.2.1 = 0) ∧ (o.2.2.1 = o'.2.2.2.2.1 ∧ (o.2.2.1 = -1 ∨ 0 ≤ o.2.2.1)) ∧ NH LS SE RA nx (o.2.2.2.2.2.2.2.2.2.2.2.2.2.2.2.2.2.2.2.1, o.2.2.2.2.2.2.2.2.2.2.2.2.2.2.2.2.2.2.2.2.1, o.2.2.2.2.2.2.2.2.2.2.2.2.2.2.2.2.2.2.2.2.2.1, o.2.2.2.2.2.2.2.2.2.2.2.2.2.2.2.2.2.2.2.2.2.2.1, o.2.2.2.2.2.2.2.2.2.2.2.2.2.2.2.2.2.2.2.2.2.2.2.1, o.2.2.2.2.2.2.2.2.2.2.2.2.2.2.2.2.2.2.2.2.2.2.2.2.1, o.2.2.2.2.2.2.2.2.2.2.2.2.2.2.2.2.2.2.2.2.2.2.2.2.2.1, o.2.2.2.2.2.2.2.2.2.2.2.2.2.2.2.2.2.2.2.2.2.2.2.2.2.2.1, o.2.2.2.2.2.2.2.2.2.2.2.2.2.2.2.2.2.2.2.2.2.2.2.2.2.2.2.1, o.2.2.2.2.2.2.2.2.2.2.2.2.2.2.2.2.2.2.2.2.2.2.2.2.2.2.2.2.1, o.2.2.2.2.2.2.2.2.2.2.2.2.2.2.2.2.2.2.2.2.2.2.2.2.2.2.2.2.2.1, o.2.2.2.2.2.2.2.2.2.2.2.2.2.2.2.2.2.2.2.2.2.2.2.2.2.2.2.2.2.2.2.1) o.2.2.2.2.2.2.2.2.2.2.2.2.2.2.2.2.2.1 o.2.2.2.2.2.2.2.2.2.2.2.2.2.2.2.2.2.2.1 o'.2.1 o'.2.2.2.2.2.2.2.2.2.2.2.2.2.2.2.2.1 o'.2.2.2.2.2.2.2.2.2.2.2.2.2.2.2.2.2 ∧ RFR o.2.2.2.2.2.2.2.2.2.2.2.2.2.2.2.2.2.2.2.2.2.2.2.2.2.2.2.2.2.2.2.2.2.1 o.2.2.2.2.2.2.2.2.2.2.2.2.2.2.2.2.2.2.2.2.2.2.2.2.2.2.2.2.2.2.2.2.2.2.1 o.2.2.2.2.2.2.2.2.2.2.2.2.2.2.2.2.2.2.2.2.2.2.2.2.2.2.2.2.2.2.2.2.2.2.2.1 o.2.2.2.2.2.2.2.2.2.2.2.2.2.2.2.2.2.2.2.2.2.2.2.2.2.2.2.2.2.2.2.2.2.2.2.2 ca cd o'.2.2.2.2.2.2.2.2.2.2.2.2.2.2.2.1 ∧ (o.1 ≠ 0 → BR LS SE (b.1, o.2.2.2.2.2.2.2.2.2.2.2.2.2.2.2.2.1, b.2.2.1, b.2.2.2.1, b.2.2.2.2.1, b.2.2.2.2.2.1, b.2.2.2.2.2.2.1, b.2.2.2.2.2.2.2.1, b.2.2.2.2.2.2.2.2.1, b.2.2.2.2.2.2.2.2.2.1, o.2.2.2.2.2.2.2.2.2.2.2.2.2.2.2.2.2.2.2.2.2.2.2.2.2.2.2.2.2.2.1, o.2.2.2.2.2.2.2.2.2.2.2.2.2.2.2.2.2.2.2.2.2.2.2.2.2.2.2.2.2.2.2.2.1) o'.2.2.2.2.2.2.2.2.1 o'.2.2.2.2.2.2.2.2.2.2.1) ∧ (o.1 = 0 → ∀ a0, a0 ∉ LS → BR (a0 :: LS) (va_up SE a0 (nSV k inp o.2.2.2.2.1 o.2.2.2.2.2.1 o.2.2.2.2.2.2.1 o.2.2.2.2.2.2.2.2.2.2.2.1 o.2.2.2.2.2.2.2.2.2.2.2.2.1 o.2.2.2.2.2.2.2.2.2.2.1 o.2.2.2.2.2.2.2.2.2.2.2.2.2.1 o.2.2.2.2.2.2.2.2.2.2.2.2.2.2.2.1)) (b.1, o.2.2.2.2.2.2.2.2.2.2.2.2.2.2.2.2.1, b.2.2.1, b.2.2.2.1, b.2.2.2.2.1, b.2.2.2.2.2.1, b.2.2.2.2.2.2.1, b.2.2.2.2.2.2.2.1, b.2.2.2.2.2.2.2.2.1, b.2.2.2.2.2.2.2.2.2.1, va_up b.2.2.2.2.2.2.2.2.2.2.1 b.2.1.toNatClampNeg (some a0), o.2.2.2.2.2.2.2.2.2.2.2.2.2.2.2.2.2.2.2.2.2.2.2.2.2.2.2.2.2.2.2.2.1) o'.2.2.2.2.2.2.2.2.1 o'.2.2.2.2.2.2.2.2.2.2.1))) := by
  have hgc : inb 0 n4 = true := decide_eq_true ⟨by decide, by show (0 : Int) < n4; omega⟩
  obtain ⟨nc, ns, X, hBx⟩ := id hB
  obtain ⟨h6, h4, e1, e2, h0, h1, h2, h3, hX, hS, hTx⟩ := id hBx
  obtain ⟨htx, hbo⟩ := BR_tx hB
  obtain ⟨m, x, hm, hle, hx⟩ := hT
  have hmk : m = k := nI_inj (by omega) (by omega) (hle.symm.trans hk)
  subst hmk
  subst hk
  have hcc : ∀ j, (fun j => if j < m then x j else 0) j < 65536 := fun j => by
    by_cases h : j < m
    · show (if j < m then x j else 0) < 65536
      rw [if_pos h]; exact (hx j h).2.2
    · show (if j < m then x j else 0) < 65536
      rw [if_neg h]; decide
  have hin : ∀ j, j < m → inp j = nI ((fun j => if j < m then x j else 0) j) ∧ mt j = nI ((fun j => if j < m then x j else 0) j) := fun j hj => by
    show inp j = nI (if j < m then x j else 0) ∧ mt j = nI (if j < m then x j else 0)
    rw [if_pos hj]
    exact ⟨(hx j hj).1, (hx j hj).2.1⟩
  generalize (fun j => if j < m then x j else 0) = c at hcc hin
  clear hx
  obtain ⟨row', hrow, hw⟩ := wr_row (pm := nI ch) (th := th) (er := er) (mtk := mtk) (msp := msp) (mms := mms) (s := s) (be := be) (f := f) (beF := beF) (nu := nu) (sg := sg) (rf := rf) (past := past) (pastF := pastF) (mt := mt) hm 100 0 row (Nat.zero_le _) (by omega) (AG_z _ _)
  have hrow' : ∀ j, j < m → row' j = nI (c j) := fun j hj => (hrow j hj).trans (hin j hj).2
  have kD := k_doWrite (er := er) (mtk := mtk) (msp := msp) (mms := mms) (nu := nu) (sg := sg) (rf := rf) hm hcc hrow' h0 h1 h6 h4
  have hX12 : ∀ {P : Int32 × Int32 × Int32 × Int32 × Int32 × Int32 × Int32 × Int32 × (Nat → Int32) × (Nat → Int32) × (Nat → UInt32) × (Nat → UInt32) × (Nat → Int32) × (Nat → Int32) × (Nat → Int32) × (Nat → Int32) × (Nat → Int32) × (Nat → UInt32) → Prop}, Ok (gb (g_X12_keep th s be f beF) fun r1 => gb (g_X12_doWrite r1.1 er mtk msp mms row' nu sg s rf (nI m)) fun r2 => gb (g_X12_ends (nI ch) r2.2.1 past pastF r1.2.1 r2.2.2.2.2.2.2.2.2.1 r1.2.2 f r2.1) fun r3 => some (r3.1, r3.2.1, r2.2.1, 0, r2.2.2.1, r2.2.2.2.1, r2.2.2.2.2.1, r2.2.2.2.2.2.1, r3.2.2.2.2.1, r1.2.1, r3.2.2.2.2.2, r1.2.2, row', r2.2.2.2.2.2.2.1, r2.2.2.2.2.2.2.2.1, r2.2.2.2.2.2.2.2.2.2, r3.2.2.1, r3.2.2.2.1)) P → Ok (g_X12_write (nI ch) th (nI m) er mtk msp mms s be f beF row nu sg rf past pastF mt) P := by
    intro P hP
    unfold g_X12_write
    exact (congrArg (fun z => Ok z P) hw).mpr hP
  unfold g_L_write g_X11_write
  refine ba (ok_b (k_X6_errorIn (n := 60) (L := m) (p1 := inp) (c := c) hcc hm (by omega) (by omega) (fun i hi => (hin i hi).1) tk st ms sp aL aD vs fs ks ps sq ls) (fun r hr => ?_))
  obtain ⟨r1, r2⟩ := hr
  rcases eR_of (c := c) (m := m) with ⟨S, hSm, hf, e⟩ | ⟨j, hj, e⟩
  · rw [e] at r1
    have hXR := r2 S hSm
    obtain ⟨x1, x2, x3, x4, x5, x6, x7⟩ := hXR
    have hG := rd_GS m 0 rs0 GS_0 S hSm
    have hsh := GS_SH hG hf
    have hT24 := hsh.1
    by_cases n4' : ns = 4
    · refine bt r1 (bf (by rw [e2, n4']; decide) (bbe (show g_X7_keep kp rs de hc 1 b.2.1 = some (1, 1, b.2.1, 0) from rfl) (bs (ok_f (show ¬ (4 : Int32) = 0 by decide) (ok_f (show ¬ (4 : Int32) = 1 by decide) (ok_t rfl (ok_s ?_)))))))
      refine hX12 (ok_be (k_X12_keep th s be f beF) (ok_b kD (fun q hqq => ?_)))
      obtain ⟨w1, w2, w3, w4⟩ := (hqq.2 S hSm hf).1 n4'
      have hE : g_X12_ends (nI ch) q.2.1 past pastF (va_cpy s be 0 0 282) q.2.2.2.2.2.2.2.2.1 (va_cpy f beF 0 0 6) f q.1 = some (0, nI ch, past, pastF, va_cpy (va_cpy s be 0 0 282) s 0 0 282, va_cpy (va_cpy f beF 0 0 6) f 0 0 6) := by
        rw [w1, w3]; exact k_X12_endsF (show ¬ (2 : Int32) ≤ 0 by decide)
      refine ok_be hE (ok_s ⟨AN_n rfl w1, ⟨rfl, rfl⟩, ⟨hK.1.trans w2.symm, hK.2⟩, NH_self hH, ?_, fun _ => BR_back hB, fun z => absurd z (show ¬ (2 : Int32) = 0 by decide)⟩)
      show RFR 1 1 b.2.1 0 ca cd q.2.2.2.2.2.2.2.2.2
      rw [w4, e2, n4']
      exact RFR_keep (hc := 0) (show (1 : Int32) ≠ 0 by decide)
    · have hlt : ns < 4 := by omega
      refine bt r1 (bt (show b.2.1 < 4 by rw [e2]; exact nI_lt (b := 4) hlt (by omega)) ?_)
      have hpb := k6_pb (T := S.1) (k := S.2.1) (w := S.2.2.1) (nc := nc) (ks := r.2.2.2.2.2.2.2.2.2.1) (vs := r.2.2.2.2.2.2.2.1) hT24 h6 (fun p hp => (hsh.2.2 p hp).1) (fun p hp hk => by
        have hF := (hG.1 p hp).1
        unfold FSk at hF
        omega) (fun p hp => ⟨(x7.1 p hp).1, (x7.1 p hp).2.1⟩)
      rw [← e1, ← x1] at hpb
      refine ba (ok_b hpb (fun o ho => ?_))
      obtain ⟨z, hz, ez⟩ := ho
      cases z with
      | some p =>
        have hp : p < S.1 := hz.1
        refine bf (fun q => by
          rw [ez] at q
          have := x_m1n (a := p) (by omega)
          exact this.mp q) (bbe (show g_X7_keep kp rs de hc 5 o = some (1, 5, o, 0) from rfl) (bs (ok_f (show ¬ (4 : Int32) = 0 by decide) (ok_f (show ¬ (4 : Int32) = 1 by decide) (ok_t rfl (ok_s ?_))))))
        refine hX12 (ok_be (k_X12_keep th s be f beF) (ok_b kD (fun q hqq => ?_)))
        obtain ⟨z', hz', -, w⟩ := (hqq.2 S hSm hf).2 hlt
        have := PBS_one hz hz'
        subst this
        obtain ⟨w1, w2, w3, w4⟩ := w p rfl
        have hE : g_X12_ends (nI ch) q.2.1 past pastF (va_cpy s be 0 0 282) q.2.2.2.2.2.2.2.2.1 (va_cpy f beF 0 0 6) f q.1 = some (0, nI ch, past, pastF, va_cpy (va_cpy s be 0 0 282) s 0 0 282, va_cpy (va_cpy f beF 0 0 6) f 0 0 6) := by
          rw [w1, w3]; exact k_X12_endsF (show ¬ (2 : Int32) ≤ 0 by decide)
        refine ok_be hE (ok_s ⟨AN_n rfl w1, ⟨rfl, rfl⟩, ⟨hK.1.trans w2.symm, hK.2⟩, NH_self hH, ?_, fun _ => BR_back hB, fun z => absurd z (show ¬ (2 : Int32) = 0 by decide)⟩)
        show RFR 1 5 o 0 ca cd q.2.2.2.2.2.2.2.2.2
        rw [w4, ez]
        exact RFR_keep (hc := 0) (show (5 : Int32) ≠ 0 by decide)
      | none =>
        have hpd : g_X0_putDown b.2.1 b.2.2.2.2.2.2.2.2.2.2.1 b.2.2.2.2.2.2.2.2.2.2.2 0 = some (nI ns, nI (ns + 1), va_up b.2.2.2.2.2.2.2.2.2.2.1 ns (some 0), upd b.2.2.2.2.2.2.2.2.2.2.2 ns 0) := by
          unfold g_X0_putDown
          rw [e2, if_neg (show ¬ nI ns < 0 from nI_nlt (b := 0) (Nat.zero_le _) (by omega)), if_pos (show nI ns < 4 from nI_lt (b := 4) hlt (by omega)), e_gl, e_gc (x_inb hlt (by omega)), e_gc (x_inb hlt (by omega)), x_cl (by omega), nI_1]
        refine bt ez ?_
        refine ba (ok_b (k_X4_remember (LS := LS) (SE := SE) htx hbo (RA nx) hH.1 hH.2.1 hq) (fun r' hr' => bbe hpd (bs (ok_t rfl (ok_c hgc (ok_s ?_))))))
        refine hX12 (ok_be (k_X12_keep th s be f beF) (ok_b kD (fun q hqq => ?_)))
        obtain ⟨z', hz', w, -⟩ := (hqq.2 S hSm hf).2 hlt
        have := PBS_one hz hz'
        subst this
        obtain ⟨w0, w1, w2, w3, w4⟩ := w rfl
        obtain ⟨past', pastF', hE1, hE2⟩ := HA_push (s := sWr s row' ns (nI m)) (f := f) hH (BR_keep (be := be) (beF := beF) hB) hr'.2.2 (nI ns)
        have hE : g_X12_ends (nI ch) q.2.1 past pastF (va_cpy s be 0 0 282) q.2.2.2.2.2.2.2.2.1 (va_cpy f beF 0 0 6) f q.1 = some (nI ns, nI (if ch = 6 then 6 else ch + 1), past', pastF', sWr s row' ns (nI m), f) := by
          rw [w0, w1, w3]; exact hE1
        have hrT : rT (m, c) = S := by
          show ((rd c m 0 rs0).2).getD rs0 = S
          rw [hSm]; rfl
        have hOK : OKT nc (m, c) := by
          refine ⟨hm, hcc, ?_, ?_, ?_⟩
          · rw [hrT]; exact hSm
          · rw [hrT]; exact hf
          · rw [hrT]
            intro p hp hk
            have := hz p hp
            unfold LB at this
            omega
        refine ok_be hE (ok_s ⟨AN_y rfl w1, ⟨rfl, rfl⟩, ⟨hK.1.trans w2.symm, hK.2⟩, ⟨_, _, hr'.1, hr'.2.1, rfl, hE2, Or.inr rfl⟩, ?_, fun z => absurd rfl z, fun _ a0 ha0 => ?_⟩)
        · show RFR kp rs de hc ca cd q.2.2.2.2.2.2.2.2.2
          rw [w4]; exact hR
        · have hv : SPC (a0 :: LS) (va_up SE a0 (nSV m inp r.2.1 r.2.2.1 r.2.2.2.1 r.2.2.2.2.2.2.2.2.1 r.2.2.2.2.2.2.2.2.2.1 r.2.2.2.2.2.2.2.1 r.2.2.2.2.2.2.2.2.2.2.1 r.2.2.2.2.2.2.2.2.2.2.2.2)) a0 (m, c) := by
            unfold SPC
            rw [x_as, hrT]
            refine ⟨decide_eq_true List.mem_cons_self, rfl, fun j hj => (nSV_t hm hj).trans (hin j hj).1, ?_, x2, x3, fun p hp => (x7.1 p hp).2.2.1, fun p hp => ?_⟩
            · rw [x1]; exact tk_of hT24
            · obtain ⟨y1, y2, y3, y4, y5, y6, y7, y8⟩ := x7.1 p hp
              exact ⟨y1, y2, y7, y8⟩
          have := BR_wr hBx hlt ha0 hOK hv hrow'
          rw [e2, x_cl (a := ns) (by omega)]
          exact this
  · rw [e] at r1
    refine bf (fun q => by
      rw [r1] at q
      have := x_m1n (a := j) (by omega)
      exact this.mp q) (bs (ok_f (show ¬ (1 : Int32) = 0 by decide) (ok_t rfl (ok_s ?_))))
    refine hX12 (ok_be (k_X12_keep th s be f beF) (ok_b kD (fun q hqq => ?_)))
    obtain ⟨w1, w2, w3, w4⟩ := hqq.1 j hj e
    have hE : g_X12_ends (nI ch) q.2.1 past pastF (va_cpy s be 0 0 282) q.2.2.2.2.2.2.2.2.1 (va_cpy f beF 0 0 6) f q.1 = some (0, nI ch, past, pastF, va_cpy (va_cpy s be 0 0 282) s 0 0 282, va_cpy (va_cpy f beF 0 0 6) f 0 0 6) := by
      rw [w1, w3]; exact k_X12_endsF (show ¬ (1 : Int32) ≤ 0 by decide)
    refine ok_be hE (ok_s ⟨AN_n rfl w1, ⟨rfl, rfl⟩, ⟨r1.trans w2.symm, Or.inr ?_⟩, NH_self hH, ?_, fun _ => BR_back hB, fun z => absurd z (show ¬ (1 : Int32) = 0 by decide)⟩)
    · show 0 ≤ r.1
      rw [r1]; exact nI_le (a := 0) (Nat.zero_le _) (by omega)
    · show RFR kp rs de hc ca cd q.2.2.2.2.2.2.2.2.2
      rw [w4]; exact hR
end WRT
