/-! WRITE: the reader and the book (gen/chg4.py; class rows of the whole claim) -/
/-- if it comes to an end, then with a property -/
def Aft {α : Type} (m : Option α) (P : α → Prop) : Prop := ∀ r, m = some r → P r
section AFT
variable {α β : Type} {P : α → Prop} {R : β → Prop}
theorem af_s {x : α} (h : P x) : Aft (some x) P := fun r e => by cases e; exact h
theorem af_n : Aft (none : Option α) P := fun r e => by cases e
theorem af_c {b : Bool} {k : Option α} (h : Aft k P) : Aft (gc b k) P := fun r e => h r (gc_some e).2
theorem af_l {a : β} {k : β → Option α} (h : Aft (k a) P) : Aft (gl a k) P := h
theorem af_b {o : Option β} {k : β → Option α} (h : Aft o R) (hk : ∀ x, R x → Aft (k x) P) : Aft (gb o k) P := fun r e => by
  obtain ⟨x, e1, e2⟩ := gb_some e
  exact hk x (h x e1) r e2
theorem af_bt {o : Option β} {k : β → Option α} (hk : ∀ x, Aft (k x) P) : Aft (gb o k) P := fun r e => by
  obtain ⟨x, e1, e2⟩ := gb_some e
  exact hk x r e2
theorem af_i {c : Prop} [Decidable c] {x y : Option α} (ht : Aft x P) (hf : Aft y P) : Aft (if c then x else y) P := by
  by_cases hc : c
  · rw [if_pos hc]; exact ht
  · rw [if_neg hc]; exact hf
end AFT
def FC (f : Nat → Int32) : Prop := ∀ j, j < 24 → fits .char (.int (f j)) = true
section AFW
variable {fs ks vs ps sq ls p1 : Nat → Int32} {tk st ms sp aL aD q c v a1 a2 : Int32}
theorem FC_up {fs : Nat → Int32} (h : FC fs) (t : Nat) (c : Int32) : FC (upd fs t (vp_nar .char c)) := fun j hj => by
  by_cases e : j = t
  · rw [e, x_us]; exact fits_narrow_char c
  · rw [x_un e]; exact h j hj
theorem af_fitsToken (h : FC fs) : Aft (g_X6_fitsToken tk ms sp fs ks vs ps sq ls q c v a1 a2) (fun r => FC r.2.2.2.2.1) := by
  unfold g_X6_fitsToken g_X6_fitsToken_b102 g_X6_fitsToken_b132 g_X6_fitsToken_b151
  have h2 : FC (upd fs tk.toNatClampNeg (vp_nar .char c)) := FC_up h _ c
  exact af_l (af_i (af_s h) (af_i (af_s h) (af_i (af_c (af_c (af_c (af_i (af_c (af_i (af_c (af_i (af_l (af_l (af_s h2))) (af_c (af_l (af_l (af_s h2)))))) (af_c (af_c (af_i (af_l (af_l (af_s h2))) (af_c (af_l (af_l (af_s h2))))))))) (af_c (af_c (af_i (af_c (af_i (af_l (af_l (af_s h2))) (af_c (af_l (af_l (af_s h2)))))) (af_c (af_c (af_i (af_l (af_l (af_s h2))) (af_c (af_l (af_l (af_s h2)))))))))))))) (af_s h))))
theorem af_fitsStore (h : FC fs) : Aft (g_X6_fitsStore tk st ms sp fs ks vs ps sq ls c) (fun r => FC r.2.2.2.2.2.1) := by
  unfold g_X6_fitsStore
  exact af_l (af_b (af_fitsToken h) (fun r hr => af_c (af_s hr)))
theorem af_b53 (h : FC fs) : Aft (g_X6_fitsDigit_b53 tk ms sp vs fs ks ps sq ls c v) (fun r => FC r.2.2.2.2.2.2.1) := by
  unfold g_X6_fitsDigit_b53
  exact (af_b (af_fitsToken h) (fun r hr => af_c (af_s hr)))
theorem af_fitsDigit (h : FC fs) : Aft (g_X6_fitsDigit tk ms sp aD vs fs ks ps sq ls c) (fun r => FC r.2.2.2.2.2.2.1) := by
  unfold g_X6_fitsDigit
  exact af_l (af_l (af_i (af_b53 h) (af_i (af_b53 h) (af_i (af_b53 h) (af_c (af_c (af_s h)))))))
theorem af_b55 (h : FC fs) : Aft (g_X6_fits_b55 tk st ms sp aL vs fs ks ps sq ls c) (fun r => FC r.2.2.2.2.2.2.2.2.1) := by
  unfold g_X6_fits_b55
  exact af_bt (fun _ => af_i (af_i (af_b (af_fitsToken h) (fun r hr => af_c (af_s hr))) (af_i (af_b (af_fitsToken h) (fun r hr => af_c (af_s hr))) (af_i (af_b (af_fitsToken h) (fun r hr => af_c (af_s hr))) (af_i (af_b (af_fitsToken h) (fun r hr => af_c (af_s hr))) (af_i (af_i (af_s h) (af_s h)) (af_i (af_b (af_fitsToken h) (fun r hr => af_c (af_s hr))) (af_s h))))))) (af_b (af_fitsToken h) (fun r hr => af_c (af_s hr))))
theorem af_fits (h : FC fs) : Aft (g_X6_fits tk st ms sp aL aD vs fs ks ps sq ls c) (fun r => FC r.2.2.2.2.2.2.2.2.1) := by
  unfold g_X6_fits
  exact af_i (af_i (af_b55 h) (af_i (af_b55 h) (af_b (af_fitsDigit h) (fun r hr => af_c (af_s hr))))) (af_bt (fun _ => af_i (af_s h) (af_b (af_fitsStore h) (fun r hr => af_i (af_s hr) (af_s hr)))))
theorem af_b40 {n9 : Nat} {x3 : Int32} : ∀ (n : Nat) (fs ks ls ps sq vs : Nat → Int32) (tk st aL aD ms sp x4 : Int32), FC fs → Aft (g_X6_errorIn_b40 n9 p1 n fs ks ls ps sq vs tk st aL aD ms sp x3 x4) (fun r => FC r.2.2.2.2.2.2.2.2.1)
  | 0, _, _, _, _, _, _, _, _, _, _, _, _, _, _ => af_n
  | n + 1, fs, ks, ls, ps, sq, vs, tk, st, aL, aD, ms, sp, x4, h => by
    unfold g_X6_errorIn_b40
    exact af_i (af_i (af_s h) (af_i (af_i (af_s h) (af_s h)) (af_s h))) (af_c (af_b (af_fits h) (fun r hr => af_i (af_s hr) (af_l (af_b40 n _ _ _ _ _ _ _ _ _ _ _ _ _ hr)))))
theorem af_errorIn {n9 : Nat} (h : FC fs) : ∀ r, g_X6_errorIn n9 tk st ms sp aL aD p1 vs fs ks ps sq ls c = some r → FC r.2.2.2.2.2.2.2.2.1 := by
  unfold g_X6_errorIn
  exact af_l (af_b40 _ _ _ _ _ _ _ _ _ _ _ _ _ _ h)
end AFW
section MORE
variable {LS : List Nat} {SE : Nat → SV} {a0 a : Nat} {v : SV} {x : TX}
theorem inl_up (h : inl9 LS a = true) : inl9 (a0 :: LS) a = true := decide_eq_true (List.mem_cons_of_mem _ (inl9_in h))
theorem oin_up {r : Option Nat} (h : oin9 LS r = true) : oin9 (a0 :: LS) r = true := by
  cases r with
  | none => rfl
  | some y => exact decide_eq_true (List.mem_cons_of_mem _ (oin9_in h y rfl))
theorem SPC_up (h : SPC LS SE a x) (h0 : a0 ∉ LS) : SPC (a0 :: LS) (va_up SE a0 v) a x := by
  have hm := inl9_in h.1
  have e : va_up SE a0 v a = SE a := x_an (fun z => h0 (z ▸ hm))
  unfold SPC
  rw [e]
  exact ⟨inl_up h.1, h.2⟩
theorem SX_up {nc ns : Nat} {X : Nat → TX} {tx : Nat → Option Nat} {cc s : Nat → Int32} (h : SX LS SE nc ns X tx cc s) (h0 : a0 ∉ LS) : SX (a0 :: LS) (va_up SE a0 v) nc ns X tx cc s :=
  ⟨fun i hi => by
    obtain ⟨⟨a, a1, a2⟩, a3⟩ := h.1 i hi
    exact ⟨⟨a, a1, SPC_up a2 h0⟩, a3⟩, fun i hi => oin_up (h.2 i hi)⟩
theorem SI_up (h : SI LS SE) (h0 : a0 ∉ LS) (hv : v.1 ≤ 60 ∧ ∀ j, j < v.1 → ∃ ch, ch < 128 ∧ v.2.1 j = nI ch) : SI (a0 :: LS) (va_up SE a0 v) := fun y hy => by
  rcases List.mem_cons.mp hy with e | e
  · subst e
    rw [x_as]; exact hv
  · rw [x_an (show y ≠ a0 from fun z => h0 (z ▸ e))]
    exact h y e
theorem BOK_up {B : BB} (h : BOK LS SE B) (h0 : a0 ∉ LS) : BOK (a0 :: LS) (va_up SE a0 v) B := ⟨h.1, h.2.1, h.2.2.1, h.2.2.2.1, h.2.2.2.2.1, SX_up h.2.2.2.2.2 h0⟩
theorem HIo_up {RAd : Nat → Nat → Nat} {bR : Nat → BK} {bks : Nat → Option Nat} {nx ch : Int32} {c9 : Nat} {past : Nat → BB} (h : HIo LS SE RAd bR bks nx ch c9 past) (h0 : a0 ∉ LS) : HIo (a0 :: LS) (va_up SE a0 v) RAd bR bks nx ch c9 past := ⟨h.1, h.2.1, h.2.2.1, fun r hr => ⟨(h.2.2.2 r hr).1, BOK_up (h.2.2.2 r hr).2 h0⟩⟩
theorem BOK_wr {B : BB} (h : BOK LS SE B) (hn : B.2.2.1 < 4) (h0 : a0 ∉ LS) (hx : OKT B.2.1 x) (hv : SPC (a0 :: LS) (va_up SE a0 v) a0 x) {b' : BK} (e1 : b'.1 = B.1.1) (e2 : b'.2.1 = nI (B.2.2.1 + 1)) (ek : b'.2.2.2.2.2.2.1 = B.1.2.2.2.2.2.2.1) (el : b'.2.2.2.2.2.2.2.1 = B.1.2.2.2.2.2.2.2.1) (eh : b'.2.2.2.2.2.2.2.2.1 = B.1.2.2.2.2.2.2.2.2.1) (em : b'.2.2.2.2.1 = B.1.2.2.2.2.1) (eu : b'.2.2.2.2.2.1 = B.1.2.2.2.2.2.1) (et : b'.2.2.2.2.2.2.2.2.2.2.1 = va_up B.1.2.2.2.2.2.2.2.2.2.2.1 B.2.2.1 (some a0)) : BOK (a0 :: LS) (va_up SE a0 v) (b', B.2.1, B.2.2.1 + 1, fun i => if i = B.2.2.1 then x else B.2.2.2 i) := by
  obtain ⟨h6, h4, g1, g2, hX, hT⟩ := h
  refine ⟨h6, hn, e1.trans g1, e2, ?_, fun i hi => ?_, fun i hi => ?_⟩
  · show CX b'.2.2.2.2.2.2.1 b'.2.2.2.2.2.2.2.1 b'.2.2.2.2.2.2.2.2.1 b'.2.2.2.2.1 b'.2.2.2.2.2.1
    rw [ek, el, eh, em, eu]
    exact hX
  · have hi : i < B.2.2.1 + 1 := hi
    show (∃ a, b'.2.2.2.2.2.2.2.2.2.2.1 i = some a ∧ SPC (a0 :: LS) (va_up SE a0 v) a (if i = B.2.2.1 then x else B.2.2.2 i)) ∧ OKT B.2.1 (if i = B.2.2.1 then x else B.2.2.2 i) ∧ True ∧ True
    rw [et]
    by_cases z : i = B.2.2.1
    · rw [z, x_as, if_pos rfl]
      exact ⟨⟨a0, rfl, hv⟩, hx, trivial, trivial⟩
    · rw [x_an z, if_neg z]
      obtain ⟨⟨y, y1, y2⟩, y3, y4⟩ := hT.1 i (by omega)
      exact ⟨⟨y, y1, SPC_up y2 h0⟩, y3, y4⟩
  · show oin9 (a0 :: LS) (b'.2.2.2.2.2.2.2.2.2.2.1 i) = true
    rw [et]
    by_cases z : i = B.2.2.1
    · rw [z, x_as]; exact decide_eq_true List.mem_cons_self
    · rw [x_an z]; exact oin_up (hT.2 i hi)
theorem PL_cg {cT : Nat → ClassId} {sq sq' : Nat → Nat → Nat} {SE' : Nat → SV} : ∀ (M : List Nat), (∀ a, a ∈ M → spc cT sq' SE' a = spc cT sq SE a) → PL cT sq' SE' M = PL cT sq SE M
  | [], _ => rfl
  | b :: M, h => by
    have e : PL cT sq' SE' (b :: M) = spc cT sq' SE' b ++ PL cT sq' SE' M := rfl
    have e2 : PL cT sq SE (b :: M) = spc cT sq SE b ++ PL cT sq SE M := rfl
    rw [e, e2, h b List.mem_cons_self, PL_cg M (fun a ha => h a (List.mem_cons_of_mem _ ha))]
theorem PL_up {cT : Nat → ClassId} {sq : Nat → Nat → Nat} {f : Nat → Nat} (h0 : a0 ∉ LS) : PL cT (va_up sq a0 f) (va_up SE a0 v) (a0 :: LS) = spc cT (fun _ => f) (fun _ => v) a0 ++ PL cT sq SE LS := by
  have e : PL cT (va_up sq a0 f) (va_up SE a0 v) (a0 :: LS) = spc cT (va_up sq a0 f) (va_up SE a0 v) a0 ++ PL cT (va_up sq a0 f) (va_up SE a0 v) LS := rfl
  rw [e, PL_cg (sq := sq) (SE := SE) LS (fun a ha => by
    unfold spc
    rw [x_an (show a ≠ a0 from fun z => h0 (z ▸ ha)), x_an (show a ≠ a0 from fun z => h0 (z ▸ ha))])]
  congr 1
  unfold spc
  rw [x_as, x_as]
end MORE
theorem cpy_in9 {α : Type} {f g : Nat → α} {n k : Nat} (h : k < n) : va_cpy f g 0 0 n k = f k := by
  show (if 0 ≤ k ∧ k < 0 + n then f (0 + (k - 0)) else g k) = f k
  rw [if_pos ⟨Nat.zero_le _, by omega⟩, Nat.zero_add, Nat.sub_zero]
def nSV (k : Nat) (inp : Nat → Int32) (tk st ms : Int32) (fs ks vs ps ls : Nat → Int32) : SV := (k, va_cpy inp (fun _ => 0) (0 : Int32).toNatClampNeg (0 : Int32).toNatClampNeg (nI k).toNatClampNeg, (if (0 : Int32) < (if 24 < tk then 24 else tk) then (if 24 < tk then 24 else tk) else (0 : Int32)), st, ms, fs, ks, vs, ps, ls)
theorem nSV_t {k : Nat} (hk : k ≤ 60) {inp : Nat → Int32} {j : Nat} (hj : j < k) : va_cpy inp (fun _ => 0) (0 : Int32).toNatClampNeg (0 : Int32).toNatClampNeg (nI k).toNatClampNeg j = inp j := by
  rw [x_cl (a := k) (by omega)]
  exact cpy_in9 hj
theorem tk_of {t : Nat} (h : t ≤ 24) : (if (0 : Int32) < (if 24 < nI t then 24 else nI t) then (if 24 < nI t then 24 else nI t) else (0 : Int32)) = nI t := by
  have e : (if 24 < nI t then (24 : Int32) else nI t) = nI t := if_neg (show ¬ nI 24 < nI t from nI_nlt h (by omega))
  rw [e]
  by_cases h0 : t = 0
  · subst h0; rfl
  · exact if_pos (show nI 0 < nI t from nI_lt (by omega) (by omega))
theorem rd_le {c : Nat → Nat} : ∀ m j S, (rd c m j S).1 ≤ j + m
  | 0, j, S => Nat.le_refl _
  | m + 1, j, S => by
    cases hx : nx S (c j) with
    | none => rw [rd_none hx]; exact Nat.le_add_right _ _
    | some S' => rw [rd_some hx]; have := rd_le (c := c) m (j + 1) S'; omega
theorem eR_of {c : Nat → Nat} {m : Nat} : (∃ S, (rd c m 0 rs0).2 = some S ∧ fin S = true ∧ eR (rd c m 0 rs0) = -1) ∨ (∃ j, j ≤ m ∧ eR (rd c m 0 rs0) = nI j) := by
  have hl := rd_le (c := c) m 0 rs0
  have h : ∀ r : Nat × Option RS, r.1 ≤ 0 + m → (∃ S, r.2 = some S ∧ fin S = true ∧ eR r = -1) ∨ (∃ j, j ≤ m ∧ eR r = nI j) := by
    intro r hr
    obtain ⟨j, o⟩ := r
    have hr : j ≤ 0 + m := hr
    cases o with
    | none => exact Or.inr ⟨j, by omega, rfl⟩
    | some S =>
      by_cases hf : fin S = true
      · exact Or.inl ⟨S, rfl, hf, if_pos hf⟩
      · exact Or.inr ⟨j, by omega, if_neg hf⟩
  exact h _ hl
theorem fits_c9 {c : Nat} (h : c < 65536) : fits .char (.int (nI c)) = true := (pk_charN h).2
theorem wr_nn {LS : List Nat} {SE : Nat → SV} {B : BB} {nx ch : Nat} {bks : Nat → Option Nat} {q : BK} {a : Nat} {inputLength : Int32} {keptError : Int32} {reader_tokens : Int32} {reader_stores : Int32} {reader_mostSpoons : Int32} {reader_spoons : Int32} {reader_awaitsLetter : Int32} {reader_awaitsDigit : Int32} {input : Nat → Int32} {reader_values : Nat → Int32} {reader_firsts : Nat → Int32} {reader_kinds : Nat → Int32} {reader_parts : Nat → Int32} {reader_spoonPlaces : Nat → Int32} {reader_lastParts : Nat → Int32} {refusal_isKept : Int32} {refusal_reason : Int32} {refusal_detail : Int32} {refusal_hasCause : Int32} (h0 : ¬ B.1.2.1 < 0) : Aft (g_X11_write LS SE inputLength keptError reader_tokens reader_stores reader_mostSpoons reader_spoons reader_awaitsLetter reader_awaitsDigit input reader_values reader_firsts reader_kinds reader_parts reader_spoonPlaces reader_lastParts B.1.1 B.1.2.1 B.1.2.2.1 B.1.2.2.2.1 (nI nx) (nI ch) bks q.1 q.2.1 q.2.2.1 q.2.2.2.1 q.2.2.2.2.1 B.1.2.2.2.2.1 q.2.2.2.2.2.1 B.1.2.2.2.2.2.1 q.2.2.2.2.2.2.1 B.1.2.2.2.2.2.2.1 q.2.2.2.2.2.2.2.1 B.1.2.2.2.2.2.2.2.1 q.2.2.2.2.2.2.2.2.1 B.1.2.2.2.2.2.2.2.2.1 q.2.2.2.2.2.2.2.2.2.1 B.1.2.2.2.2.2.2.2.2.2.1 q.2.2.2.2.2.2.2.2.2.2.1 B.1.2.2.2.2.2.2.2.2.2.2.1 q.2.2.2.2.2.2.2.2.2.2.2 B.1.2.2.2.2.2.2.2.2.2.2.2 refusal_isKept refusal_reason refusal_detail refusal_hasCause a) (fun r => r.1 = 0 → ¬ r.2.1 < 0) := by
  unfold g_X11_write
  refine af_bt (fun r1 => af_i ?_ (af_s (fun z => absurd z (show ¬ (1 : Int32) = 0 by decide))))
  by_cases h4 : B.1.2.1 < 4
  · rw [if_pos h4]
    refine af_bt (fun r2 => af_i (af_bt (fun r3 => af_b (R := fun r4 => r4.1 = B.1.2.1) ?_ (fun r4 h => af_s (fun _ => by rw [show _ = _ from h]; exact h0)))) (af_bt (fun _ => af_s (fun z => absurd z (show ¬ (4 : Int32) = 0 by decide)))))
    unfold g_X0_putDown
    rw [if_neg h0, if_pos h4]
    exact af_l (af_c (af_c (af_s rfl)))
  · rw [if_neg h4]
    exact af_bt (fun _ => af_s (fun z => absurd z (show ¬ (4 : Int32) = 0 by decide)))
theorem kp_L_writes {LS : List Nat} {SE : Nat → SV} {B : BB} {nx ch : Nat} {bks : Nat → Option Nat} {q : BK} {a : Nat} {inputLength : Int32} {keptError : Int32} {reader_tokens : Int32} {reader_stores : Int32} {reader_mostSpoons : Int32} {reader_spoons : Int32} {reader_awaitsLetter : Int32} {reader_awaitsDigit : Int32} {input : Nat → Int32} {reader_values : Nat → Int32} {reader_firsts : Nat → Int32} {reader_kinds : Nat → Int32} {reader_parts : Nat → Int32} {reader_spoonPlaces : Nat → Int32} {reader_lastParts : Nat → Int32} {refusal_isKept : Int32} {refusal_reason : Int32} {refusal_detail : Int32} {refusal_hasCause : Int32} {inp : List Nat} (hB : BOK LS SE B) (hn : nx < 6) (hc : ch ≤ 6) (hq : bks nx = some a) (hL : inp.length ≤ 60) (hlen : inputLength = nI inp.length) (hin : ∀ j, j < inp.length → input j = nI (inp.getD j 0) ∧ inp.getD j 0 < 128) (hFC : FC reader_firsts) : Ok (g_L_writes LS SE inputLength keptError reader_tokens reader_stores reader_mostSpoons reader_spoons reader_awaitsLetter reader_awaitsDigit input reader_values reader_firsts reader_kinds reader_parts reader_spoonPlaces reader_lastParts B.1.1 B.1.2.1 B.1.2.2.1 B.1.2.2.2.1 (nI nx) (nI ch) bks q.1 q.2.1 q.2.2.1 q.2.2.2.1 q.2.2.2.2.1 B.1.2.2.2.2.1 q.2.2.2.2.2.1 B.1.2.2.2.2.2.1 q.2.2.2.2.2.2.1 B.1.2.2.2.2.2.2.1 q.2.2.2.2.2.2.2.1 B.1.2.2.2.2.2.2.2.1 q.2.2.2.2.2.2.2.2.1 B.1.2.2.2.2.2.2.2.2.1 q.2.2.2.2.2.2.2.2.2.1 B.1.2.2.2.2.2.2.2.2.2.1 q.2.2.2.2.2.2.2.2.2.2.1 B.1.2.2.2.2.2.2.2.2.2.2.1 q.2.2.2.2.2.2.2.2.2.2.2 B.1.2.2.2.2.2.2.2.2.2.2.2 refusal_isKept refusal_reason refusal_detail refusal_hasCause a) (fun o => (o.2.1 = 0 ∧ FC o.2.2.2.2.2.2.2.2.2.2.1) ∧ ((¬ (OKT B.2.1 (tx9 inp) ∧ B.2.2.1 < 4) ∧ o.1 < 0 ∧ KEEP9 nx ch q B.1 o.2.2.2.2.2.2.2.2.2.2.2.2.2.2.2.2.1 o.2.2.2.2.2.2.2.2.2.2.2.2.2.2.2.2.2.1 (o.2.2.2.2.2.2.2.2.2.2.2.2.2.2.2.2.2.2.1, o.2.2.2.2.2.2.2.2.2.2.2.2.2.2.2.2.2.2.2.1, o.2.2.2.2.2.2.2.2.2.2.2.2.2.2.2.2.2.2.2.2.1, o.2.2.2.2.2.2.2.2.2.2.2.2.2.2.2.2.2.2.2.2.2.1, o.2.2.2.2.2.2.2.2.2.2.2.2.2.2.2.2.2.2.2.2.2.2.1, o.2.2.2.2.2.2.2.2.2.2.2.2.2.2.2.2.2.2.2.2.2.2.2.1, o.2.2.2.2.2.2.2.2.2.2.2.2.2.2.2.2.2.2.2.2.2.2.2.2.1, o.2.2.2.2.2.2.2.2.2.2.2.2.2.2.2.2.2.2.2.2.2.2.2.2.2.1, o.2.2.2.2.2.2.2.2.2.2.2.2.2.2.2.2.2.2.2.2.2.2.2.2.2.2.1, o.2.2.2.2.2.2.2.2.2.2.2.2.2.2.2.2.2.2.2.2.2.2.2.2.2.2.2.1, o.2.2.2.2.2.2.2.2.2.2.2.2.2.2.2.2.2.2.2.2.2.2.2.2.2.2.2.2.1, o.2.2.2.2.2.2.2.2.2.2.2.2.2.2.2.2.2.2.2.2.2.2.2.2.2.2.2.2.2.2.1) (B.1.1, o.2.2.2.2.2.2.2.2.2.2.2.2.2.2.2.1, B.1.2.2.1, B.1.2.2.2.1, B.1.2.2.2.2.1, B.1.2.2.2.2.2.1, B.1.2.2.2.2.2.2.1, B.1.2.2.2.2.2.2.2.1, B.1.2.2.2.2.2.2.2.2.1, B.1.2.2.2.2.2.2.2.2.2.1, o.2.2.2.2.2.2.2.2.2.2.2.2.2.2.2.2.2.2.2.2.2.2.2.2.2.2.2.2.2.1, o.2.2.2.2.2.2.2.2.2.2.2.2.2.2.2.2.2.2.2.2.2.2.2.2.2.2.2.2.2.2.2.1)) ∨ ((OKT B.2.1 (tx9 inp) ∧ B.2.2.1 < 4) ∧ o.1 = nI B.2.2.1 ∧ PUSH9 nx ch B.1 o.2.2.2.2.2.2.2.2.2.2.2.2.2.2.2.2.1 o.2.2.2.2.2.2.2.2.2.2.2.2.2.2.2.2.2.1 (o.2.2.2.2.2.2.2.2.2.2.2.2.2.2.2.2.2.2.1, o.2.2.2.2.2.2.2.2.2.2.2.2.2.2.2.2.2.2.2.1, o.2.2.2.2.2.2.2.2.2.2.2.2.2.2.2.2.2.2.2.2.1, o.2.2.2.2.2.2.2.2.2.2.2.2.2.2.2.2.2.2.2.2.2.1, o.2.2.2.2.2.2.2.2.2.2.2.2.2.2.2.2.2.2.2.2.2.2.1, o.2.2.2.2.2.2.2.2.2.2.2.2.2.2.2.2.2.2.2.2.2.2.2.1, o.2.2.2.2.2.2.2.2.2.2.2.2.2.2.2.2.2.2.2.2.2.2.2.2.1, o.2.2.2.2.2.2.2.2.2.2.2.2.2.2.2.2.2.2.2.2.2.2.2.2.2.1, o.2.2.2.2.2.2.2.2.2.2.2.2.2.2.2.2.2.2.2.2.2.2.2.2.2.2.1, o.2.2.2.2.2.2.2.2.2.2.2.2.2.2.2.2.2.2.2.2.2.2.2.2.2.2.2.1, o.2.2.2.2.2.2.2.2.2.2.2.2.2.2.2.2.2.2.2.2.2.2.2.2.2.2.2.2.1, o.2.2.2.2.2.2.2.2.2.2.2.2.2.2.2.2.2.2.2.2.2.2.2.2.2.2.2.2.2.2.1) ∧ o.2.2.2.2.2.2.2.2.2.2.2.2.2.2.2.1 = nI (B.2.2.1 + 1) ∧ o.2.2.2.2.2.2.2.2.2.2.2.2.2.2.2.2.2.2.2.2.2.2.2.2.2.2.2.2.2.2.2.1 = upd B.1.2.2.2.2.2.2.2.2.2.2.2 B.2.2.1 0 ∧ ∀ a0, a0 ∉ LS → SPC (a0 :: LS) (va_up SE a0 (nSV inp.length input o.2.2.2.1 o.2.2.2.2.1 o.2.2.2.2.2.1 o.2.2.2.2.2.2.2.2.2.2.1 o.2.2.2.2.2.2.2.2.2.2.2.1 o.2.2.2.2.2.2.2.2.2.1 o.2.2.2.2.2.2.2.2.2.2.2.2.1 o.2.2.2.2.2.2.2.2.2.2.2.2.2.2.1)) a0 (tx9 inp)))) := by
  obtain ⟨h6, h4, e1, e2, hX, hT⟩ := id hB
  obtain ⟨htx, hbo⟩ := BOK_tx hB
  subst hlen
  have hall : ∀ j, (fun j => inp.getD j 0) j < 65536 := fun j => by
    show inp.getD j 0 < 65536
    by_cases h : j < inp.length
    · have := (hin j h).2; omega
    · rw [List.getD_eq_getElem?_getD, List.getElem?_eq_none (by omega)]; decide
  have hnot : ∀ {j : Nat}, j ≤ inp.length → eR (rd (fun j => inp.getD j 0) inp.length 0 rs0) = nI j → ¬ (OKT B.2.1 (tx9 inp) ∧ B.2.2.1 < 4) := fun {j} hj e z => by
    have h1 : (rd (fun j => inp.getD j 0) inp.length 0 rs0).2 = some (rT (tx9 inp)) := z.1.2.2.1
    have : eR (rd (fun j => inp.getD j 0) inp.length 0 rs0) = -1 := by
      unfold eR
      rw [h1]
      exact if_pos z.1.2.2.2.1
    rw [this] at e
    exact absurd e.symm (fun z => by have := x_m1n (a := j) (by omega); rw [this] at z; exact z)
  unfold g_L_writes g_X11_write
  obtain ⟨r, er, hr⟩ := k_X6_errorIn (n := 60) (L := inp.length) (p1 := input) (c := fun j => inp.getD j 0) hall hL (by omega) (by omega) (fun i hi => (hin i hi).1) reader_tokens reader_stores reader_mostSpoons reader_spoons reader_awaitsLetter reader_awaitsDigit reader_values reader_firsts reader_kinds reader_parts reader_spoonPlaces reader_lastParts
  have hF9 : FC r.2.2.2.2.2.2.2.2.1 := af_errorIn hFC r er
  refine bbe er ?_
  obtain ⟨r1, r2⟩ := hr
  rcases eR_of (c := fun j => inp.getD j 0) (m := inp.length) with ⟨S, hSm, hf, e⟩ | ⟨j, hj, e⟩
  · rw [e] at r1
    obtain ⟨x1, x2, x3, x4, x5, x6, x7⟩ := r2 S hSm
    have hG := rd_GS inp.length 0 rs0 GS_0 S hSm
    have hsh := GS_SH hG hf
    have hT24 := hsh.1
    have hrT : rT (tx9 inp) = S := by
      show ((rd (fun j => inp.getD j 0) inp.length 0 rs0).2).getD rs0 = S
      rw [hSm]; rfl
    by_cases n4' : B.2.2.1 = 4
    · exact bt r1 (bf (by rw [e2, n4']; decide) (bbe (show g_X7_keep refusal_isKept refusal_reason refusal_detail refusal_hasCause 1 B.1.2.1 = some (1, 1, B.1.2.1, 0) from rfl) (bs (ok_f (show ¬ (4 : Int32) = 0 by decide) (ok_f (show ¬ (4 : Int32) = 1 by decide) (ok_t rfl (ok_s ⟨⟨rfl, hF9⟩, Or.inl ⟨fun z => absurd z.2 (by omega), show (-2 : Int32) < 0 by decide, rfl, rfl, rfl, rfl⟩⟩)))))))
    · have hlt : B.2.2.1 < 4 := by omega
      refine bt r1 (bt (show B.1.2.1 < 4 by rw [e2]; exact nI_lt (b := 4) hlt (by omega)) ?_)
      have hpb := k6_pb (T := S.1) (k := S.2.1) (w := S.2.2.1) (nc := B.2.1) (ks := r.2.2.2.2.2.2.2.2.2.1) (vs := r.2.2.2.2.2.2.2.1) hT24 h6 (fun p hp => (hsh.2.2 p hp).1) (fun p hp hk => by
        have hF := (hG.1 p hp).1
        unfold FSk at hF
        omega) (fun p hp => ⟨(x7.1 p hp).1, (x7.1 p hp).2.1⟩)
      rw [← e1, ← x1] at hpb
      refine ba (ok_b hpb (fun o ho => ?_))
      obtain ⟨z, hz, ez⟩ := ho
      cases z with
      | some p =>
        have hp : p < S.1 := hz.1
        exact bf (fun q => by
          rw [ez] at q
          have := x_m1n (a := p) (by omega)
          exact this.mp q) (bbe (show g_X7_keep refusal_isKept refusal_reason refusal_detail refusal_hasCause 5 o = some (1, 5, o, 0) from rfl) (bs (ok_f (show ¬ (4 : Int32) = 0 by decide) (ok_f (show ¬ (4 : Int32) = 1 by decide) (ok_t rfl (ok_s ⟨⟨rfl, hF9⟩, Or.inl ⟨fun z => by
            have h9 := z.1.2.2.2.2 p (by rw [hrT]; exact hp) (by rw [hrT]; exact hz.2.1.1)
            rw [hrT] at h9
            have := hz.2.1.2
            omega, show (-2 : Int32) < 0 by decide, rfl, rfl, rfl, rfl⟩⟩))))))
      | none =>
        have hpd : g_X0_putDown B.1.2.1 B.1.2.2.2.2.2.2.2.2.2.2.1 B.1.2.2.2.2.2.2.2.2.2.2.2 0 = some (nI B.2.2.1, nI (B.2.2.1 + 1), va_up B.1.2.2.2.2.2.2.2.2.2.2.1 B.2.2.1 (some 0), upd B.1.2.2.2.2.2.2.2.2.2.2.2 B.2.2.1 0) := by
          unfold g_X0_putDown
          rw [e2, if_neg (show ¬ nI B.2.2.1 < 0 from nI_nlt (b := 0) (Nat.zero_le _) (by omega)), if_pos (show nI B.2.2.1 < 4 from nI_lt (b := 4) hlt (by omega)), e_gl, e_gc (x_inb hlt (by omega)), e_gc (x_inb hlt (by omega)), x_cl (by omega), nI_1]
        have hOK : OKT B.2.1 (tx9 inp) := by
          refine ⟨hL, hall, ?_, ?_, ?_⟩
          · rw [hrT]; exact hSm
          · rw [hrT]; exact hf
          · rw [hrT]
            intro p hp hk
            have := hz p hp
            unfold LB at this
            omega
        refine bt ez (ba (ok_b (k_X4_remember (LS := LS) (SE := SE) htx hbo q hn hc hq) (fun r' hr' => bbe hpd (bs (ok_t rfl (ok_s ⟨⟨rfl, hF9⟩, Or.inr ⟨⟨hOK, hlt⟩, rfl, ⟨hr'.1, hr'.2.1, hr'.2.2⟩, rfl, rfl, fun a0 ha0 => ?_⟩⟩))))))
        unfold SPC
        rw [x_as, hrT]
        refine ⟨decide_eq_true List.mem_cons_self, rfl, fun j hj => (nSV_t hL hj).trans (hin j hj).1, ?_, x2, x3, fun p hp => (x7.1 p hp).2.2.1, fun p hp => ?_⟩
        · show (if (0 : Int32) < (if 24 < r.2.1 then 24 else r.2.1) then (if 24 < r.2.1 then 24 else r.2.1) else (0 : Int32)) = nI S.1
          rw [x1]; exact tk_of hT24
        · obtain ⟨y1, y2, y3, y4, y5, y6, y7, y8⟩ := x7.1 p hp
          exact ⟨y1, y2, y7, y8⟩
  · rw [e] at r1
    exact bf (fun q => by
      rw [r1] at q
      have := x_m1n (a := j) (by omega)
      exact this.mp q) (bs (ok_f (show ¬ (1 : Int32) = 0 by decide) (ok_t rfl (ok_s ⟨⟨rfl, hF9⟩, Or.inl ⟨hnot hj e, show (-1 : Int32) < 0 by decide, rfl, rfl, rfl, rfl⟩⟩))))
