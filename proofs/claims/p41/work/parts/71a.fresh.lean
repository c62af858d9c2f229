/-! A NEW OBJECT (gen/lw4.py) -/
def AD9 (q0 : Nat) (u : Nat → Nat) (k : Nat) : Nat := bif Nat.beq k 0 then q0 else bif Nat.ble k 22 then u (k - 1) else u (k + 59)
def RAD9 (u : Nat → Nat) (r j : Nat) : Nat := u (22 + 10 * r + j)
def BKS9 (u : Nat → Nat) : Nat → Option Nat := va_up (va_up (va_up (va_up (va_up (va_up (fun _ => none) (0 : Int32).toNatClampNeg (some (u 22))) (1 : Int32).toNatClampNeg (some (u 32))) (2 : Int32).toNatClampNeg (some (u 42))) (3 : Int32).toNatClampNeg (some (u 52))) (4 : Int32).toNatClampNeg (some (u 62))) (5 : Int32).toNatClampNeg (some (u 72))
def B9 : BK := (0, 0, 0, 0, fun _ => 0, fun _ => 0, fun _ => 0, fun _ => 0, fun _ => 0, fun _ => 0, fun _ => none, fun _ => 0)
def SE9 : Nat → SV := fun _ => (0, fun _ => 0, 0, 0, 0, fun _ => 0, fun _ => 0, fun _ => 0, fun _ => 0, fun _ => 0)
theorem BKS9_at (u : Nat → Nat) : ∀ r, r < 6 → BKS9 u r = some (RAD9 u r 0) := by
  intro r hr
  unfold BKS9 RAD9
  rw [show (0 : Int32).toNatClampNeg = 0 from rfl, show (1 : Int32).toNatClampNeg = 1 from rfl, show (2 : Int32).toNatClampNeg = 2 from rfl, show (3 : Int32).toNatClampNeg = 3 from rfl, show (4 : Int32).toNatClampNeg = 4 from rfl, show (5 : Int32).toNatClampNeg = 5 from rfl]
  rcases (show r = 0 ∨ r = 1 ∨ r = 2 ∨ r = 3 ∨ r = 4 ∨ r = 5 by omega) with rfl | rfl | rfl | rfl | rfl | rfl <;> rfl
/-- a new object -/
def BB9 : BB := (B9, 0, 0, fun _ => (0, fun _ => 0))
def σ0 : AB := (BB9, 0, (fun _ => BB9), [], [], (0, 0, 0), 0)
theorem BOK_0 : BOK [] SE9 BB9 :=
  ⟨by decide, by decide, rfl, rfl, fun c hc => ⟨CANH_d 0, show (-99 : Int) ≤ (0 : Int32).toInt by decide, show (0 : Int32).toInt ≤ 99 by decide, show (0 : Int32).toInt ≤ (0 : Int32).toInt by decide, fun _ => ⟨show (0 : Int32).toInt ≤ (0 : Int32).toInt by decide, show (0 : Int32).toInt ≤ (0 : Int32).toInt by decide⟩⟩, fun i hi => absurd hi (Nat.not_lt_zero i), fun i hi => rfl⟩
theorem HIo_0 (u : Nat → Nat) : HIo [] SE9 (RAD9 u) (fun _ => B9) (BKS9 u) 0 0 0 (fun _ => BB9) := by
  refine ⟨⟨0, by omega, rfl, fun r hr => ?_⟩, by omega, rfl, fun r hr => absurd hr (Nat.not_lt_zero r)⟩
  rw [show (0 + r) % 6 = r by omega]
  exact BKS9_at u r hr
theorem LIo_0 (a : Nat) : LIo (a, 16, (fun _ => 0), 0) 0 [] := ⟨⟨rfl, Nat.zero_le _, Or.inl rfl, fun i hi => absurd hi (Nat.not_lt_zero i), fun j => rfl⟩, by omega, fun x hx => absurd hx List.not_mem_nil⟩
set_option maxHeartbeats 16000000 in
set_option maxRecDepth 100000 in
theorem OB_0 (cT : Nat → ClassId) (q0 : Nat) (u : Nat → Nat) : OB cT q0 σ0 (nw_X11_init cT q0 u) := by
  refine ⟨(AD9 q0 u), (RAD9 u), [], SE9, (fun _ _ => 0), B9, B9, (fun _ => B9), (BKS9 u), (u 118, 16, (fun _ => 0), 0), 0, [], 0, 0, 0, 0, 0, 0, 0, 0, 0, 0, 0, 0, (fun _ => 0), (fun _ => 0), (fun _ => 0), (fun _ => 0), (fun _ => 0), (fun _ => 0), 0, 0, 0, 0, 0, (fun _ => 0), (fun _ => 0), (fun _ => 0), (fun _ => 0), (fun _ => 0), (fun _ => 0), 0, (fun _ => 0), (fun _ => 0), (fun _ => 0), (fun _ => 0), (fun _ => 0), (fun _ => 0), 0, 0, 0, (fun _ => 0), (fun _ => 0), (fun _ => 0), (fun _ => 0), (fun _ => 0), 0, (fun _ => 0), (fun _ => 0), (fun _ => 0), (fun _ => 0), 0, (-1), 0, ?_, rfl, ?_⟩
  · exact ⟨rfl, BOK_0, HIo_0 u, ⟨rfl, LIo_0 _⟩, ⟨by decide, rfl, fun j hj => absurd hj (Nat.not_lt_zero j)⟩, ⟨rfl, rfl, rfl⟩, rfl, fun j hj => rfl, fun j hj => ⟨0, by decide, rfl⟩, fun a ha => absurd ha List.not_mem_nil⟩
  · have e : nw_X11_init cT q0 u = WLo cT (AD9 q0 u) (RAD9 u) [] SE9 (fun _ _ => 0) B9 B9 (fun _ => B9) (BKS9 u) (u 118, 16, (fun _ => 0), 0) 0 [] 0 0 0 0 0 0 0 0 0 0 0 0 (fun _ => 0) (fun _ => 0) (fun _ => 0) (fun _ => 0) (fun _ => 0) (fun _ => 0) 0 0 0 0 0 (fun _ => 0) (fun _ => 0) (fun _ => 0) (fun _ => 0) (fun _ => 0) (fun _ => 0) 0 (fun _ => 0) (fun _ => 0) (fun _ => 0) (fun _ => 0) (fun _ => 0) (fun _ => 0) 0 0 0 (fun _ => 0) (fun _ => 0) (fun _ => 0) (fun _ => 0) (fun _ => 0) 0 (fun _ => 0) (fun _ => 0) (fun _ => 0) (fun _ => 0) 0 (-1) 0 := rfl
    rw [e]
    exact (List.append_nil _).symm
