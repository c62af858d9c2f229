def g_X5_isNegative (p1 : UInt64) : Option (Int32) :=
  if (Op.cmpValue (FP.dcmp p1 FP.dconst0) .g) < 0 then
    some (1)
  else
    if (Op.cmpValue (FP.dcmp p1 FP.dconst0) .l) = 0 then
      gc (n64 (FP.ddiv FP.dconst1 p1)) <|
      if 0 ≤ (Op.cmpValue (FP.dcmp (FP.ddiv FP.dconst1 p1) FP.dconst0) .g) then
        some (0)
      else
        some (1)
    else
      some (0)
def g_X5_differ (p1 : UInt32) (p2 : UInt32) : Option (Int32) :=
  if (Op.cmpValue (FP.fcmp p1 p2) .l) = 0 then
    gc (n64 (FP.f2d p1)) <|
    gb (g_X5_isNegative (FP.f2d p1)) fun r1 =>
    gc (n64 (FP.f2d p2)) <|
    gb (g_X5_isNegative (FP.f2d p2)) fun r2 =>
    if r1 = r2 then
      some (0)
    else
      some (1)
  else
    some (1)
def g_X5_held (p1 : UInt32) : Option (UInt32) :=
  if 0 ≤ (Op.cmpValue (FP.fcmp p1 (3323739136 : UInt32)) .g) then
    if (Op.cmpValue (FP.fcmp p1 (1176255488 : UInt32)) .l) ≤ 0 then
      some (p1)
    else
      gl (1176255488 : UInt32) fun v1 =>
      some (v1)
  else
    gl (3323739136 : UInt32) fun v2 =>
    some (v2)
def g_X5_toBroth (p1 : Int32) : Option (UInt32) :=
  gb (g_X5_held (FP.i2f p1)) fun r1 =>
  some (r1)
def g_X5_toDrams (p1 : UInt32) : Option (Int32) :=
  gl (if ((-99) : Int32) < (if (FP.f2i p1) < (99 : Int32) then (FP.f2i p1) else (99 : Int32)) then (if (FP.f2i p1) < (99 : Int32) then (FP.f2i p1) else (99 : Int32)) else ((-99) : Int32)) fun v1 =>
  some (v1)
def g_X5_ofBroth_b26 (s0_26 : UInt32) : Option (UInt32) :=
  gb (g_X5_held s0_26) fun r2 =>
  some (r2)
def g_X5_ofBroth (p1 : Int32) (p2 : UInt32) (p3 : UInt32) : Option (UInt32) :=
  if p1 = 2 then
    gc (n32 (FP.fadd p2 p3)) <|
    gb (g_X5_held (FP.fadd p2 p3)) fun r1 =>
    some (r1)
  else
    if p1 = 3 then
      gc (n32 (FP.fsub p2 p3)) <|
      g_X5_ofBroth_b26 (FP.fsub p2 p3)
    else
      gc (n32 (FP.fmul p2 p3)) <|
      g_X5_ofBroth_b26 (FP.fmul p2 p3)
def g_X5_ofDrams (p1 : Int32) (p2 : Int64) (p3 : Int64) : Option (Int64) :=
  if p1 = 2 then
    gl (p2 + p3) fun v3 =>
    some (v3)
  else
    if p1 = 3 then
      gl (p2 - p3) fun v2 =>
      some (v2)
    else
      gl (p2 * p3) fun v1 =>
      some (v1)
def g_X5_excess (p1 : Int64) : Option (Int32) :=
  if 0 ≤ (lg_cmp p1 (-1000000 : Int64)) then
    if (lg_cmp p1 (1000000 : Int64)) ≤ 0 then
      some (0)
    else
      some (1)
  else
    some ((-1))
def g_X5_lowest (p1 : Int32) (p2 : Int64) (p3 : Int64) (p4 : Int64) (p5 : Int64) : Option (Int64) :=
  if p1 = 2 then
    gl (p2 + p4) fun v3 =>
    some (v3)
  else
    if p1 = 3 then
      gl (p2 - p5) fun v2 =>
      some (v2)
    else
      gl (if (if (p3 * p5) < (p3 * p4) then (p3 * p5) else (p3 * p4)) < (if (p2 * p5) < (p2 * p4) then (p2 * p5) else (p2 * p4)) then (if (p3 * p5) < (p3 * p4) then (p3 * p5) else (p3 * p4)) else (if (p2 * p5) < (p2 * p4) then (p2 * p5) else (p2 * p4))) fun v1 =>
      some (v1)
def g_X5_highest (p1 : Int32) (p2 : Int64) (p3 : Int64) (p4 : Int64) (p5 : Int64) : Option (Int64) :=
  if p1 = 2 then
    gl (p3 + p5) fun v3 =>
    some (v3)
  else
    if p1 = 3 then
      gl (p3 - p4) fun v2 =>
      some (v2)
    else
      gl (if (if (p3 * p5) < (p3 * p4) then (p3 * p4) else (p3 * p5)) < (if (p2 * p5) < (p2 * p4) then (p2 * p4) else (p2 * p5)) then (if (p2 * p5) < (p2 * p4) then (p2 * p4) else (p2 * p5)) else (if (p3 * p5) < (p3 * p4) then (p3 * p4) else (p3 * p5))) fun v1 =>
      some (v1)
def g_X5_exponentOf_b35 (p2 : Int32) : Nat → Int32 → UInt64 → Option (Int32)
  | 0, _, _ => none
  | n + 1, x3_35, x4_35 =>
    if 0 ≤ (Op.cmpValue (FP.dcmp x4_35 FP.dconst1) .g) then
      some (x3_35)
    else
      if x3_35 ≤ p2 then
        some (x3_35)
      else
        gc (n64 (FP.dmul x4_35 (4611686018427387904 : UInt64))) <|
        gl (FP.dmul x4_35 (4611686018427387904 : UInt64)) fun v1 =>
        gl (x3_35 + (-1)) fun v2 =>
        (g_X5_exponentOf_b35 p2 n) v2 v1
def g_X5_exponentOf_b5 (p2 : Int32) : Nat → Int32 → UInt64 → Option (Int32)
  | 0, _, _ => none
  | n + 1, x3_5, x4_5 =>
    if (Op.cmpValue (FP.dcmp x4_5 (4611686018427387904 : UInt64)) .l) < 0 then
      g_X5_exponentOf_b35 p2 2200 x3_5 x4_5
    else
      if 1023 ≤ x3_5 then
        g_X5_exponentOf_b35 p2 2200 x3_5 x4_5
      else
        gc (n64 (FP.ddiv x4_5 (4611686018427387904 : UInt64))) <|
        gl (FP.ddiv x4_5 (4611686018427387904 : UInt64)) fun v3 =>
        gl (x3_5 + 1) fun v4 =>
        (g_X5_exponentOf_b5 p2 n) v4 v3
def g_X5_exponentOf (p1 : UInt64) (p2 : Int32) : Option (Int32) :=
  g_X5_exponentOf_b5 p2 2200 0 p1
def g_X5_scale_b25 : Nat → UInt64 → Int32 → Option (UInt64)
  | 0, _, _ => none
  | n + 1, x3_25, x5_25 =>
    if 0 ≤ x5_25 then
      some (x3_25)
    else
      gc (n64 (FP.dmul x3_25 (4611686018427387904 : UInt64))) <|
      gl (FP.dmul x3_25 (4611686018427387904 : UInt64)) fun v1 =>
      gl (x5_25 + 1) fun v2 =>
      (g_X5_scale_b25 n) v1 v2
def g_X5_scale_b5 (p2 : Int32) : Nat → UInt64 → Int32 → Option (UInt64)
  | 0, _, _ => none
  | n + 1, x3_5, x5_5 =>
    if x5_5 ≤ 0 then
      g_X5_scale_b25 1200 x3_5 p2
    else
      gc (n64 (FP.ddiv x3_5 (4611686018427387904 : UInt64))) <|
      gl (FP.ddiv x3_5 (4611686018427387904 : UInt64)) fun v3 =>
      gl (x5_5 + (-1)) fun v4 =>
      (g_X5_scale_b5 p2 n) v3 v4
def g_X5_scale (p1 : UInt64) (p2 : Int32) : Option (UInt64) :=
  g_X5_scale_b5 p2 1200 p1 p2
def g_X5_bitsOf_b29 (x2_29 : UInt64) (s0_29 : Int32) : Option (Int32) :=
  if (Op.cmpValue (FP.dcmp x2_29 FP.dconst0) .l) = 0 then
    some (s0_29)
  else
    gb (g_X5_exponentOf x2_29 (-126 : Int32)) fun r2 =>
    gb (g_X5_scale x2_29 r2) fun r3 =>
    if 0 ≤ (Op.cmpValue (FP.dcmp r3 FP.dconst1) .g) then
      gc (n64 (FP.dsub r3 FP.dconst1)) <|
      gc (n64 (FP.dmul (FP.dsub r3 FP.dconst1) (4710765210229538816 : UInt64))) <|
      gl ((s0_29 ||| ((r2 + 127) <<< (23 &&& 31))) ||| (FP.d2i (FP.dmul (FP.dsub r3 FP.dconst1) (4710765210229538816 : UInt64)))) fun v4 =>
      some (v4)
    else
      gc (n64 (FP.dmul r3 (4710765210229538816 : UInt64))) <|
      gl (s0_29 ||| (FP.d2i (FP.dmul r3 (4710765210229538816 : UInt64)))) fun v5 =>
      some (v5)
def g_X5_bitsOf_b18 (x1_18 : Int32) (s0_18 : UInt64) : Option (Int32) :=
  if x1_18 = 0 then
    g_X5_bitsOf_b29 s0_18 0
  else
    g_X5_bitsOf_b29 s0_18 (-2147483648 : Int32)
def g_X5_bitsOf (p1 : UInt32) : Option (Int32) :=
  gc (n64 (FP.f2d p1)) <|
  gb (g_X5_isNegative (FP.f2d p1)) fun r1 =>
  if r1 = 0 then
    gc (n64 (FP.f2d p1)) <|
    g_X5_bitsOf_b18 r1 (FP.f2d p1)
  else
    gc (n64 (FP.f2d p1)) <|
    g_X5_bitsOf_b18 r1 (FP.dneg (FP.f2d p1))
def g_X5_longBitsOf_b27 (x3_27 : UInt64) (s0_27 : Int64) : Option (Int64) :=
  if (Op.cmpValue (FP.dcmp x3_27 FP.dconst0) .l) = 0 then
    some (s0_27)
  else
    gb (g_X5_exponentOf x3_27 (-1022 : Int32)) fun r2 =>
    gb (g_X5_scale x3_27 r2) fun r3 =>
    if 0 ≤ (Op.cmpValue (FP.dcmp r3 FP.dconst1) .g) then
      gc (n64 (FP.dsub r3 FP.dconst1)) <|
      gc (n64 (FP.dmul (FP.dsub r3 FP.dconst1) (4841369599423283200 : UInt64))) <|
      gl ((s0_27 ||| (((r2 + 1023).toInt64) <<< ((52 : Int32).toInt64 &&& 63))) ||| (FP.d2l (FP.dmul (FP.dsub r3 FP.dconst1) (4841369599423283200 : UInt64)))) fun v4 =>
      some (v4)
    else
      gc (n64 (FP.dmul r3 (4841369599423283200 : UInt64))) <|
      gl (s0_27 ||| (FP.d2l (FP.dmul r3 (4841369599423283200 : UInt64)))) fun v5 =>
      some (v5)
def g_X5_longBitsOf_b15 (x2_15 : Int32) (s0_15 : UInt64) : Option (Int64) :=
  if x2_15 = 0 then
    g_X5_longBitsOf_b27 s0_15 0
  else
    g_X5_longBitsOf_b27 s0_15 (-9223372036854775808 : Int64)
def g_X5_longBitsOf (p1 : UInt64) : Option (Int64) :=
  gb (g_X5_isNegative p1) fun r1 =>
  if r1 = 0 then
    g_X5_longBitsOf_b15 r1 p1
  else
    g_X5_longBitsOf_b15 r1 (FP.dneg p1)
def g_X1_copy_b2 (p1_many : Nat → Int32) (p1_much : Nat → UInt32) : Nat → (Nat → Int32) → (Nat → UInt32) → Int32 → Option ((Nat → Int32) × (Nat → UInt32))
  | 0, _, _, _ => none
  | n + 1, t_many_2, t_much_2, x2_2 =>
    if 6 ≤ x2_2 then
      some (t_many_2, t_much_2)
    else
      gc (inb x2_2 6) <|
      gc (inb x2_2 6) <|
      gc (inb x2_2 6) <|
      gc (inb x2_2 6) <|
      gl (x2_2 + 1) fun v1 =>
      (g_X1_copy_b2 p1_many p1_much n) (upd t_many_2 x2_2.toNatClampNeg (p1_many x2_2.toNatClampNeg)) (vf_upd t_much_2 x2_2.toNatClampNeg (p1_much x2_2.toNatClampNeg)) v1
def g_X1_copy (t_many : Nat → Int32) (p1_many : Nat → Int32) (t_much : Nat → UInt32) (p1_much : Nat → UInt32) : Option ((Nat → Int32) × (Nat → UInt32)) :=
  g_X1_copy_b2 p1_many p1_much 100 t_many t_much 0
def g_X0_setUp (t_cauldrons : Int32) (t_isBroth : Nat → Int32) (t_low : Nat → Int32) (t_high : Nat → Int32) (t_contents_many : Nat → Int32) (t_contents_much : Nat → UInt32) (t_storesIn : Nat → Int32) (p1 : Int32) (p2 : Int32) (p3 : Int32) : Option (Int32 × Int32 × (Nat → Int32) × (Nat → Int32) × (Nat → Int32) × (Nat → Int32) × (Nat → UInt32) × (Nat → Int32)) :=
  if t_cauldrons < 0 then
    some ((-1), t_cauldrons, t_isBroth, t_low, t_high, t_contents_many, t_contents_much, t_storesIn)
  else
    if t_cauldrons < 6 then
      gl (t_cauldrons + 1) fun v1 =>
      gc (inb t_cauldrons 6) <|
      gc (inb t_cauldrons 6) <|
      gc (inb t_cauldrons 6) <|
      gc (inb t_cauldrons 6) <|
      gc (inb t_cauldrons 6) <|
      gc (inb t_cauldrons 6) <|
      some (t_cauldrons, v1, (upd t_isBroth t_cauldrons.toNatClampNeg (vp_nar .boolean p1)), (upd t_low t_cauldrons.toNatClampNeg p2), (upd t_high t_cauldrons.toNatClampNeg p3), (upd t_contents_many t_cauldrons.toNatClampNeg (if p2 < (if 0 < p3 then 0 else p3) then (if 0 < p3 then 0 else p3) else p2)), (vf_upd t_contents_much t_cauldrons.toNatClampNeg FP.fconst0), (upd t_storesIn t_cauldrons.toNatClampNeg 0))
    else
      some ((-1), t_cauldrons, t_isBroth, t_low, t_high, t_contents_many, t_contents_much, t_storesIn)
def g_X0_holds (t_low : Nat → Int32) (t_high : Nat → Int32) (p1 : Int32) (p2 : Int64) : Option (Int32) :=
  gc (inb p1 6) <|
  if (lg_cmp p2 ((t_low p1.toNatClampNeg).toInt64)) < 0 then
    some (0)
  else
    gc (inb p1 6) <|
    if 0 < (lg_cmp p2 ((t_high p1.toNatClampNeg).toInt64)) then
      some (0)
    else
      some (1)
def g_X1_cut (t_many : Nat → Int32) (t_much : Nat → UInt32) (p1 : Int32) (p2 : Int32) : Option (Int32) :=
  if p1 = 0 then
    gc (inb p2 6) <|
    gl (t_many p2.toNatClampNeg) fun v1 =>
    some (v1)
  else
    gc (inb p2 6) <|
    gl (FP.f2i (t_much p2.toNatClampNeg)) fun v2 =>
    some (v2)
def g_X0_cutContent (t_isBroth : Nat → Int32) (t_contents_many : Nat → Int32) (t_contents_much : Nat → UInt32) (p1 : Int32) : Option (Int32) :=
  gc (inb p1 6) <|
  gb (g_X1_cut t_contents_many t_contents_much (t_isBroth p1.toNatClampNeg) p1) fun r1 =>
  some (r1)
def g_X0_cauldronsOfBroth_b24 (t_cauldrons : Int32) (t_isBroth : Nat → Int32) (k4 : Int32 → Int32 → Option (Int32)) (x1_24 : Int32) (x2_24 : Int32) : Option (Int32) :=
  gl (x2_24 + 1) fun v1 =>
  k4 x1_24 v1
def g_X0_cauldronsOfBroth_b4 (t_cauldrons : Int32) (t_isBroth : Nat → Int32) : Nat → Int32 → Int32 → Option (Int32)
  | 0, _, _ => none
  | n + 1, x1_4, x2_4 =>
    if t_cauldrons ≤ x2_4 then
      some (x1_4)
    else
      gc (inb x2_4 6) <|
      if (t_isBroth x2_4.toNatClampNeg) = 0 then
        g_X0_cauldronsOfBroth_b24 t_cauldrons t_isBroth (g_X0_cauldronsOfBroth_b4 t_cauldrons t_isBroth n) x1_4 x2_4
      else
        gl (x1_4 + 1) fun v2 =>
        g_X0_cauldronsOfBroth_b24 t_cauldrons t_isBroth (g_X0_cauldronsOfBroth_b4 t_cauldrons t_isBroth n) v2 x2_4
def g_X0_cauldronsOfBroth (t_cauldrons : Int32) (t_isBroth : Nat → Int32) : Option (Int32) :=
  g_X0_cauldronsOfBroth_b4 t_cauldrons t_isBroth 100 0 0
def g_X0_allDrams_b33 (t_cauldrons : Int32) (t_isBroth : Nat → Int32) (t_contents_many : Nat → Int32) (k4 : Int32 → Int32 → Option (Int32)) (x1_33 : Int32) (x2_33 : Int32) : Option (Int32) :=
  gl (x2_33 + 1) fun v1 =>
  k4 x1_33 v1
def g_X0_allDrams_b4 (t_cauldrons : Int32) (t_isBroth : Nat → Int32) (t_contents_many : Nat → Int32) : Nat → Int32 → Int32 → Option (Int32)
  | 0, _, _ => none
  | n + 1, x1_4, x2_4 =>
    if t_cauldrons ≤ x2_4 then
      some (x1_4)
    else
      gc (inb x2_4 6) <|
      if (t_isBroth x2_4.toNatClampNeg) = 0 then
        gc (inb x2_4 6) <|
        gl (x1_4 + (t_contents_many x2_4.toNatClampNeg)) fun v2 =>
        g_X0_allDrams_b33 t_cauldrons t_isBroth t_contents_many (g_X0_allDrams_b4 t_cauldrons t_isBroth t_contents_many n) v2 x2_4
      else
        g_X0_allDrams_b33 t_cauldrons t_isBroth t_contents_many (g_X0_allDrams_b4 t_cauldrons t_isBroth t_contents_many n) x1_4 x2_4
def g_X0_allDrams (t_cauldrons : Int32) (t_isBroth : Nat → Int32) (t_contents_many : Nat → Int32) : Option (Int32) :=
  g_X0_allDrams_b4 t_cauldrons t_isBroth t_contents_many 100 0 0
def g_X8_lastAhead_b42 (t_kinds : Nat → Int32) (t_values : Nat → Int32) (p1 : Int32) (p2 : Int32) (k12 : Int32 → Option (Int32)) (x4_42 : Int32) : Option (Int32) :=
  gl (x4_42 + (-1)) fun v2 =>
  k12 v2
def g_X8_lastAhead_b12 (t_kinds : Nat → Int32) (t_values : Nat → Int32) (p1 : Int32) (p2 : Int32) : Nat → Int32 → Option (Int32)
  | 0, _ => none
  | n + 1, x4_12 =>
    if x4_12 < 0 then
      some ((-1))
    else
      gc (inb x4_12 24) <|
      if (t_kinds x4_12.toNatClampNeg) = p1 then
        gc (inb x4_12 24) <|
        if (t_values x4_12.toNatClampNeg) = p2 then
          some (x4_12)
        else
          g_X8_lastAhead_b42 t_kinds t_values p1 p2 (g_X8_lastAhead_b12 t_kinds t_values p1 p2 n) x4_12
      else
        g_X8_lastAhead_b42 t_kinds t_values p1 p2 (g_X8_lastAhead_b12 t_kinds t_values p1 p2 n) x4_12
def g_X8_lastAhead (t_tokens : Int32) (t_kinds : Nat → Int32) (t_values : Nat → Int32) (p1 : Int32) (p2 : Int32) (p3 : Int32) : Option (Int32) :=
  gl ((if t_tokens < p3 then t_tokens else p3) - 1) fun v1 =>
  g_X8_lastAhead_b12 t_kinds t_values p1 p2 100 v1
def g_X1_differences_b46 (t_many : Nat → Int32) (p1_many : Nat → Int32) (t_much : Nat → UInt32) (p1_much : Nat → UInt32) (k4 : Int32 → Int32 → Option (Int32)) (x2_46 : Int32) (x3_46 : Int32) : Option (Int32) :=
  gl (x3_46 + 1) fun v1 =>
  k4 x2_46 v1
def g_X1_differences_b43 (t_many : Nat → Int32) (p1_many : Nat → Int32) (t_much : Nat → UInt32) (p1_much : Nat → UInt32) (k4 : Int32 → Int32 → Option (Int32)) (x2_43 : Int32) (x3_43 : Int32) : Option (Int32) :=
  gl (x2_43 + 1) fun v2 =>
  g_X1_differences_b46 t_many p1_many t_much p1_much k4 v2 x3_43
def g_X1_differences_b4 (t_many : Nat → Int32) (p1_many : Nat → Int32) (t_much : Nat → UInt32) (p1_much : Nat → UInt32) : Nat → Int32 → Int32 → Option (Int32)
  | 0, _, _ => none
  | n + 1, x2_4, x3_4 =>
    if 6 ≤ x3_4 then
      some (x2_4)
    else
      gc (inb x3_4 6) <|
      gc (inb x3_4 6) <|
      if (t_many x3_4.toNatClampNeg) = (p1_many x3_4.toNatClampNeg) then
        gc (inb x3_4 6) <|
        gc (inb x3_4 6) <|
        gb (g_X5_differ (t_much x3_4.toNatClampNeg) (p1_much x3_4.toNatClampNeg)) fun r3 =>
        if r3 = 0 then
          g_X1_differences_b46 t_many p1_many t_much p1_much (g_X1_differences_b4 t_many p1_many t_much p1_much n) x2_4 x3_4
        else
          g_X1_differences_b43 t_many p1_many t_much p1_much (g_X1_differences_b4 t_many p1_many t_much p1_much n) x2_4 x3_4
      else
        g_X1_differences_b43 t_many p1_many t_much p1_much (g_X1_differences_b4 t_many p1_many t_much p1_much n) x2_4 x3_4
def g_X1_differences (t_many : Nat → Int32) (p1_many : Nat → Int32) (t_much : Nat → UInt32) (p1_much : Nat → UInt32) : Option (Int32) :=
  g_X1_differences_b4 t_many p1_many t_much p1_much 100 0 0
def g_X7_keep (t_isKept : Int32) (t_reason : Int32) (t_detail : Int32) (t_hasCause : Int32) (p1 : Int32) (p2 : Int32) : Option (Int32 × Int32 × Int32 × Int32) :=
  some (1, p1, p2, 0)
def g_X7_keepWithCause (t_isKept : Int32) (t_reason : Int32) (t_detail : Int32) (t_hasCause : Int32) (t_cause : Int32) (t_causeDetail : Int32) (p1 : Int32) (p2 : Int32) (p3 : Int32) (p4 : Int32) : Option (Int32 × Int32 × Int32 × Int32 × Int32 × Int32) :=
  gb (g_X7_keep t_isKept t_reason t_detail t_hasCause p1 p2) fun r1 =>
  some (r1.1, r1.2.1, r1.2.2.1, 1, p3, p4)
def g_X6_isLetter (p1 : Int32) : Option (Int32) :=
  if p1 < 97 then
    some (0)
  else
    if 103 ≤ p1 then
      some (0)
    else
      some (1)
def g_X6_fitsToken_b151 (t_tokens : Int32) (t_mostSpoons : Int32) (t_firsts_151 : Nat → Int32) (t_kinds_151 : Nat → Int32) (t_lastParts_151 : Nat → Int32) (t_parts_151 : Nat → Int32) (t_spoonPlaces_151 : Nat → Int32) (t_values_151 : Nat → Int32) (x6_151 : Int32) : Option (Int32 × Int32 × Int32 × Int32 × (Nat → Int32) × (Nat → Int32) × (Nat → Int32) × (Nat → Int32) × (Nat → Int32) × (Nat → Int32)) :=
  gl (if t_mostSpoons < x6_151 then x6_151 else t_mostSpoons) fun v2 =>
  gl (t_tokens + 1) fun v3 =>
  some (1, v3, v2, x6_151, t_firsts_151, t_kinds_151, t_values_151, t_parts_151, t_spoonPlaces_151, t_lastParts_151)
def g_X6_fitsToken_b132 (t_tokens : Int32) (t_mostSpoons : Int32) (t_spoonPlaces : Nat → Int32) (t_lastParts : Nat → Int32) (p5 : Int32) (t_firsts_132 : Nat → Int32) (t_kinds_132 : Nat → Int32) (t_parts_132 : Nat → Int32) (t_values_132 : Nat → Int32) (x6_132 : Int32) (s2_132 : Int32) : Option (Int32 × Int32 × Int32 × Int32 × (Nat → Int32) × (Nat → Int32) × (Nat → Int32) × (Nat → Int32) × (Nat → Int32) × (Nat → Int32)) :=
  gc (inb t_tokens 24) <|
  if p5 ≤ 0 then
    g_X6_fitsToken_b151 t_tokens t_mostSpoons t_firsts_132 t_kinds_132 (upd t_lastParts t_tokens.toNatClampNeg s2_132) t_parts_132 t_spoonPlaces t_values_132 x6_132
  else
    gc (inb (x6_132 - 1) 5) <|
    g_X6_fitsToken_b151 t_tokens t_mostSpoons t_firsts_132 t_kinds_132 (upd t_lastParts t_tokens.toNatClampNeg s2_132) t_parts_132 (upd t_spoonPlaces (x6_132 - 1).toNatClampNeg t_tokens) t_values_132 x6_132
def g_X6_fitsToken_b102 (t_tokens : Int32) (t_mostSpoons : Int32) (t_spoons : Int32) (t_parts : Nat → Int32) (t_spoonPlaces : Nat → Int32) (t_lastParts : Nat → Int32) (p4 : Int32) (p5 : Int32) (t_firsts_102 : Nat → Int32) (t_kinds_102 : Nat → Int32) (t_values_102 : Nat → Int32) (x6_102 : Int32) (s2_102 : Int32) : Option (Int32 × Int32 × Int32 × Int32 × (Nat → Int32) × (Nat → Int32) × (Nat → Int32) × (Nat → Int32) × (Nat → Int32) × (Nat → Int32)) :=
  gc (inb t_tokens 24) <|
  if p4 ≤ 1 then
    g_X6_fitsToken_b132 t_tokens t_mostSpoons t_spoonPlaces t_lastParts p5 t_firsts_102 t_kinds_102 (upd t_parts t_tokens.toNatClampNeg s2_102) t_values_102 x6_102 (-1)
  else
    gc (inb (t_spoons - 1) 5) <|
    g_X6_fitsToken_b132 t_tokens t_mostSpoons t_spoonPlaces t_lastParts p5 t_firsts_102 t_kinds_102 (upd t_parts t_tokens.toNatClampNeg s2_102) t_values_102 x6_102 (t_spoonPlaces (t_spoons - 1).toNatClampNeg)
def g_X6_fitsToken (t_tokens : Int32) (t_mostSpoons : Int32) (t_spoons : Int32) (t_firsts : Nat → Int32) (t_kinds : Nat → Int32) (t_values : Nat → Int32) (t_parts : Nat → Int32) (t_spoonPlaces : Nat → Int32) (t_lastParts : Nat → Int32) (p1 : Int32) (p2 : Int32) (p3 : Int32) (p4 : Int32) (p5 : Int32) : Option (Int32 × Int32 × Int32 × Int32 × (Nat → Int32) × (Nat → Int32) × (Nat → Int32) × (Nat → Int32) × (Nat → Int32) × (Nat → Int32)) :=
  gl ((t_spoons - p4) + p5) fun v1 =>
  if t_spoons < p4 then
    some (0, t_tokens, t_mostSpoons, t_spoons, t_firsts, t_kinds, t_values, t_parts, t_spoonPlaces, t_lastParts)
  else
    if 5 < v1 then
      some (0, t_tokens, t_mostSpoons, t_spoons, t_firsts, t_kinds, t_values, t_parts, t_spoonPlaces, t_lastParts)
    else
      if ((t_tokens + 1) + v1) ≤ 24 then
        gc (inb t_tokens 24) <|
        gc (inb t_tokens 24) <|
        gc (inb t_tokens 24) <|
        if p4 ≤ 0 then
          g_X6_fitsToken_b102 t_tokens t_mostSpoons t_spoons t_parts t_spoonPlaces t_lastParts p4 p5 (upd t_firsts t_tokens.toNatClampNeg (vp_nar .char p2)) (upd t_kinds t_tokens.toNatClampNeg p1) (upd t_values t_tokens.toNatClampNeg p3) v1 (-1)
        else
          gc (inb (t_spoons - p4) 5) <|
          g_X6_fitsToken_b102 t_tokens t_mostSpoons t_spoons t_parts t_spoonPlaces t_lastParts p4 p5 (upd t_firsts t_tokens.toNatClampNeg (vp_nar .char p2)) (upd t_kinds t_tokens.toNatClampNeg p1) (upd t_values t_tokens.toNatClampNeg p3) v1 (t_spoonPlaces (t_spoons - p4).toNatClampNeg)
      else
        some (0, t_tokens, t_mostSpoons, t_spoons, t_firsts, t_kinds, t_values, t_parts, t_spoonPlaces, t_lastParts)
def g_X6_fitsStore (t_tokens : Int32) (t_stores : Int32) (t_mostSpoons : Int32) (t_spoons : Int32) (t_firsts : Nat → Int32) (t_kinds : Nat → Int32) (t_values : Nat → Int32) (t_parts : Nat → Int32) (t_spoonPlaces : Nat → Int32) (t_lastParts : Nat → Int32) (p1 : Int32) : Option (Int32 × Int32 × Int32 × Int32 × Int32 × (Nat → Int32) × (Nat → Int32) × (Nat → Int32) × (Nat → Int32) × (Nat → Int32) × (Nat → Int32)) :=
  gl (t_stores + 1) fun v1 =>
  gb (g_X6_fitsToken t_tokens t_mostSpoons t_spoons t_firsts t_kinds t_values t_parts t_spoonPlaces t_lastParts (7 : Int32) (61 : Int32) p1 (1 : Int32) (0 : Int32)) fun r2 =>
  gc (bo r2.1) <|
  some (r2.1, r2.2.1, v1, r2.2.2.1, r2.2.2.2.1, r2.2.2.2.2.1, r2.2.2.2.2.2.1, r2.2.2.2.2.2.2.1, r2.2.2.2.2.2.2.2.1, r2.2.2.2.2.2.2.2.2.1, r2.2.2.2.2.2.2.2.2.2)
def g_X6_fitsDigit_b53 (t_tokens : Int32) (t_mostSpoons : Int32) (t_spoons : Int32) (t_values : Nat → Int32) (t_firsts : Nat → Int32) (t_kinds : Nat → Int32) (t_parts : Nat → Int32) (t_spoonPlaces : Nat → Int32) (t_lastParts : Nat → Int32) (p1 : Int32) (x2_53 : Int32) : Option (Int32 × Int32 × Int32 × Int32 × Int32 × (Nat → Int32) × (Nat → Int32) × (Nat → Int32) × (Nat → Int32) × (Nat → Int32) × (Nat → Int32)) :=
  gb (g_X6_fitsToken t_tokens t_mostSpoons t_spoons t_firsts t_kinds t_values t_parts t_spoonPlaces t_lastParts (1 : Int32) p1 x2_53 (0 : Int32) (1 : Int32)) fun r3 =>
  gc (bo r3.1) <|
  some (r3.1, r3.2.1, r3.2.2.1, r3.2.2.2.1, 1, r3.2.2.2.2.2.2.1, r3.2.2.2.2.1, r3.2.2.2.2.2.1, r3.2.2.2.2.2.2.2.1, r3.2.2.2.2.2.2.2.2.1, r3.2.2.2.2.2.2.2.2.2)
def g_X6_fitsDigit (t_tokens : Int32) (t_mostSpoons : Int32) (t_spoons : Int32) (t_awaitsDigit : Int32) (t_values : Nat → Int32) (t_firsts : Nat → Int32) (t_kinds : Nat → Int32) (t_parts : Nat → Int32) (t_spoonPlaces : Nat → Int32) (t_lastParts : Nat → Int32) (p1 : Int32) : Option (Int32 × Int32 × Int32 × Int32 × Int32 × (Nat → Int32) × (Nat → Int32) × (Nat → Int32) × (Nat → Int32) × (Nat → Int32) × (Nat → Int32)) :=
  gl (p1 - 48) fun v1 =>
  gl (t_tokens - 1) fun v2 =>
  if t_awaitsDigit = 0 then
    g_X6_fitsDigit_b53 t_tokens t_mostSpoons t_spoons t_values t_firsts t_kinds t_parts t_spoonPlaces t_lastParts p1 v1
  else
    if v2 < 0 then
      g_X6_fitsDigit_b53 t_tokens t_mostSpoons t_spoons t_values t_firsts t_kinds t_parts t_spoonPlaces t_lastParts p1 v1
    else
      if 24 ≤ v2 then
        g_X6_fitsDigit_b53 t_tokens t_mostSpoons t_spoons t_values t_firsts t_kinds t_parts t_spoonPlaces t_lastParts p1 v1
      else
        gc (inb v2 24) <|
        gc (inb v2 24) <|
        some (1, t_tokens, t_mostSpoons, t_spoons, 0, (upd t_values v2.toNatClampNeg (((t_values v2.toNatClampNeg) * 10) + v1)), t_firsts, t_kinds, t_parts, t_spoonPlaces, t_lastParts)
def g_X6_fits_b55 (t_tokens : Int32) (t_stores : Int32) (t_mostSpoons : Int32) (t_spoons : Int32) (t_awaitsLetter : Int32) (t_values : Nat → Int32) (t_firsts : Nat → Int32) (t_kinds : Nat → Int32) (t_parts : Nat → Int32) (t_spoonPlaces : Nat → Int32) (t_lastParts : Nat → Int32) (p1 : Int32) : Option (Int32 × Int32 × Int32 × Int32 × Int32 × Int32 × Int32 × (Nat → Int32) × (Nat → Int32) × (Nat → Int32) × (Nat → Int32) × (Nat → Int32) × (Nat → Int32)) :=
  gb (g_X6_isLetter p1) fun r4 =>
  if r4 = 0 then
    if p1 = 33 then
      gb (g_X6_fitsToken t_tokens t_mostSpoons t_spoons t_firsts t_kinds t_values t_parts t_spoonPlaces t_lastParts (6 : Int32) p1 (0 : Int32) (1 : Int32) (1 : Int32)) fun r5 =>
      gc (bo r5.1) <|
      some (r5.1, r5.2.1, t_stores, r5.2.2.1, r5.2.2.2.1, t_awaitsLetter, 0, r5.2.2.2.2.2.2.1, r5.2.2.2.2.1, r5.2.2.2.2.2.1, r5.2.2.2.2.2.2.2.1, r5.2.2.2.2.2.2.2.2.1, r5.2.2.2.2.2.2.2.2.2)
    else
      if p1 = 42 then
        gb (g_X6_fitsToken t_tokens t_mostSpoons t_spoons t_firsts t_kinds t_values t_parts t_spoonPlaces t_lastParts (4 : Int32) p1 (0 : Int32) (2 : Int32) (1 : Int32)) fun r6 =>
        gc (bo r6.1) <|
        some (r6.1, r6.2.1, t_stores, r6.2.2.1, r6.2.2.2.1, t_awaitsLetter, 0, r6.2.2.2.2.2.2.1, r6.2.2.2.2.1, r6.2.2.2.2.2.1, r6.2.2.2.2.2.2.2.1, r6.2.2.2.2.2.2.2.2.1, r6.2.2.2.2.2.2.2.2.2)
      else
        if p1 = 43 then
          gb (g_X6_fitsToken t_tokens t_mostSpoons t_spoons t_firsts t_kinds t_values t_parts t_spoonPlaces t_lastParts (2 : Int32) p1 (0 : Int32) (2 : Int32) (1 : Int32)) fun r7 =>
          gc (bo r7.1) <|
          some (r7.1, r7.2.1, t_stores, r7.2.2.1, r7.2.2.2.1, t_awaitsLetter, 0, r7.2.2.2.2.2.2.1, r7.2.2.2.2.1, r7.2.2.2.2.2.1, r7.2.2.2.2.2.2.2.1, r7.2.2.2.2.2.2.2.2.1, r7.2.2.2.2.2.2.2.2.2)
        else
          if p1 = 45 then
            gb (g_X6_fitsToken t_tokens t_mostSpoons t_spoons t_firsts t_kinds t_values t_parts t_spoonPlaces t_lastParts (3 : Int32) p1 (0 : Int32) (2 : Int32) (1 : Int32)) fun r8 =>
            gc (bo r8.1) <|
            some (r8.1, r8.2.1, t_stores, r8.2.2.1, r8.2.2.2.1, t_awaitsLetter, 0, r8.2.2.2.2.2.2.1, r8.2.2.2.2.1, r8.2.2.2.2.2.1, r8.2.2.2.2.2.2.2.1, r8.2.2.2.2.2.2.2.2.1, r8.2.2.2.2.2.2.2.2.2)
          else
            if p1 = 61 then
              if t_spoons ≤ 0 then
                some (0, t_tokens, t_stores, t_mostSpoons, t_spoons, 1, 0, t_values, t_firsts, t_kinds, t_parts, t_spoonPlaces, t_lastParts)
              else
                some (1, t_tokens, t_stores, t_mostSpoons, t_spoons, 1, 0, t_values, t_firsts, t_kinds, t_parts, t_spoonPlaces, t_lastParts)
            else
              if p1 = 126 then
                gb (g_X6_fitsToken t_tokens t_mostSpoons t_spoons t_firsts t_kinds t_values t_parts t_spoonPlaces t_lastParts (5 : Int32) p1 (0 : Int32) (1 : Int32) (1 : Int32)) fun r9 =>
                gc (bo r9.1) <|
                some (r9.1, r9.2.1, t_stores, r9.2.2.1, r9.2.2.2.1, t_awaitsLetter, 0, r9.2.2.2.2.2.2.1, r9.2.2.2.2.1, r9.2.2.2.2.2.1, r9.2.2.2.2.2.2.2.1, r9.2.2.2.2.2.2.2.2.1, r9.2.2.2.2.2.2.2.2.2)
              else
                some (0, t_tokens, t_stores, t_mostSpoons, t_spoons, t_awaitsLetter, 0, t_values, t_firsts, t_kinds, t_parts, t_spoonPlaces, t_lastParts)
  else
    gb (g_X6_fitsToken t_tokens t_mostSpoons t_spoons t_firsts t_kinds t_values t_parts t_spoonPlaces t_lastParts (0 : Int32) p1 (p1 - 97) (0 : Int32) (1 : Int32)) fun r10 =>
    gc (bo r10.1) <|
    some (r10.1, r10.2.1, t_stores, r10.2.2.1, r10.2.2.2.1, t_awaitsLetter, 0, r10.2.2.2.2.2.2.1, r10.2.2.2.2.1, r10.2.2.2.2.2.1, r10.2.2.2.2.2.2.2.1, r10.2.2.2.2.2.2.2.2.1, r10.2.2.2.2.2.2.2.2.2)
def g_X6_fits (t_tokens : Int32) (t_stores : Int32) (t_mostSpoons : Int32) (t_spoons : Int32) (t_awaitsLetter : Int32) (t_awaitsDigit : Int32) (t_values : Nat → Int32) (t_firsts : Nat → Int32) (t_kinds : Nat → Int32) (t_parts : Nat → Int32) (t_spoonPlaces : Nat → Int32) (t_lastParts : Nat → Int32) (p1 : Int32) : Option (Int32 × Int32 × Int32 × Int32 × Int32 × Int32 × Int32 × (Nat → Int32) × (Nat → Int32) × (Nat → Int32) × (Nat → Int32) × (Nat → Int32) × (Nat → Int32)) :=
  if t_awaitsLetter = 0 then
    if p1 < 48 then
      g_X6_fits_b55 t_tokens t_stores t_mostSpoons t_spoons t_awaitsLetter t_values t_firsts t_kinds t_parts t_spoonPlaces t_lastParts p1
    else
      if 57 < p1 then
        g_X6_fits_b55 t_tokens t_stores t_mostSpoons t_spoons t_awaitsLetter t_values t_firsts t_kinds t_parts t_spoonPlaces t_lastParts p1
      else
        gb (g_X6_fitsDigit t_tokens t_mostSpoons t_spoons t_awaitsDigit t_values t_firsts t_kinds t_parts t_spoonPlaces t_lastParts p1) fun r1 =>
        gc (bo r1.1) <|
        some (r1.1, r1.2.1, t_stores, r1.2.2.1, r1.2.2.2.1, t_awaitsLetter, r1.2.2.2.2.1, r1.2.2.2.2.2.1, r1.2.2.2.2.2.2.1, r1.2.2.2.2.2.2.2.1, r1.2.2.2.2.2.2.2.2.1, r1.2.2.2.2.2.2.2.2.2.1, r1.2.2.2.2.2.2.2.2.2.2)
  else
    gb (g_X6_isLetter p1) fun r2 =>
    if r2 = 0 then
      some (0, t_tokens, t_stores, t_mostSpoons, t_spoons, 0, t_awaitsDigit, t_values, t_firsts, t_kinds, t_parts, t_spoonPlaces, t_lastParts)
    else
      gb (g_X6_fitsStore t_tokens t_stores t_mostSpoons t_spoons t_firsts t_kinds t_values t_parts t_spoonPlaces t_lastParts (p1 - 97)) fun r3 =>
      if r3.1 = 0 then
        some (0, r3.2.1, r3.2.2.1, r3.2.2.2.1, r3.2.2.2.2.1, 0, t_awaitsDigit, r3.2.2.2.2.2.2.2.1, r3.2.2.2.2.2.1, r3.2.2.2.2.2.2.1, r3.2.2.2.2.2.2.2.2.1, r3.2.2.2.2.2.2.2.2.2.1, r3.2.2.2.2.2.2.2.2.2.2)
      else
        some (1, r3.2.1, r3.2.2.1, r3.2.2.2.1, r3.2.2.2.2.1, 0, t_awaitsDigit, r3.2.2.2.2.2.2.2.1, r3.2.2.2.2.2.1, r3.2.2.2.2.2.2.1, r3.2.2.2.2.2.2.2.2.1, r3.2.2.2.2.2.2.2.2.2.1, r3.2.2.2.2.2.2.2.2.2.2)
def g_X6_errorIn_b40 (n_p1 : Nat) (p1 : Nat → Int32) : Nat → (Nat → Int32) → (Nat → Int32) → (Nat → Int32) → (Nat → Int32) → (Nat → Int32) → (Nat → Int32) → Int32 → Int32 → Int32 → Int32 → Int32 → Int32 → Int32 → Int32 → Option (Int32 × Int32 × Int32 × Int32 × Int32 × Int32 × Int32 × (Nat → Int32) × (Nat → Int32) × (Nat → Int32) × (Nat → Int32) × (Nat → Int32) × (Nat → Int32))
  | 0, _, _, _, _, _, _, _, _, _, _, _, _, _, _ => none
  | n + 1, t_firsts_40, t_kinds_40, t_lastParts_40, t_parts_40, t_spoonPlaces_40, t_values_40, t_tokens_40, t_stores_40, t_awaitsLetter_40, t_awaitsDigit_40, t_mostSpoons_40, t_spoons_40, x3_40, x4_40 =>
    if x3_40 ≤ x4_40 then
      if t_stores_40 ≤ 0 then
        some (x3_40, t_tokens_40, t_stores_40, t_mostSpoons_40, t_spoons_40, t_awaitsLetter_40, t_awaitsDigit_40, t_values_40, t_firsts_40, t_kinds_40, t_parts_40, t_spoonPlaces_40, t_lastParts_40)
      else
        if t_spoons_40 = 0 then
          if t_awaitsLetter_40 = 0 then
            some ((-1), t_tokens_40, t_stores_40, t_mostSpoons_40, t_spoons_40, t_awaitsLetter_40, t_awaitsDigit_40, t_values_40, t_firsts_40, t_kinds_40, t_parts_40, t_spoonPlaces_40, t_lastParts_40)
          else
            some (x3_40, t_tokens_40, t_stores_40, t_mostSpoons_40, t_spoons_40, t_awaitsLetter_40, t_awaitsDigit_40, t_values_40, t_firsts_40, t_kinds_40, t_parts_40, t_spoonPlaces_40, t_lastParts_40)
        else
          some (x3_40, t_tokens_40, t_stores_40, t_mostSpoons_40, t_spoons_40, t_awaitsLetter_40, t_awaitsDigit_40, t_values_40, t_firsts_40, t_kinds_40, t_parts_40, t_spoonPlaces_40, t_lastParts_40)
    else
      gc (inb x4_40 n_p1) <|
      gb (g_X6_fits t_tokens_40 t_stores_40 t_mostSpoons_40 t_spoons_40 t_awaitsLetter_40 t_awaitsDigit_40 t_values_40 t_firsts_40 t_kinds_40 t_parts_40 t_spoonPlaces_40 t_lastParts_40 (p1 x4_40.toNatClampNeg)) fun r2 =>
      if r2.1 = 0 then
        some (x4_40, r2.2.1, r2.2.2.1, r2.2.2.2.1, r2.2.2.2.2.1, r2.2.2.2.2.2.1, r2.2.2.2.2.2.2.1, r2.2.2.2.2.2.2.2.1, r2.2.2.2.2.2.2.2.2.1, r2.2.2.2.2.2.2.2.2.2.1, r2.2.2.2.2.2.2.2.2.2.2.1, r2.2.2.2.2.2.2.2.2.2.2.2.1, r2.2.2.2.2.2.2.2.2.2.2.2.2)
      else
        gl (x4_40 + 1) fun v3 =>
        (g_X6_errorIn_b40 n_p1 p1 n) r2.2.2.2.2.2.2.2.2.1 r2.2.2.2.2.2.2.2.2.2.1 r2.2.2.2.2.2.2.2.2.2.2.2.2 r2.2.2.2.2.2.2.2.2.2.2.1 r2.2.2.2.2.2.2.2.2.2.2.2.1 r2.2.2.2.2.2.2.2.1 r2.2.1 r2.2.2.1 r2.2.2.2.2.2.1 r2.2.2.2.2.2.2.1 r2.2.2.2.1 r2.2.2.2.2.1 x3_40 v3
def g_X6_errorIn (n_p1 : Nat) (t_tokens : Int32) (t_stores : Int32) (t_mostSpoons : Int32) (t_spoons : Int32) (t_awaitsLetter : Int32) (t_awaitsDigit : Int32) (p1 : Nat → Int32) (t_values : Nat → Int32) (t_firsts : Nat → Int32) (t_kinds : Nat → Int32) (t_parts : Nat → Int32) (t_spoonPlaces : Nat → Int32) (t_lastParts : Nat → Int32) (p2 : Int32) : Option (Int32 × Int32 × Int32 × Int32 × Int32 × Int32 × Int32 × (Nat → Int32) × (Nat → Int32) × (Nat → Int32) × (Nat → Int32) × (Nat → Int32) × (Nat → Int32)) :=
  gl (if (nI n_p1) < p2 then (nI n_p1) else p2) fun v1 =>
  g_X6_errorIn_b40 n_p1 p1 100 t_firsts t_kinds t_lastParts t_parts t_spoonPlaces t_values 0 0 0 0 0 0 v1 0
def g_X6_placeBeyond_b48 (t_tokens : Int32) (t_kinds : Nat → Int32) (t_values : Nat → Int32) (p1 : Int32) (k2 : Int32 → Option (Int32)) (x2_48 : Int32) : Option (Int32) :=
  gl (x2_48 + 1) fun v1 =>
  k2 v1
def g_X6_placeBeyond_b36 (t_tokens : Int32) (t_kinds : Nat → Int32) (t_values : Nat → Int32) (p1 : Int32) (k2 : Int32 → Option (Int32)) (x2_36 : Int32) : Option (Int32) :=
  gc (inb x2_36 24) <|
  if (t_values x2_36.toNatClampNeg) < p1 then
    g_X6_placeBeyond_b48 t_tokens t_kinds t_values p1 k2 x2_36
  else
    some (x2_36)
def g_X6_placeBeyond_b2 (t_tokens : Int32) (t_kinds : Nat → Int32) (t_values : Nat → Int32) (p1 : Int32) : Nat → Int32 → Option (Int32)
  | 0, _ => none
  | n + 1, x2_2 =>
    if t_tokens ≤ x2_2 then
      some ((-1))
    else
      if 24 ≤ x2_2 then
        some ((-1))
      else
        gc (inb x2_2 24) <|
        if (t_kinds x2_2.toNatClampNeg) = 0 then
          g_X6_placeBeyond_b36 t_tokens t_kinds t_values p1 (g_X6_placeBeyond_b2 t_tokens t_kinds t_values p1 n) x2_2
        else
          gc (inb x2_2 24) <|
          if (t_kinds x2_2.toNatClampNeg) = 7 then
            g_X6_placeBeyond_b36 t_tokens t_kinds t_values p1 (g_X6_placeBeyond_b2 t_tokens t_kinds t_values p1 n) x2_2
          else
            g_X6_placeBeyond_b48 t_tokens t_kinds t_values p1 (g_X6_placeBeyond_b2 t_tokens t_kinds t_values p1 n) x2_2
def g_X6_placeBeyond (t_tokens : Int32) (t_kinds : Nat → Int32) (t_values : Nat → Int32) (p1 : Int32) : Option (Int32) :=
  g_X6_placeBeyond_b2 t_tokens t_kinds t_values p1 100 0
def g_X9_lay (t_spoons : Int32) (t_isBroth : Nat → Int32) (t_low : Nat → Int64) (t_high : Nat → Int64) (p1 : Int32) (p2 : Int64) (p3 : Int64) : Option (Int32 × Int32 × (Nat → Int32) × (Nat → Int64) × (Nat → Int64)) :=
  if t_spoons < 0 then
    some (0, t_spoons, t_isBroth, t_low, t_high)
  else
    if t_spoons < 5 then
      gc (inb t_spoons 5) <|
      gc (inb t_spoons 5) <|
      gc (inb t_spoons 5) <|
      gl (t_spoons + 1) fun v1 =>
      some (1, v1, (upd t_isBroth t_spoons.toNatClampNeg (vp_nar .boolean p1)), (vp_updL t_low t_spoons.toNatClampNeg p2), (vp_updL t_high t_spoons.toNatClampNeg p3))
    else
      some (0, t_spoons, t_isBroth, t_low, t_high)
def g_X9_passesCast (t_spoons : Int32) (t_isBroth : Nat → Int32) (t_low : Nat → Int64) (t_high : Nat → Int64) (p1 : Int32) : Option (Int32 × (Nat → Int32) × (Nat → Int64) × (Nat → Int64)) :=
  gl (t_spoons - 1) fun v1 =>
  if v1 < 0 then
    some (0, t_isBroth, t_low, t_high)
  else
    if 5 ≤ v1 then
      some (0, t_isBroth, t_low, t_high)
    else
      gc (inb v1 5) <|
      if (t_isBroth v1.toNatClampNeg) = p1 then
        some (0, t_isBroth, t_low, t_high)
      else
        gc (inb v1 5) <|
        gc (inb v1 5) <|
        gc (inb v1 5) <|
        some (1, (upd t_isBroth v1.toNatClampNeg (vp_nar .boolean p1)), (vp_updL t_low v1.toNatClampNeg (-99 : Int64)), (vp_updL t_high v1.toNatClampNeg (99 : Int64)))
def g_X9_passesStore (t_stores : Int32) (t_spoons : Int32) (t_storeIsBroth : Nat → Int32) (t_isBroth : Nat → Int32) (t_storeLow : Nat → Int64) (t_low : Nat → Int64) (t_storeHigh : Nat → Int64) (t_high : Nat → Int64) (p2_isBroth : Nat → Int32) (p2_low : Nat → Int32) (p2_high : Nat → Int32) (p1 : Int32) : Option (Int32 × Int32 × Int32 × (Nat → Int32) × (Nat → Int64) × (Nat → Int64)) :=
  gl (t_spoons - 1) fun v1 =>
  if v1 < 0 then
    some (0, t_stores, t_spoons, t_storeIsBroth, t_storeLow, t_storeHigh)
  else
    if 5 ≤ v1 then
      some (0, t_stores, t_spoons, t_storeIsBroth, t_storeLow, t_storeHigh)
    else
      if t_stores < 0 then
        some (0, t_stores, t_spoons, t_storeIsBroth, t_storeLow, t_storeHigh)
      else
        if t_stores < 24 then
          gl (t_spoons - 1) fun v2 =>
          gc (inb v1 5) <|
          gc (inb t_stores 24) <|
          gc (inb v1 5) <|
          gc (inb t_stores 24) <|
          gc (inb v1 5) <|
          gc (inb t_stores 24) <|
          gl (t_stores + 1) fun v3 =>
          gc (inb v1 5) <|
          gc (inb p1 6) <|
          if (t_isBroth v1.toNatClampNeg) = (p2_isBroth p1.toNatClampNeg) then
            gc (inb v1 5) <|
            if (t_isBroth v1.toNatClampNeg) = 0 then
              gc (inb v1 5) <|
              gb (g_X0_holds p2_low p2_high p1 (t_low v1.toNatClampNeg)) fun r4 =>
              if r4 = 0 then
                some (0, v3, v2, (upd t_storeIsBroth t_stores.toNatClampNeg (vp_nar .boolean (t_isBroth v1.toNatClampNeg))), (vp_updL t_storeLow t_stores.toNatClampNeg (t_low v1.toNatClampNeg)), (vp_updL t_storeHigh t_stores.toNatClampNeg (t_high v1.toNatClampNeg)))
              else
                gc (inb v1 5) <|
                gb (g_X0_holds p2_low p2_high p1 (t_high v1.toNatClampNeg)) fun r5 =>
                if r5 = 0 then
                  some (0, v3, v2, (upd t_storeIsBroth t_stores.toNatClampNeg (vp_nar .boolean (t_isBroth v1.toNatClampNeg))), (vp_updL t_storeLow t_stores.toNatClampNeg (t_low v1.toNatClampNeg)), (vp_updL t_storeHigh t_stores.toNatClampNeg (t_high v1.toNatClampNeg)))
                else
                  some (1, v3, v2, (upd t_storeIsBroth t_stores.toNatClampNeg (vp_nar .boolean (t_isBroth v1.toNatClampNeg))), (vp_updL t_storeLow t_stores.toNatClampNeg (t_low v1.toNatClampNeg)), (vp_updL t_storeHigh t_stores.toNatClampNeg (t_high v1.toNatClampNeg)))
            else
              some (1, v3, v2, (upd t_storeIsBroth t_stores.toNatClampNeg (vp_nar .boolean (t_isBroth v1.toNatClampNeg))), (vp_updL t_storeLow t_stores.toNatClampNeg (t_low v1.toNatClampNeg)), (vp_updL t_storeHigh t_stores.toNatClampNeg (t_high v1.toNatClampNeg)))
          else
            some (0, v3, v2, (upd t_storeIsBroth t_stores.toNatClampNeg (vp_nar .boolean (t_isBroth v1.toNatClampNeg))), (vp_updL t_storeLow t_stores.toNatClampNeg (t_low v1.toNatClampNeg)), (vp_updL t_storeHigh t_stores.toNatClampNeg (t_high v1.toNatClampNeg)))
        else
          some (0, t_stores, t_spoons, t_storeIsBroth, t_storeLow, t_storeHigh)
def g_X9_passesReckoning (t_spoons : Int32) (t_isBroth : Nat → Int32) (t_low : Nat → Int64) (t_high : Nat → Int64) (p1 : Int32) : Option (Int32 × Int32 × (Nat → Int64) × (Nat → Int64)) :=
  gl (t_spoons - 1) fun v1 =>
  gl (t_spoons - 2) fun v2 =>
  if v2 < 0 then
    some (0, t_spoons, t_low, t_high)
  else
    if 5 ≤ v1 then
      some (0, t_spoons, t_low, t_high)
    else
      gc (inb v2 5) <|
      gc (inb v1 5) <|
      if (t_isBroth v2.toNatClampNeg) = (t_isBroth v1.toNatClampNeg) then
        gl (t_spoons - 1) fun v3 =>
        gc (inb v2 5) <|
        if (t_isBroth v2.toNatClampNeg) = 0 then
          gc (inb v2 5) <|
          gc (inb v2 5) <|
          gc (inb v1 5) <|
          gc (inb v1 5) <|
          gb (g_X5_lowest p1 (t_low v2.toNatClampNeg) (t_high v2.toNatClampNeg) (t_low v1.toNatClampNeg) (t_high v1.toNatClampNeg)) fun r4 =>
          gc (inb v2 5) <|
          gc (inb v2 5) <|
          gc (inb v1 5) <|
          gc (inb v1 5) <|
          gb (g_X5_highest p1 (t_low v2.toNatClampNeg) (t_high v2.toNatClampNeg) (t_low v1.toNatClampNeg) (t_high v1.toNatClampNeg)) fun r5 =>
          gc (inb v2 5) <|
          gc (inb v2 5) <|
          gb (g_X5_excess r4) fun r6 =>
          if r6 = 0 then
            gb (g_X5_excess r5) fun r7 =>
            if r7 = 0 then
              some (1, v3, (vp_updL t_low v2.toNatClampNeg r4), (vp_updL t_high v2.toNatClampNeg r5))
            else
              some (0, v3, (vp_updL t_low v2.toNatClampNeg r4), (vp_updL t_high v2.toNatClampNeg r5))
          else
            some (0, v3, (vp_updL t_low v2.toNatClampNeg r4), (vp_updL t_high v2.toNatClampNeg r5))
        else
          some (1, v3, t_low, t_high)
      else
        some (0, t_spoons, t_low, t_high)
def g_X9_passesToken_b138 (t_stores : Int32) (t_spoons : Int32) (t_isBroth : Nat → Int32) (t_low : Nat → Int64) (t_high : Nat → Int64) (t_storeIsBroth : Nat → Int32) (t_storeLow : Nat → Int64) (t_storeHigh : Nat → Int64) (p1 : Int32) : Option (Int32 × Int32 × Int32 × (Nat → Int32) × (Nat → Int64) × (Nat → Int64) × (Nat → Int32) × (Nat → Int64) × (Nat → Int64)) :=
  gb (g_X9_passesReckoning t_spoons t_isBroth t_low t_high p1) fun r6 =>
  gc (bo r6.1) <|
  some (r6.1, t_stores, r6.2.1, t_isBroth, r6.2.2.1, r6.2.2.2, t_storeIsBroth, t_storeLow, t_storeHigh)
def g_X9_passesToken (t_stores : Int32) (t_spoons : Int32) (p3_isBroth : Nat → Int32) (p3_low : Nat → Int32) (p3_high : Nat → Int32) (t_isBroth : Nat → Int32) (t_low : Nat → Int64) (t_high : Nat → Int64) (t_storeIsBroth : Nat → Int32) (t_storeLow : Nat → Int64) (t_storeHigh : Nat → Int64) (p1 : Int32) (p2 : Int32) : Option (Int32 × Int32 × Int32 × (Nat → Int32) × (Nat → Int64) × (Nat → Int64) × (Nat → Int32) × (Nat → Int64) × (Nat → Int64)) :=
  if p1 = 0 then
    if p2 < 0 then
      some (0, t_stores, t_spoons, t_isBroth, t_low, t_high, t_storeIsBroth, t_storeLow, t_storeHigh)
    else
      if 6 ≤ p2 then
        some (0, t_stores, t_spoons, t_isBroth, t_low, t_high, t_storeIsBroth, t_storeLow, t_storeHigh)
      else
        gc (inb p2 6) <|
        gc (inb p2 6) <|
        gc (inb p2 6) <|
        gb (g_X9_lay t_spoons t_isBroth t_low t_high (p3_isBroth p2.toNatClampNeg) ((p3_low p2.toNatClampNeg).toInt64) ((p3_high p2.toNatClampNeg).toInt64)) fun r1 =>
        if r1.1 = 0 then
          some (0, t_stores, r1.2.1, r1.2.2.1, r1.2.2.2.1, r1.2.2.2.2, t_storeIsBroth, t_storeLow, t_storeHigh)
        else
          some (1, t_stores, r1.2.1, r1.2.2.1, r1.2.2.2.1, r1.2.2.2.2, t_storeIsBroth, t_storeLow, t_storeHigh)
  else
    if p1 = 1 then
      gb (g_X9_lay t_spoons t_isBroth t_low t_high (0 : Int32) p2.toInt64 p2.toInt64) fun r2 =>
      gc (bo r2.1) <|
      some (r2.1, t_stores, r2.2.1, r2.2.2.1, r2.2.2.2.1, r2.2.2.2.2, t_storeIsBroth, t_storeLow, t_storeHigh)
    else
      if p1 = 2 then
        g_X9_passesToken_b138 t_stores t_spoons t_isBroth t_low t_high t_storeIsBroth t_storeLow t_storeHigh p1
      else
        if p1 = 3 then
          g_X9_passesToken_b138 t_stores t_spoons t_isBroth t_low t_high t_storeIsBroth t_storeLow t_storeHigh p1
        else
          if p1 = 4 then
            g_X9_passesToken_b138 t_stores t_spoons t_isBroth t_low t_high t_storeIsBroth t_storeLow t_storeHigh p1
          else
            if p1 = 5 then
              gb (g_X9_passesCast t_spoons t_isBroth t_low t_high (1 : Int32)) fun r3 =>
              gc (bo r3.1) <|
              some (r3.1, t_stores, t_spoons, r3.2.1, r3.2.2.1, r3.2.2.2, t_storeIsBroth, t_storeLow, t_storeHigh)
            else
              if p1 = 6 then
                gb (g_X9_passesCast t_spoons t_isBroth t_low t_high (0 : Int32)) fun r4 =>
                gc (bo r4.1) <|
                some (r4.1, t_stores, t_spoons, r4.2.1, r4.2.2.1, r4.2.2.2, t_storeIsBroth, t_storeLow, t_storeHigh)
              else
                if p1 = 7 then
                  if p2 < 0 then
                    some (0, t_stores, t_spoons, t_isBroth, t_low, t_high, t_storeIsBroth, t_storeLow, t_storeHigh)
                  else
                    if 6 ≤ p2 then
                      some (0, t_stores, t_spoons, t_isBroth, t_low, t_high, t_storeIsBroth, t_storeLow, t_storeHigh)
                    else
                      gb (g_X9_passesStore t_stores t_spoons t_storeIsBroth t_isBroth t_storeLow t_low t_storeHigh t_high p3_isBroth p3_low p3_high p2) fun r5 =>
                      if r5.1 = 0 then
                        some (0, r5.2.1, r5.2.2.1, t_isBroth, t_low, t_high, r5.2.2.2.1, r5.2.2.2.2.1, r5.2.2.2.2.2)
                      else
                        some (1, r5.2.1, r5.2.2.1, t_isBroth, t_low, t_high, r5.2.2.2.1, r5.2.2.2.2.1, r5.2.2.2.2.2)
                else
                  g_X9_passesToken_b138 t_stores t_spoons t_isBroth t_low t_high t_storeIsBroth t_storeLow t_storeHigh p1
def g_X9_passes_b17 (p1_tokens : Int32) (p1_kinds : Nat → Int32) (p1_values : Nat → Int32) (p2_isBroth : Nat → Int32) (p2_low : Nat → Int32) (p2_high : Nat → Int32) : Nat → (Nat → Int64) → (Nat → Int32) → (Nat → Int64) → (Nat → Int64) → (Nat → Int32) → (Nat → Int64) → Int32 → Int32 → Int32 → Option (Int32 × Int32 × Int32 × Int32 × (Nat → Int32) × (Nat → Int64) × (Nat → Int64) × (Nat → Int32) × (Nat → Int64) × (Nat → Int64))
  | 0, _, _, _, _, _, _, _, _, _ => none
  | n + 1, t_high_17, t_isBroth_17, t_low_17, t_storeHigh_17, t_storeIsBroth_17, t_storeLow_17, t_stores_17, t_spoons_17, x3_17 =>
    if p1_tokens ≤ x3_17 then
      some (1, (-1), t_stores_17, t_spoons_17, t_isBroth_17, t_low_17, t_high_17, t_storeIsBroth_17, t_storeLow_17, t_storeHigh_17)
    else
      gc (inb x3_17 24) <|
      gc (inb x3_17 24) <|
      gb (g_X9_passesToken t_stores_17 t_spoons_17 p2_isBroth p2_low p2_high t_isBroth_17 t_low_17 t_high_17 t_storeIsBroth_17 t_storeLow_17 t_storeHigh_17 (p1_kinds x3_17.toNatClampNeg) (p1_values x3_17.toNatClampNeg)) fun r1 =>
      if r1.1 = 0 then
        some (0, x3_17, r1.2.1, r1.2.2.1, r1.2.2.2.1, r1.2.2.2.2.1, r1.2.2.2.2.2.1, r1.2.2.2.2.2.2.1, r1.2.2.2.2.2.2.2.1, r1.2.2.2.2.2.2.2.2)
      else
        gl (x3_17 + 1) fun v2 =>
        (g_X9_passes_b17 p1_tokens p1_kinds p1_values p2_isBroth p2_low p2_high n) r1.2.2.2.2.2.1 r1.2.2.2.1 r1.2.2.2.2.1 r1.2.2.2.2.2.2.2.2 r1.2.2.2.2.2.2.1 r1.2.2.2.2.2.2.2.1 r1.2.1 r1.2.2.1 v2
def g_X9_passes (t_faultAt : Int32) (t_stores : Int32) (t_spoons : Int32) (p1_tokens : Int32) (p1_kinds : Nat → Int32) (p1_values : Nat → Int32) (p2_isBroth : Nat → Int32) (p2_low : Nat → Int32) (p2_high : Nat → Int32) (t_isBroth : Nat → Int32) (t_low : Nat → Int64) (t_high : Nat → Int64) (t_storeIsBroth : Nat → Int32) (t_storeLow : Nat → Int64) (t_storeHigh : Nat → Int64) : Option (Int32 × Int32 × Int32 × Int32 × (Nat → Int32) × (Nat → Int64) × (Nat → Int64) × (Nat → Int32) × (Nat → Int64) × (Nat → Int64)) :=
  g_X9_passes_b17 p1_tokens p1_kinds p1_values p2_isBroth p2_low p2_high 100 t_high t_isBroth t_low t_storeHigh t_storeIsBroth t_storeLow 0 0 0
def g_X0_copy_b91 (LS : List Nat) (p1_cauldrons : Int32) (p1_spells : Int32) (p1_cookedSoFar : Int32) (p1_storesSoFar : Int32) (p1_texts : Nat → Option Nat) (p1_cooked : Nat → Int32) : Nat → (Nat → Int32) → (Nat → UInt32) → (Nat → Int32) → (Nat → Int32) → (Nat → Int32) → (Nat → Int32) → (Nat → Int32) → (Nat → Option Nat) → Int32 → Option (Int32 × Int32 × Int32 × Int32 × (Nat → Int32) × (Nat → UInt32) × (Nat → Int32) × (Nat → Int32) × (Nat → Int32) × (Nat → Int32) × (Nat → Option Nat) × (Nat → Int32))
  | 0, _, _, _, _, _, _, _, _, _ => none
  | n + 1, t_contents_many_91, t_contents_much_91, t_cooked_91, t_high_91, t_isBroth_91, t_low_91, t_storesIn_91, t_texts_91, x2_91 =>
    if 4 ≤ x2_91 then
      some (p1_cauldrons, p1_spells, p1_cookedSoFar, p1_storesSoFar, t_contents_many_91, t_contents_much_91, t_isBroth_91, t_low_91, t_high_91, t_storesIn_91, t_texts_91, t_cooked_91)
    else
      gc (inb x2_91 4) <|
      gc (inb x2_91 4) <|
      gc (oin9 LS (p1_texts x2_91.toNatClampNeg)) <|
      gc (inb x2_91 4) <|
      gc (inb x2_91 4) <|
      gl (x2_91 + 1) fun v1 =>
      (g_X0_copy_b91 LS p1_cauldrons p1_spells p1_cookedSoFar p1_storesSoFar p1_texts p1_cooked n) t_contents_many_91 t_contents_much_91 (upd t_cooked_91 x2_91.toNatClampNeg (p1_cooked x2_91.toNatClampNeg)) t_high_91 t_isBroth_91 t_low_91 t_storesIn_91 (va_up t_texts_91 x2_91.toNatClampNeg (p1_texts x2_91.toNatClampNeg)) v1
def g_X0_copy_b10 (LS : List Nat) (p1_cauldrons : Int32) (p1_spells : Int32) (p1_cookedSoFar : Int32) (p1_storesSoFar : Int32) (t_contents_many : Nat → Int32) (p1_contents_many : Nat → Int32) (t_contents_much : Nat → UInt32) (p1_contents_much : Nat → UInt32) (p1_isBroth : Nat → Int32) (p1_low : Nat → Int32) (p1_high : Nat → Int32) (p1_storesIn : Nat → Int32) (t_texts : Nat → Option Nat) (p1_texts : Nat → Option Nat) (t_cooked : Nat → Int32) (p1_cooked : Nat → Int32) : Nat → (Nat → Int32) → (Nat → Int32) → (Nat → Int32) → (Nat → Int32) → Int32 → Option (Int32 × Int32 × Int32 × Int32 × (Nat → Int32) × (Nat → UInt32) × (Nat → Int32) × (Nat → Int32) × (Nat → Int32) × (Nat → Int32) × (Nat → Option Nat) × (Nat → Int32))
  | 0, _, _, _, _, _ => none
  | n + 1, t_high_10, t_isBroth_10, t_low_10, t_storesIn_10, x2_10 =>
    if 6 ≤ x2_10 then
      gb (g_X1_copy t_contents_many p1_contents_many t_contents_much p1_contents_much) fun r2 =>
      g_X0_copy_b91 LS p1_cauldrons p1_spells p1_cookedSoFar p1_storesSoFar p1_texts p1_cooked 100 r2.1 r2.2 t_cooked t_high_10 t_isBroth_10 t_low_10 t_storesIn_10 t_texts 0
    else
      gc (inb x2_10 6) <|
      gc (inb x2_10 6) <|
      gc (inb x2_10 6) <|
      gc (inb x2_10 6) <|
      gc (inb x2_10 6) <|
      gc (inb x2_10 6) <|
      gc (inb x2_10 6) <|
      gc (inb x2_10 6) <|
      gl (x2_10 + 1) fun v3 =>
      (g_X0_copy_b10 LS p1_cauldrons p1_spells p1_cookedSoFar p1_storesSoFar t_contents_many p1_contents_many t_contents_much p1_contents_much p1_isBroth p1_low p1_high p1_storesIn t_texts p1_texts t_cooked p1_cooked n) (upd t_high_10 x2_10.toNatClampNeg (p1_high x2_10.toNatClampNeg)) (upd t_isBroth_10 x2_10.toNatClampNeg (vp_nar .boolean (p1_isBroth x2_10.toNatClampNeg))) (upd t_low_10 x2_10.toNatClampNeg (p1_low x2_10.toNatClampNeg)) (upd t_storesIn_10 x2_10.toNatClampNeg (p1_storesIn x2_10.toNatClampNeg)) v3
def g_X0_copy (LS : List Nat) (SE : Nat → SV) (t_cauldrons : Int32) (t_spells : Int32) (t_cookedSoFar : Int32) (t_storesSoFar : Int32) (p1_cauldrons : Int32) (p1_spells : Int32) (p1_cookedSoFar : Int32) (p1_storesSoFar : Int32) (t_contents_many : Nat → Int32) (p1_contents_many : Nat → Int32) (t_contents_much : Nat → UInt32) (p1_contents_much : Nat → UInt32) (t_isBroth : Nat → Int32) (p1_isBroth : Nat → Int32) (t_low : Nat → Int32) (p1_low : Nat → Int32) (t_high : Nat → Int32) (p1_high : Nat → Int32) (t_storesIn : Nat → Int32) (p1_storesIn : Nat → Int32) (t_texts : Nat → Option Nat) (p1_texts : Nat → Option Nat) (t_cooked : Nat → Int32) (p1_cooked : Nat → Int32) : Option (Int32 × Int32 × Int32 × Int32 × (Nat → Int32) × (Nat → UInt32) × (Nat → Int32) × (Nat → Int32) × (Nat → Int32) × (Nat → Int32) × (Nat → Option Nat) × (Nat → Int32)) :=
  g_X0_copy_b10 LS p1_cauldrons p1_spells p1_cookedSoFar p1_storesSoFar t_contents_many p1_contents_many t_contents_much p1_contents_much p1_isBroth p1_low p1_high p1_storesIn t_texts p1_texts t_cooked p1_cooked 100 t_high t_isBroth t_low t_storesIn 0
def g_X0_spellAt (t_spells : Int32) (t_texts : Nat → Option Nat) (p1 : Int32) : Option (Option Nat) :=
  if p1 < 0 then
    some (none)
  else
    if t_spells ≤ p1 then
      some (none)
    else
      if 4 ≤ p1 then
        some (none)
      else
        gc (inb p1 4) <|
        some ((t_texts p1.toNatClampNeg))
def g_X0_putDown (t_spells : Int32) (t_texts : Nat → Option Nat) (t_cooked : Nat → Int32) (a_p1 : Nat) : Option (Int32 × Int32 × (Nat → Option Nat) × (Nat → Int32)) :=
  if t_spells < 0 then
    some ((-1), t_spells, t_texts, t_cooked)
  else
    if t_spells < 4 then
      gl (t_spells + 1) fun v1 =>
      gc (inb t_spells 4) <|
      gc (inb t_spells 4) <|
      some (t_spells, v1, (va_up t_texts t_spells.toNatClampNeg (some a_p1)), (upd t_cooked t_spells.toNatClampNeg 0))
    else
      some ((-1), t_spells, t_texts, t_cooked)
def g_X0_strikeOut_b6 (LS : List Nat) (t_spells : Int32) : Nat → (Nat → Int32) → (Nat → Option Nat) → Int32 → Option (Int32 × (Nat → Option Nat) × (Nat → Int32))
  | 0, _, _, _ => none
  | n + 1, t_cooked_6, t_texts_6, x2_6 =>
    if 3 ≤ x2_6 then
      gl (t_spells - 1) fun v2 =>
      some (v2, t_texts_6, t_cooked_6)
    else
      gc (inb (x2_6 + 1) 4) <|
      gc (inb x2_6 4) <|
      gc (oin9 LS (t_texts_6 (x2_6 + 1).toNatClampNeg)) <|
      gc (inb (x2_6 + 1) 4) <|
      gc (inb x2_6 4) <|
      gl (x2_6 + 1) fun v3 =>
      (g_X0_strikeOut_b6 LS t_spells n) (upd t_cooked_6 x2_6.toNatClampNeg (t_cooked_6 (x2_6 + 1).toNatClampNeg)) (va_up t_texts_6 x2_6.toNatClampNeg (t_texts_6 (x2_6 + 1).toNatClampNeg)) v3
def g_X0_strikeOut (LS : List Nat) (SE : Nat → SV) (t_spells : Int32) (t_texts : Nat → Option Nat) (t_cooked : Nat → Int32) (p1 : Int32) : Option (Int32 × (Nat → Option Nat) × (Nat → Int32)) :=
  gl (if p1 < 0 then 0 else p1) fun v1 =>
  g_X0_strikeOut_b6 LS t_spells 100 t_cooked t_texts v1
def g_X0_settle_b13 (t_cookedSoFar : Int32) (t_cooked : Nat → Int32) (p2_storesIn : Nat → Int32) (p1 : Int32) : Nat → (Nat → Int32) → (Nat → UInt32) → (Nat → Int32) → Int32 → Int32 → Option (Int32 × Int32 × (Nat → Int32) × (Nat → UInt32) × (Nat → Int32) × (Nat → Int32))
  | 0, _, _, _, _, _ => none
  | n + 1, t_contents_many_13, t_contents_much_13, t_storesIn_13, t_storesSoFar_13, x3_13 =>
    if 6 ≤ x3_13 then
      gc (inb p1 4) <|
      gc (inb p1 4) <|
      gl (t_cookedSoFar + 1) fun v2 =>
      some (v2, t_storesSoFar_13, t_contents_many_13, t_contents_much_13, (upd t_cooked p1.toNatClampNeg ((t_cooked p1.toNatClampNeg) + 1)), t_storesIn_13)
    else
      gc (inb x3_13 6) <|
      gc (inb x3_13 6) <|
      gc (inb x3_13 6) <|
      gc (inb x3_13 6) <|
      gl (t_storesSoFar_13 + (p2_storesIn x3_13.toNatClampNeg)) fun v3 =>
      gl (x3_13 + 1) fun v4 =>
      (g_X0_settle_b13 t_cookedSoFar t_cooked p2_storesIn p1 n) t_contents_many_13 t_contents_much_13 (upd t_storesIn_13 x3_13.toNatClampNeg ((t_storesIn_13 x3_13.toNatClampNeg) + (p2_storesIn x3_13.toNatClampNeg))) v3 v4
def g_X0_settle (t_cookedSoFar : Int32) (t_storesSoFar : Int32) (t_contents_many : Nat → Int32) (p2_now_many : Nat → Int32) (t_contents_much : Nat → UInt32) (p2_now_much : Nat → UInt32) (t_cooked : Nat → Int32) (t_storesIn : Nat → Int32) (p2_storesIn : Nat → Int32) (p1 : Int32) : Option (Int32 × Int32 × (Nat → Int32) × (Nat → UInt32) × (Nat → Int32) × (Nat → Int32)) :=
  gb (g_X1_copy t_contents_many p2_now_many t_contents_much p2_now_much) fun r1 =>
  g_X0_settle_b13 t_cookedSoFar t_cooked p2_storesIn p1 100 r1.1 r1.2 t_storesIn t_storesSoFar 0
def g_X0_spellsThat_b46 (LS : List Nat) (SE : Nat → SV) (t_spells : Int32) (t_texts : Nat → Option Nat) (p1 : Int32) (p2 : Int32) (k5 : Int32 → Int32 → Option (Int32)) (x3_46 : Int32) (x4_46 : Int32) : Option (Int32) :=
  gl (x4_46 + 1) fun v1 =>
  k5 x3_46 v1
def g_X0_spellsThat_b5 (LS : List Nat) (SE : Nat → SV) (t_spells : Int32) (t_texts : Nat → Option Nat) (p1 : Int32) (p2 : Int32) : Nat → Int32 → Int32 → Option (Int32)
  | 0, _, _ => none
  | n + 1, x3_5, x4_5 =>
    if t_spells ≤ x4_5 then
      some (x3_5)
    else
      gb (g_X0_spellAt t_spells t_texts x4_5) fun r2 =>
      go r2 (
        g_X0_spellsThat_b46 LS SE t_spells t_texts p1 p2 (g_X0_spellsThat_b5 LS SE t_spells t_texts p1 p2 n) x3_5 x4_5) fun a_y17 =>
      gc (inl9 LS a_y17) <|
      gb (g_X8_lastAhead ((SE a_y17).2.2.1) ((SE a_y17).2.2.2.2.2.2.1) ((SE a_y17).2.2.2.2.2.2.2.1) p1 p2 ((SE a_y17).2.2.1)) fun r3 =>
      if r3 = (-1) then
        g_X0_spellsThat_b46 LS SE t_spells t_texts p1 p2 (g_X0_spellsThat_b5 LS SE t_spells t_texts p1 p2 n) x3_5 x4_5
      else
        gl (x3_5 + 1) fun v4 =>
        g_X0_spellsThat_b46 LS SE t_spells t_texts p1 p2 (g_X0_spellsThat_b5 LS SE t_spells t_texts p1 p2 n) v4 x4_5
def g_X0_spellsThat (LS : List Nat) (SE : Nat → SV) (t_spells : Int32) (t_texts : Nat → Option Nat) (p1 : Int32) (p2 : Int32) : Option (Int32) :=
  g_X0_spellsThat_b5 LS SE t_spells t_texts p1 p2 100 0 0
def g_X0_comesAhead (LS : List Nat) (SE : Nat → SV) (t_spells : Int32) (t_texts : Nat → Option Nat) (p1 : Int32) (p2 : Int32) : Option (Int32) :=
  gb (g_X0_spellAt t_spells t_texts p1) fun r1 =>
  go r1 (
    gb (g_X0_spellAt t_spells t_texts p2) fun r2 =>
    go r2 (
      some (0)) fun a_y8 =>
    gc (inl9 LS a_y8) <|
    some (0)) fun a_y2 =>
  gc (inl9 LS a_y2) <|
  gb (g_X0_spellAt t_spells t_texts p2) fun r3 =>
  go r3 (
    some (0)) fun a_y8 =>
  gc (inl9 LS a_y8) <|
  if (SE a_y2).2.2.1 = (SE a_y8).2.2.1 then
    if (SE a_y2).2.2.2.1 = (SE a_y8).2.2.2.1 then
      if p2 ≤ p1 then
        some (0)
      else
        some (1)
    else
      if (SE a_y2).2.2.2.1 ≤ (SE a_y8).2.2.2.1 then
        some (0)
      else
        some (1)
  else
    if (SE a_y8).2.2.1 ≤ (SE a_y2).2.2.1 then
      some (0)
    else
      some (1)
def g_X0_spellsAhead_b24 (LS : List Nat) (SE : Nat → SV) (t_spells : Int32) (t_texts : Nat → Option Nat) (p1 : Int32) (k4 : Int32 → Int32 → Option (Int32)) (x2_24 : Int32) (x3_24 : Int32) : Option (Int32) :=
  gl (x3_24 + 1) fun v1 =>
  k4 x2_24 v1
def g_X0_spellsAhead_b4 (LS : List Nat) (SE : Nat → SV) (t_spells : Int32) (t_texts : Nat → Option Nat) (p1 : Int32) : Nat → Int32 → Int32 → Option (Int32)
  | 0, _, _ => none
  | n + 1, x2_4, x3_4 =>
    if t_spells ≤ x3_4 then
      some (x2_4)
    else
      gb (g_X0_comesAhead LS SE t_spells t_texts x3_4 p1) fun r2 =>
      if r2 = 0 then
        g_X0_spellsAhead_b24 LS SE t_spells t_texts p1 (g_X0_spellsAhead_b4 LS SE t_spells t_texts p1 n) x2_4 x3_4
      else
        gl (x2_4 + 1) fun v3 =>
        g_X0_spellsAhead_b24 LS SE t_spells t_texts p1 (g_X0_spellsAhead_b4 LS SE t_spells t_texts p1 n) v3 x3_4
def g_X0_spellsAhead (LS : List Nat) (SE : Nat → SV) (t_spells : Int32) (t_texts : Nat → Option Nat) (p1 : Int32) : Option (Int32) :=
  g_X0_spellsAhead_b4 LS SE t_spells t_texts p1 100 0 0
def g_X4_remember_b35 (t_changes : Int32) (bk_contents_many_35 : Nat → Int32) (bk_contents_much_35 : Nat → UInt32) (bk_cooked_35 : Nat → Int32) (bk_high_35 : Nat → Int32) (bk_isBroth_35 : Nat → Int32) (bk_low_35 : Nat → Int32) (bk_storesIn_35 : Nat → Int32) (bk_texts_35 : Nat → Option Nat) (bk_cauldrons_35 : Int32) (bk_storesSoFar_35 : Int32) (bk_spells_35 : Int32) (bk_cookedSoFar_35 : Int32) (s1_35 : Int32) : Option (Int32 × Int32 × Int32 × Int32 × Int32 × Int32 × (Nat → Int32) × (Nat → UInt32) × (Nat → Int32) × (Nat → Int32) × (Nat → Int32) × (Nat → Int32) × (Nat → Option Nat) × (Nat → Int32)) :=
  gl (if 6 < (t_changes + 1) then 6 else (t_changes + 1)) fun v2 =>
  some (s1_35, v2, bk_cauldrons_35, bk_spells_35, bk_cookedSoFar_35, bk_storesSoFar_35, bk_contents_many_35, bk_contents_much_35, bk_isBroth_35, bk_low_35, bk_high_35, bk_storesIn_35, bk_texts_35, bk_cooked_35)
def g_X4_remember (LS : List Nat) (SE : Nat → SV) (t_next : Int32) (t_changes : Int32) (p1_cauldrons : Int32) (p1_spells : Int32) (p1_cookedSoFar : Int32) (p1_storesSoFar : Int32) (t_books : Nat → Option Nat) (bk_cauldrons : Int32) (bk_spells : Int32) (bk_cookedSoFar : Int32) (bk_storesSoFar : Int32) (bk_contents_many : Nat → Int32) (p1_contents_many : Nat → Int32) (bk_contents_much : Nat → UInt32) (p1_contents_much : Nat → UInt32) (bk_isBroth : Nat → Int32) (p1_isBroth : Nat → Int32) (bk_low : Nat → Int32) (p1_low : Nat → Int32) (bk_high : Nat → Int32) (p1_high : Nat → Int32) (bk_storesIn : Nat → Int32) (p1_storesIn : Nat → Int32) (bk_texts : Nat → Option Nat) (p1_texts : Nat → Option Nat) (bk_cooked : Nat → Int32) (p1_cooked : Nat → Int32) (a_bk : Nat) : Option (Int32 × Int32 × Int32 × Int32 × Int32 × Int32 × (Nat → Int32) × (Nat → UInt32) × (Nat → Int32) × (Nat → Int32) × (Nat → Int32) × (Nat → Int32) × (Nat → Option Nat) × (Nat → Int32)) :=
  gc (inb t_next 6) <|
  gc (decide ((t_books t_next.toNatClampNeg) = some a_bk)) <|
  gb (g_X0_copy LS SE bk_cauldrons bk_spells bk_cookedSoFar bk_storesSoFar p1_cauldrons p1_spells p1_cookedSoFar p1_storesSoFar bk_contents_many p1_contents_many bk_contents_much p1_contents_much bk_isBroth p1_isBroth bk_low p1_low bk_high p1_high bk_storesIn p1_storesIn bk_texts p1_texts bk_cooked p1_cooked) fun r1 =>
  if 6 ≤ (t_next + 1) then
    g_X4_remember_b35 t_changes r1.2.2.2.2.1 r1.2.2.2.2.2.1 r1.2.2.2.2.2.2.2.2.2.2.2 r1.2.2.2.2.2.2.2.2.1 r1.2.2.2.2.2.2.1 r1.2.2.2.2.2.2.2.1 r1.2.2.2.2.2.2.2.2.2.1 r1.2.2.2.2.2.2.2.2.2.2.1 r1.1 r1.2.2.2.1 r1.2.1 r1.2.2.1 0
  else
    g_X4_remember_b35 t_changes r1.2.2.2.2.1 r1.2.2.2.2.2.1 r1.2.2.2.2.2.2.2.2.2.2.2 r1.2.2.2.2.2.2.2.2.1 r1.2.2.2.2.2.2.1 r1.2.2.2.2.2.2.2.1 r1.2.2.2.2.2.2.2.2.2.1 r1.2.2.2.2.2.2.2.2.2.2.1 r1.1 r1.2.2.2.1 r1.2.1 r1.2.2.1 (t_next + 1)
def g_X4_giveBack_b18 (LS : List Nat) (SE : Nat → SV) (t_changes : Int32) (p1_cauldrons : Int32) (p1_spells : Int32) (p1_cookedSoFar : Int32) (p1_storesSoFar : Int32) (t_books : Nat → Option Nat) (bk_cauldrons : Int32) (bk_spells : Int32) (bk_cookedSoFar : Int32) (bk_storesSoFar : Int32) (p1_contents_many : Nat → Int32) (bk_contents_many : Nat → Int32) (p1_contents_much : Nat → UInt32) (bk_contents_much : Nat → UInt32) (p1_isBroth : Nat → Int32) (bk_isBroth : Nat → Int32) (p1_low : Nat → Int32) (bk_low : Nat → Int32) (p1_high : Nat → Int32) (bk_high : Nat → Int32) (p1_storesIn : Nat → Int32) (bk_storesIn : Nat → Int32) (p1_texts : Nat → Option Nat) (bk_texts : Nat → Option Nat) (p1_cooked : Nat → Int32) (bk_cooked : Nat → Int32) (a_bk : Nat) (s1_18 : Int32) : Option (Int32 × Int32 × Int32 × Int32 × Int32 × Int32 × (Nat → Int32) × (Nat → UInt32) × (Nat → Int32) × (Nat → Int32) × (Nat → Int32) × (Nat → Int32) × (Nat → Option Nat) × (Nat → Int32)) :=
  gc (inb s1_18 6) <|
  gc (decide ((t_books s1_18.toNatClampNeg) = some a_bk)) <|
  gb (g_X0_copy LS SE p1_cauldrons p1_spells p1_cookedSoFar p1_storesSoFar bk_cauldrons bk_spells bk_cookedSoFar bk_storesSoFar p1_contents_many bk_contents_many p1_contents_much bk_contents_much p1_isBroth bk_isBroth p1_low bk_low p1_high bk_high p1_storesIn bk_storesIn p1_texts bk_texts p1_cooked bk_cooked) fun r1 =>
  gl (t_changes - 1) fun v2 =>
  some (s1_18, v2, r1.1, r1.2.1, r1.2.2.1, r1.2.2.2.1, r1.2.2.2.2.1, r1.2.2.2.2.2.1, r1.2.2.2.2.2.2.1, r1.2.2.2.2.2.2.2.1, r1.2.2.2.2.2.2.2.2.1, r1.2.2.2.2.2.2.2.2.2.1, r1.2.2.2.2.2.2.2.2.2.2.1, r1.2.2.2.2.2.2.2.2.2.2.2)
def g_X4_giveBack (LS : List Nat) (SE : Nat → SV) (t_next : Int32) (t_changes : Int32) (p1_cauldrons : Int32) (p1_spells : Int32) (p1_cookedSoFar : Int32) (p1_storesSoFar : Int32) (t_books : Nat → Option Nat) (bk_cauldrons : Int32) (bk_spells : Int32) (bk_cookedSoFar : Int32) (bk_storesSoFar : Int32) (p1_contents_many : Nat → Int32) (bk_contents_many : Nat → Int32) (p1_contents_much : Nat → UInt32) (bk_contents_much : Nat → UInt32) (p1_isBroth : Nat → Int32) (bk_isBroth : Nat → Int32) (p1_low : Nat → Int32) (bk_low : Nat → Int32) (p1_high : Nat → Int32) (bk_high : Nat → Int32) (p1_storesIn : Nat → Int32) (bk_storesIn : Nat → Int32) (p1_texts : Nat → Option Nat) (bk_texts : Nat → Option Nat) (p1_cooked : Nat → Int32) (bk_cooked : Nat → Int32) (a_bk : Nat) : Option (Int32 × Int32 × Int32 × Int32 × Int32 × Int32 × (Nat → Int32) × (Nat → UInt32) × (Nat → Int32) × (Nat → Int32) × (Nat → Int32) × (Nat → Int32) × (Nat → Option Nat) × (Nat → Int32)) :=
  if t_next ≤ 0 then
    g_X4_giveBack_b18 LS SE t_changes p1_cauldrons p1_spells p1_cookedSoFar p1_storesSoFar t_books bk_cauldrons bk_spells bk_cookedSoFar bk_storesSoFar p1_contents_many bk_contents_many p1_contents_much bk_contents_much p1_isBroth bk_isBroth p1_low bk_low p1_high bk_high p1_storesIn bk_storesIn p1_texts bk_texts p1_cooked bk_cooked a_bk 5
  else
    g_X4_giveBack_b18 LS SE t_changes p1_cauldrons p1_spells p1_cookedSoFar p1_storesSoFar t_books bk_cauldrons bk_spells bk_cookedSoFar bk_storesSoFar p1_contents_many bk_contents_many p1_contents_much bk_contents_much p1_isBroth bk_isBroth p1_low bk_low p1_high bk_high p1_storesIn bk_storesIn p1_texts bk_texts p1_cooked bk_cooked a_bk (t_next - 1)
def g_X2_begin (t_now_many : Nat → Int32) (p1_contents_many : Nat → Int32) (t_now_much : Nat → UInt32) (p1_contents_much : Nat → UInt32) : Option ((Nat → Int32) × (Nat → UInt32)) :=
  gb (g_X1_copy t_now_many p1_contents_many t_now_much p1_contents_much) fun r1 =>
  some (r1.1, r1.2)
def g_X2_lay (t_spoons : Int32) (t_isBroth : Nat → Int32) (t_many : Nat → Int32) (t_much : Nat → UInt32) (p1 : Int32) (p2 : Int32) (p3 : UInt32) : Option (Int32 × Int32 × (Nat → Int32) × (Nat → Int32) × (Nat → UInt32)) :=
  if t_spoons < 0 then
    some (0, t_spoons, t_isBroth, t_many, t_much)
  else
    if t_spoons < 5 then
      gc (inb t_spoons 5) <|
      gc (inb t_spoons 5) <|
      gc (inb t_spoons 5) <|
      gl (t_spoons + 1) fun v1 =>
      some (1, v1, (upd t_isBroth t_spoons.toNatClampNeg (vp_nar .boolean p1)), (upd t_many t_spoons.toNatClampNeg p2), (vf_upd t_much t_spoons.toNatClampNeg p3))
    else
      some (0, t_spoons, t_isBroth, t_many, t_much)
def g_X2_boil (t_cause : Int32) (t_causeDetail : Int32) (p1 : Int32) (p2 : Int32) : Option (Int32 × Int32 × Int32) :=
  some (0, p1, p2)
def g_X2_goesCast (t_cause : Int32) (t_causeDetail : Int32) (t_spoons : Int32) (t_isBroth : Nat → Int32) (t_many : Nat → Int32) (t_much : Nat → UInt32) (p1 : Int32) : Option (Int32 × Int32 × Int32 × (Nat → Int32) × (Nat → Int32) × (Nat → UInt32)) :=
  gl (t_spoons - 1) fun v1 =>
  if v1 < 0 then
    some (0, t_cause, t_causeDetail, t_isBroth, t_many, t_much)
  else
    if v1 < 5 then
      gc (inb v1 5) <|
      if (t_isBroth v1.toNatClampNeg) = p1 then
        gb (g_X2_boil t_cause t_causeDetail (7 : Int32) (-1 : Int32)) fun r4 =>
        gc (bo r4.1) <|
        some (r4.1, r4.2.1, r4.2.2, t_isBroth, t_many, t_much)
      else
        gc (inb v1 5) <|
        if p1 = 0 then
          gc (inb v1 5) <|
          gb (g_X5_toDrams (t_much v1.toNatClampNeg)) fun r2 =>
          gc (inb v1 5) <|
          some (1, t_cause, t_causeDetail, (upd t_isBroth v1.toNatClampNeg (vp_nar .boolean p1)), (upd t_many v1.toNatClampNeg r2), t_much)
        else
          gc (inb v1 5) <|
          gb (g_X5_toBroth (t_many v1.toNatClampNeg)) fun r3 =>
          gc (inb v1 5) <|
          some (1, t_cause, t_causeDetail, (upd t_isBroth v1.toNatClampNeg (vp_nar .boolean p1)), t_many, (vf_upd t_much v1.toNatClampNeg r3))
    else
      some (0, t_cause, t_causeDetail, t_isBroth, t_many, t_much)
def g_X2_goesStore_b113 (t_cause : Int32) (t_causeDetail : Int32) (t_spoons : Int32) (t_storesIn : Nat → Int32) (p1 : Int32) (t_now_many_113 : Nat → Int32) (t_now_much_113 : Nat → UInt32) : Option (Int32 × Int32 × Int32 × Int32 × (Nat → Int32) × (Nat → UInt32) × (Nat → Int32)) :=
  gc (inb p1 6) <|
  gc (inb p1 6) <|
  gl (t_spoons - 1) fun v5 =>
  some (1, t_cause, t_causeDetail, v5, t_now_many_113, t_now_much_113, (upd t_storesIn p1.toNatClampNeg ((t_storesIn p1.toNatClampNeg) + 1)))
def g_X2_goesStore (t_cause : Int32) (t_causeDetail : Int32) (t_spoons : Int32) (t_isBroth : Nat → Int32) (p2_isBroth : Nat → Int32) (t_many : Nat → Int32) (p2_low : Nat → Int32) (p2_high : Nat → Int32) (t_now_many : Nat → Int32) (t_now_much : Nat → UInt32) (t_much : Nat → UInt32) (t_storesIn : Nat → Int32) (p1 : Int32) : Option (Int32 × Int32 × Int32 × Int32 × (Nat → Int32) × (Nat → UInt32) × (Nat → Int32)) :=
  gl (t_spoons - 1) fun v1 =>
  if v1 < 0 then
    some (0, t_cause, t_causeDetail, t_spoons, t_now_many, t_now_much, t_storesIn)
  else
    if v1 < 5 then
      gc (inb v1 5) <|
      gc (inb p1 6) <|
      if (t_isBroth v1.toNatClampNeg) = (p2_isBroth p1.toNatClampNeg) then
        gc (inb v1 5) <|
        if (t_isBroth v1.toNatClampNeg) = 0 then
          gc (inb v1 5) <|
          gb (g_X0_holds p2_low p2_high p1 ((t_many v1.toNatClampNeg).toInt64)) fun r2 =>
          if r2 = 0 then
            gc (inb v1 5) <|
            gb (g_X2_boil t_cause t_causeDetail (3 : Int32) (t_many v1.toNatClampNeg)) fun r3 =>
            gc (bo r3.1) <|
            some (r3.1, r3.2.1, r3.2.2, t_spoons, t_now_many, t_now_much, t_storesIn)
          else
            gc (inb v1 5) <|
            gc (inb p1 6) <|
            g_X2_goesStore_b113 t_cause t_causeDetail t_spoons t_storesIn p1 (upd t_now_many p1.toNatClampNeg (t_many v1.toNatClampNeg)) t_now_much
        else
          gc (inb v1 5) <|
          gc (inb p1 6) <|
          g_X2_goesStore_b113 t_cause t_causeDetail t_spoons t_storesIn p1 t_now_many (vf_upd t_now_much p1.toNatClampNeg (t_much v1.toNatClampNeg))
      else
        gb (g_X2_boil t_cause t_causeDetail (7 : Int32) p1) fun r4 =>
        gc (bo r4.1) <|
        some (r4.1, r4.2.1, r4.2.2, t_spoons, t_now_many, t_now_much, t_storesIn)
    else
      some (0, t_cause, t_causeDetail, t_spoons, t_now_many, t_now_much, t_storesIn)
def g_X2_goesReckoning (t_cause : Int32) (t_causeDetail : Int32) (t_spoons : Int32) (t_isBroth : Nat → Int32) (t_many : Nat → Int32) (t_much : Nat → UInt32) (p1 : Int32) : Option (Int32 × Int32 × Int32 × Int32 × (Nat → Int32) × (Nat → UInt32)) :=
  gl (t_spoons - 1) fun v1 =>
  gl (t_spoons - 2) fun v2 =>
  if v2 < 0 then
    some (0, t_cause, t_causeDetail, t_spoons, t_many, t_much)
  else
    if v1 < 5 then
      gc (inb v2 5) <|
      gc (inb v1 5) <|
      if (t_isBroth v2.toNatClampNeg) = (t_isBroth v1.toNatClampNeg) then
        gl (t_spoons - 1) fun v3 =>
        gc (inb v2 5) <|
        if (t_isBroth v2.toNatClampNeg) = 0 then
          gc (inb v2 5) <|
          gc (inb v1 5) <|
          gb (g_X5_ofDrams p1 ((t_many v2.toNatClampNeg).toInt64) ((t_many v1.toNatClampNeg).toInt64)) fun r4 =>
          gb (g_X5_excess r4) fun r5 =>
          if r5 = 0 then
            gc (inb v2 5) <|
            some (1, t_cause, t_causeDetail, v3, (upd t_many v2.toNatClampNeg r4.toInt32), t_much)
          else
            gb (g_X5_excess r4) fun r6 =>
            gb (g_X2_boil t_cause t_causeDetail (8 : Int32) r6) fun r7 =>
            gc (bo r7.1) <|
            some (r7.1, r7.2.1, r7.2.2, v3, t_many, t_much)
        else
          gc (inb v2 5) <|
          gc (inb v1 5) <|
          gb (g_X5_ofBroth p1 (t_much v2.toNatClampNeg) (t_much v1.toNatClampNeg)) fun r8 =>
          gc (inb v2 5) <|
          some (1, t_cause, t_causeDetail, v3, t_many, (vf_upd t_much v2.toNatClampNeg r8))
      else
        gb (g_X2_boil t_cause t_causeDetail (7 : Int32) (-1 : Int32)) fun r9 =>
        gc (bo r9.1) <|
        some (r9.1, r9.2.1, r9.2.2, t_spoons, t_many, t_much)
    else
      some (0, t_cause, t_causeDetail, t_spoons, t_many, t_much)
def g_X2_goesToken_b140 (t_cause : Int32) (t_causeDetail : Int32) (t_spoons : Int32) (t_now_many : Nat → Int32) (t_now_much : Nat → UInt32) (t_isBroth : Nat → Int32) (t_many : Nat → Int32) (t_much : Nat → UInt32) (t_storesIn : Nat → Int32) (p1 : Int32) : Option (Int32 × Int32 × Int32 × Int32 × (Nat → Int32) × (Nat → UInt32) × (Nat → Int32) × (Nat → Int32) × (Nat → UInt32) × (Nat → Int32)) :=
  gb (g_X2_goesReckoning t_cause t_causeDetail t_spoons t_isBroth t_many t_much p1) fun r6 =>
  gc (bo r6.1) <|
  some (r6.1, r6.2.1, r6.2.2.1, r6.2.2.2.1, t_now_many, t_now_much, t_isBroth, r6.2.2.2.2.1, r6.2.2.2.2.2, t_storesIn)
def g_X2_goesToken (t_cause : Int32) (t_causeDetail : Int32) (t_spoons : Int32) (p3_isBroth : Nat → Int32) (t_now_many : Nat → Int32) (t_now_much : Nat → UInt32) (t_isBroth : Nat → Int32) (t_many : Nat → Int32) (t_much : Nat → UInt32) (p3_low : Nat → Int32) (p3_high : Nat → Int32) (t_storesIn : Nat → Int32) (p1 : Int32) (p2 : Int32) : Option (Int32 × Int32 × Int32 × Int32 × (Nat → Int32) × (Nat → UInt32) × (Nat → Int32) × (Nat → Int32) × (Nat → UInt32) × (Nat → Int32)) :=
  if p1 = 0 then
    if p2 < 0 then
      some (0, t_cause, t_causeDetail, t_spoons, t_now_many, t_now_much, t_isBroth, t_many, t_much, t_storesIn)
    else
      if 6 ≤ p2 then
        some (0, t_cause, t_causeDetail, t_spoons, t_now_many, t_now_much, t_isBroth, t_many, t_much, t_storesIn)
      else
        gc (inb p2 6) <|
        gc (inb p2 6) <|
        gc (inb p2 6) <|
        gb (g_X2_lay t_spoons t_isBroth t_many t_much (p3_isBroth p2.toNatClampNeg) (t_now_many p2.toNatClampNeg) (t_now_much p2.toNatClampNeg)) fun r1 =>
        if r1.1 = 0 then
          some (0, t_cause, t_causeDetail, r1.2.1, t_now_many, t_now_much, r1.2.2.1, r1.2.2.2.1, r1.2.2.2.2, t_storesIn)
        else
          some (1, t_cause, t_causeDetail, r1.2.1, t_now_many, t_now_much, r1.2.2.1, r1.2.2.2.1, r1.2.2.2.2, t_storesIn)
  else
    if p1 = 1 then
      gb (g_X2_lay t_spoons t_isBroth t_many t_much (0 : Int32) p2 FP.fconst0) fun r2 =>
      gc (bo r2.1) <|
      some (r2.1, t_cause, t_causeDetail, r2.2.1, t_now_many, t_now_much, r2.2.2.1, r2.2.2.2.1, r2.2.2.2.2, t_storesIn)
    else
      if p1 = 2 then
        g_X2_goesToken_b140 t_cause t_causeDetail t_spoons t_now_many t_now_much t_isBroth t_many t_much t_storesIn p1
      else
        if p1 = 3 then
          g_X2_goesToken_b140 t_cause t_causeDetail t_spoons t_now_many t_now_much t_isBroth t_many t_much t_storesIn p1
        else
          if p1 = 4 then
            g_X2_goesToken_b140 t_cause t_causeDetail t_spoons t_now_many t_now_much t_isBroth t_many t_much t_storesIn p1
          else
            if p1 = 5 then
              gb (g_X2_goesCast t_cause t_causeDetail t_spoons t_isBroth t_many t_much (1 : Int32)) fun r3 =>
              gc (bo r3.1) <|
              some (r3.1, r3.2.1, r3.2.2.1, t_spoons, t_now_many, t_now_much, r3.2.2.2.1, r3.2.2.2.2.1, r3.2.2.2.2.2, t_storesIn)
            else
              if p1 = 6 then
                gb (g_X2_goesCast t_cause t_causeDetail t_spoons t_isBroth t_many t_much (0 : Int32)) fun r4 =>
                gc (bo r4.1) <|
                some (r4.1, r4.2.1, r4.2.2.1, t_spoons, t_now_many, t_now_much, r4.2.2.2.1, r4.2.2.2.2.1, r4.2.2.2.2.2, t_storesIn)
              else
                if p1 = 7 then
                  if p2 < 0 then
                    some (0, t_cause, t_causeDetail, t_spoons, t_now_many, t_now_much, t_isBroth, t_many, t_much, t_storesIn)
                  else
                    if 6 ≤ p2 then
                      some (0, t_cause, t_causeDetail, t_spoons, t_now_many, t_now_much, t_isBroth, t_many, t_much, t_storesIn)
                    else
                      gb (g_X2_goesStore t_cause t_causeDetail t_spoons t_isBroth p3_isBroth t_many p3_low p3_high t_now_many t_now_much t_much t_storesIn p2) fun r5 =>
                      if r5.1 = 0 then
                        some (0, r5.2.1, r5.2.2.1, r5.2.2.2.1, r5.2.2.2.2.1, r5.2.2.2.2.2.1, t_isBroth, t_many, t_much, r5.2.2.2.2.2.2)
                      else
                        some (1, r5.2.1, r5.2.2.1, r5.2.2.2.1, r5.2.2.2.2.1, r5.2.2.2.2.2.1, t_isBroth, t_many, t_much, r5.2.2.2.2.2.2)
                else
                  g_X2_goesToken_b140 t_cause t_causeDetail t_spoons t_now_many t_now_much t_isBroth t_many t_much t_storesIn p1
def g_X2_goesOn_b44 (p1_tokens : Int32) (p1_kinds : Nat → Int32) (p1_values : Nat → Int32) (p2_isBroth : Nat → Int32) (p2_low : Nat → Int32) (p2_high : Nat → Int32) : Nat → (Nat → Int32) → (Nat → UInt32) → (Nat → Int32) → (Nat → Int32) → (Nat → UInt32) → (Nat → Int32) → (Nat → UInt32) → (Nat → Int32) → Int32 → Int32 → Int32 → Int32 → Option (Int32 × Int32 × Int32 × Int32 × Int32 × (Nat → Int32) × (Nat → Int32) × (Nat → UInt32) × (Nat → UInt32) × (Nat → Int32) × (Nat → Int32) × (Nat → Int32) × (Nat → UInt32))
  | 0, _, _, _, _, _, _, _, _, _, _, _, _ => none
  | n + 1, t_before_many_44, t_before_much_44, t_isBroth_44, t_many_44, t_much_44, t_now_many_44, t_now_much_44, t_storesIn_44, t_cause_44, t_causeDetail_44, t_spoons_44, x3_44 =>
    if p1_tokens ≤ x3_44 then
      some (1, (-1), t_cause_44, t_causeDetail_44, t_spoons_44, t_before_many_44, t_now_many_44, t_before_much_44, t_now_much_44, t_storesIn_44, t_isBroth_44, t_many_44, t_much_44)
    else
      gc (inb x3_44 24) <|
      gc (inb x3_44 24) <|
      gb (g_X2_goesToken t_cause_44 t_causeDetail_44 t_spoons_44 p2_isBroth t_now_many_44 t_now_much_44 t_isBroth_44 t_many_44 t_much_44 p2_low p2_high t_storesIn_44 (p1_kinds x3_44.toNatClampNeg) (p1_values x3_44.toNatClampNeg)) fun r2 =>
      if r2.1 = 0 then
        some (0, x3_44, r2.2.1, r2.2.2.1, r2.2.2.2.1, t_before_many_44, r2.2.2.2.2.1, t_before_much_44, r2.2.2.2.2.2.1, r2.2.2.2.2.2.2.2.2.2, r2.2.2.2.2.2.2.1, r2.2.2.2.2.2.2.2.1, r2.2.2.2.2.2.2.2.2.1)
      else
        gl (x3_44 + 1) fun v3 =>
        (g_X2_goesOn_b44 p1_tokens p1_kinds p1_values p2_isBroth p2_low p2_high n) t_before_many_44 t_before_much_44 r2.2.2.2.2.2.2.1 r2.2.2.2.2.2.2.2.1 r2.2.2.2.2.2.2.2.2.1 r2.2.2.2.2.1 r2.2.2.2.2.2.1 r2.2.2.2.2.2.2.2.2.2 r2.2.1 r2.2.2.1 r2.2.2.2.1 v3
def g_X2_goesOn_b13 (t_cause : Int32) (t_causeDetail : Int32) (p1_tokens : Int32) (t_now_many : Nat → Int32) (t_now_much : Nat → UInt32) (p1_kinds : Nat → Int32) (p1_values : Nat → Int32) (p2_isBroth : Nat → Int32) (t_isBroth : Nat → Int32) (t_many : Nat → Int32) (t_much : Nat → UInt32) (p2_low : Nat → Int32) (p2_high : Nat → Int32) : Nat → (Nat → Int32) → (Nat → UInt32) → (Nat → Int32) → Int32 → Option (Int32 × Int32 × Int32 × Int32 × Int32 × (Nat → Int32) × (Nat → Int32) × (Nat → UInt32) × (Nat → UInt32) × (Nat → Int32) × (Nat → Int32) × (Nat → Int32) × (Nat → UInt32))
  | 0, _, _, _, _ => none
  | n + 1, t_before_many_13, t_before_much_13, t_storesIn_13, x3_13 =>
    if 6 ≤ x3_13 then
      g_X2_goesOn_b44 p1_tokens p1_kinds p1_values p2_isBroth p2_low p2_high 100 t_before_many_13 t_before_much_13 t_isBroth t_many t_much t_now_many t_now_much t_storesIn_13 t_cause t_causeDetail 0 0
    else
      gc (inb x3_13 6) <|
      gl (x3_13 + 1) fun v4 =>
      (g_X2_goesOn_b13 t_cause t_causeDetail p1_tokens t_now_many t_now_much p1_kinds p1_values p2_isBroth t_isBroth t_many t_much p2_low p2_high n) t_before_many_13 t_before_much_13 (upd t_storesIn_13 x3_13.toNatClampNeg 0) v4
def g_X2_goesOn (t_boilsAt : Int32) (t_cause : Int32) (t_causeDetail : Int32) (t_spoons : Int32) (p1_tokens : Int32) (t_before_many : Nat → Int32) (t_now_many : Nat → Int32) (t_before_much : Nat → UInt32) (t_now_much : Nat → UInt32) (t_storesIn : Nat → Int32) (p1_kinds : Nat → Int32) (p1_values : Nat → Int32) (p2_isBroth : Nat → Int32) (t_isBroth : Nat → Int32) (t_many : Nat → Int32) (t_much : Nat → UInt32) (p2_low : Nat → Int32) (p2_high : Nat → Int32) : Option (Int32 × Int32 × Int32 × Int32 × Int32 × (Nat → Int32) × (Nat → Int32) × (Nat → UInt32) × (Nat → UInt32) × (Nat → Int32) × (Nat → Int32) × (Nat → Int32) × (Nat → UInt32)) :=
  gb (g_X1_copy t_before_many t_now_many t_before_much t_now_much) fun r1 =>
  g_X2_goesOn_b13 t_cause t_causeDetail p1_tokens t_now_many t_now_much p1_kinds p1_values p2_isBroth t_isBroth t_many t_much p2_low p2_high 100 r1.1 r1.2 t_storesIn 0
def g_X2_changes (t_now_many : Nat → Int32) (t_before_many : Nat → Int32) (t_now_much : Nat → UInt32) (t_before_much : Nat → UInt32) : Option (Int32) :=
  gb (g_X1_differences t_now_many t_before_many t_now_much t_before_much) fun r1 =>
  some (r1)
def g_X3_givesBroth (t_isBroth : Nat → Int32) (t_much : Nat → UInt32) (p1 : Int32) (p2 : UInt32) : Option (Int32 × (Nat → Int32) × (Nat → UInt32)) :=
  gc (inb p1 24) <|
  gc (inb p1 24) <|
  some (1, (upd t_isBroth p1.toNatClampNeg (vp_nar .boolean 1)), (vf_upd t_much p1.toNatClampNeg p2))
def g_X3_givesDrams (t_isBroth : Nat → Int32) (t_many : Nat → Int32) (p1 : Int32) (p2 : Int64) : Option (Int32 × (Nat → Int32) × (Nat → Int32)) :=
  gc (inb p1 24) <|
  gc (inb p1 24) <|
  gb (g_X5_excess p2) fun r1 =>
  if r1 = 0 then
    some (1, (upd t_isBroth p1.toNatClampNeg (vp_nar .boolean 0)), (upd t_many p1.toNatClampNeg p2.toInt32))
  else
    some (0, (upd t_isBroth p1.toNatClampNeg (vp_nar .boolean 0)), (upd t_many p1.toNatClampNeg p2.toInt32))
def g_X3_goesTake_b97 (t_many : Nat → Int32) (t_much : Nat → UInt32) (t_isBroth : Nat → Int32) (p3 : Int32) (s2_97 : Int64) : Option (Int32 × (Nat → Int32) × (Nat → UInt32) × (Nat → Int32)) :=
  gb (g_X3_givesDrams t_isBroth t_many p3 s2_97) fun r2 =>
  gc (bo r2.1) <|
  some (r2.1, r2.2.2, t_much, r2.2.1)
def g_X3_goesTake_b63 (t_many : Nat → Int32) (t_much : Nat → UInt32) (t_isBroth : Nat → Int32) (p3 : Int32) (s2_63 : UInt32) : Option (Int32 × (Nat → Int32) × (Nat → UInt32) × (Nat → Int32)) :=
  gb (g_X3_givesBroth t_isBroth t_much p3 s2_63) fun r3 =>
  gc (bo r3.1) <|
  some (r3.1, t_many, r3.2.2, r3.2.1)
def g_X3_goesTake (p1_tokens : Int32) (p1_kinds : Nat → Int32) (p1_values : Nat → Int32) (p2_isBroth : Nat → Int32) (t_many : Nat → Int32) (p2_contents_many : Nat → Int32) (t_much : Nat → UInt32) (p2_contents_much : Nat → UInt32) (t_isBroth : Nat → Int32) (p3 : Int32) (p4 : Int32) : Option (Int32 × (Nat → Int32) × (Nat → UInt32) × (Nat → Int32)) :=
  if p4 < 0 then
    some (0, t_many, t_much, t_isBroth)
  else
    if p4 < 6 then
      gb (g_X8_lastAhead p1_tokens p1_kinds p1_values (7 : Int32) p4 p3) fun r1 =>
      gc (inb p4 6) <|
      if (p2_isBroth p4.toNatClampNeg) = 0 then
        if r1 = (-1) then
          gc (inb p4 6) <|
          g_X3_goesTake_b97 t_many t_much t_isBroth p3 ((p2_contents_many p4.toNatClampNeg).toInt64)
        else
          gc (inb r1 24) <|
          g_X3_goesTake_b97 t_many t_much t_isBroth p3 ((t_many r1.toNatClampNeg).toInt64)
      else
        if r1 = (-1) then
          gc (inb p4 6) <|
          g_X3_goesTake_b63 t_many t_much t_isBroth p3 (p2_contents_much p4.toNatClampNeg)
        else
          gc (inb r1 24) <|
          g_X3_goesTake_b63 t_many t_much t_isBroth p3 (t_much r1.toNatClampNeg)
    else
      some (0, t_many, t_much, t_isBroth)
def g_X3_goesCast (t_isBroth : Nat → Int32) (t_much : Nat → UInt32) (t_many : Nat → Int32) (p1 : Int32) (p2 : Int32) (p3 : Int32) : Option (Int32 × (Nat → Int32) × (Nat → UInt32) × (Nat → Int32)) :=
  gc (inb p2 24) <|
  if (t_isBroth p2.toNatClampNeg) = p3 then
    some (0, t_isBroth, t_much, t_many)
  else
    if p3 = 0 then
      gc (inb p2 24) <|
      gb (g_X5_toDrams (t_much p2.toNatClampNeg)) fun r1 =>
      gb (g_X3_givesDrams t_isBroth t_many p1 r1.toInt64) fun r2 =>
      gc (bo r2.1) <|
      some (r2.1, r2.2.1, t_much, r2.2.2)
    else
      gc (inb p2 24) <|
      gb (g_X5_toBroth (t_many p2.toNatClampNeg)) fun r3 =>
      gb (g_X3_givesBroth t_isBroth t_much p1 r3) fun r4 =>
      gc (bo r4.1) <|
      some (r4.1, r4.2.1, r4.2.2, t_many)
def g_X3_goesReckoning (t_isBroth : Nat → Int32) (t_many : Nat → Int32) (t_much : Nat → UInt32) (p1 : Int32) (p2 : Int32) (p3 : Int32) (p4 : Int32) : Option (Int32 × (Nat → Int32) × (Nat → Int32) × (Nat → UInt32)) :=
  gc (inb p3 24) <|
  gc (inb p4 24) <|
  if (t_isBroth p3.toNatClampNeg) = (t_isBroth p4.toNatClampNeg) then
    gc (inb p3 24) <|
    if (t_isBroth p3.toNatClampNeg) = 0 then
      gc (inb p3 24) <|
      gc (inb p4 24) <|
      gb (g_X5_ofDrams p1 ((t_many p3.toNatClampNeg).toInt64) ((t_many p4.toNatClampNeg).toInt64)) fun r1 =>
      gb (g_X3_givesDrams t_isBroth t_many p2 r1) fun r2 =>
      gc (bo r2.1) <|
      some (r2.1, r2.2.1, r2.2.2, t_much)
    else
      gc (inb p3 24) <|
      gc (inb p4 24) <|
      gb (g_X5_ofBroth p1 (t_much p3.toNatClampNeg) (t_much p4.toNatClampNeg)) fun r3 =>
      gb (g_X3_givesBroth t_isBroth t_much p2 r3) fun r4 =>
      gc (bo r4.1) <|
      some (r4.1, r4.2.1, t_many, r4.2.2)
  else
    some (0, t_isBroth, t_many, t_much)
def g_X3_goesPart : Nat → Int32 → (Nat → Int32) → (Nat → Int32) → (Nat → Int32) → (Nat → Int32) → (Nat → UInt32) → (Nat → Int32) → (Nat → Int32) → (Nat → Int32) → (Nat → Int32) → (Nat → UInt32) → Int32 → Int32 → Option (Int32 × (Nat → Int32) × (Nat → UInt32) × (Nat → Int32))
  | 0, _, _, _, _, _, _, _, _, _, _, _, _, _ => none
  | n + 1, p1_tokens, p1_kinds, p1_values, p1_parts, t_isBroth, t_much, t_many, p1_lastParts, p2_isBroth, p2_contents_many, p2_contents_much, p3, p4 =>
    if p3 < 0 then
      some (0, t_isBroth, t_much, t_many)
    else
      if p1_tokens ≤ p3 then
        some (0, t_isBroth, t_much, t_many)
      else
        if p4 ≤ 24 then
          gc (inb p3 24) <|
          gl (p1_kinds p3.toNatClampNeg) fun v1 =>
          gc (inb p3 24) <|
          gl (p1_values p3.toNatClampNeg) fun v2 =>
          if v1 = 0 then
            gb (g_X3_goesTake p1_tokens p1_kinds p1_values p2_isBroth t_many p2_contents_many t_much p2_contents_much t_isBroth p3 v2) fun r13 =>
            gc (bo r13.1) <|
            some (r13.1, r13.2.2.2, r13.2.2.1, r13.2.1)
          else
            if v1 = 1 then
              gb (g_X3_givesDrams t_isBroth t_many p3 v2.toInt64) fun r12 =>
              gc (bo r12.1) <|
              some (r12.1, r12.2.1, t_much, r12.2.2)
            else
              gc (inb p3 24) <|
              gl (p1_parts p3.toNatClampNeg) fun v3 =>
              if v1 = 7 then
                some (0, t_isBroth, t_much, t_many)
              else
                gb (g_X3_goesPart n p1_tokens p1_kinds p1_values p1_parts t_isBroth t_much t_many p1_lastParts p2_isBroth p2_contents_many p2_contents_much v3 (p4 + 1)) fun r4 =>
                if r4.1 = 0 then
                  some (0, r4.2.1, r4.2.2.1, r4.2.2.2)
                else
                  if v1 = 5 then
                    if v1 = 5 then
                      gb (g_X3_goesCast r4.2.1 r4.2.2.1 r4.2.2.2 p3 v3 (1 : Int32)) fun r6 =>
                      gc (bo r6.1) <|
                      some (r6.1, r6.2.1, r6.2.2.1, r6.2.2.2)
                    else
                      gb (g_X3_goesCast r4.2.1 r4.2.2.1 r4.2.2.2 p3 v3 (0 : Int32)) fun r5 =>
                      gc (bo r5.1) <|
                      some (r5.1, r5.2.1, r5.2.2.1, r5.2.2.2)
                  else
                    if v1 = 6 then
                      if v1 = 5 then
                        gb (g_X3_goesCast r4.2.1 r4.2.2.1 r4.2.2.2 p3 v3 (1 : Int32)) fun r11 =>
                        gc (bo r11.1) <|
                        some (r11.1, r11.2.1, r11.2.2.1, r11.2.2.2)
                      else
                        gb (g_X3_goesCast r4.2.1 r4.2.2.1 r4.2.2.2 p3 v3 (0 : Int32)) fun r10 =>
                        gc (bo r10.1) <|
                        some (r10.1, r10.2.1, r10.2.2.1, r10.2.2.2)
                    else
                      gc (inb p3 24) <|
                      gl (p1_lastParts p3.toNatClampNeg) fun v7 =>
                      gb (g_X3_goesPart n p1_tokens p1_kinds p1_values p1_parts r4.2.1 r4.2.2.1 r4.2.2.2 p1_lastParts p2_isBroth p2_contents_many p2_contents_much v7 (p4 + 1)) fun r8 =>
                      if r8.1 = 0 then
                        some (0, r8.2.1, r8.2.2.1, r8.2.2.2)
                      else
                        gb (g_X3_goesReckoning r8.2.1 r8.2.2.2 r8.2.2.1 v1 p3 v3 v7) fun r9 =>
                        if r9.1 = 0 then
                          some (0, r9.2.1, r9.2.2.2, r9.2.2.1)
                        else
                          some (1, r9.2.1, r9.2.2.2, r9.2.2.1)
        else
          some (0, t_isBroth, t_much, t_many)
def g_X3_goesStore (p1_tokens : Int32) (p1_parts : Nat → Int32) (p1_values : Nat → Int32) (p1_kinds : Nat → Int32) (t_isBroth : Nat → Int32) (t_much : Nat → UInt32) (t_many : Nat → Int32) (p1_lastParts : Nat → Int32) (p2_isBroth : Nat → Int32) (p2_contents_many : Nat → Int32) (p2_contents_much : Nat → UInt32) (p2_low : Nat → Int32) (p2_high : Nat → Int32) (p3 : Int32) : Option (Int32 × (Nat → Int32) × (Nat → UInt32) × (Nat → Int32)) :=
  gc (inb p3 24) <|
  gl (p1_parts p3.toNatClampNeg) fun v1 =>
  gc (inb p3 24) <|
  gl (p1_values p3.toNatClampNeg) fun v2 =>
  gb (g_X3_goesPart 26 p1_tokens p1_kinds p1_values p1_parts t_isBroth t_much t_many p1_lastParts p2_isBroth p2_contents_many p2_contents_much v1 (1 : Int32)) fun r3 =>
  if r3.1 = 0 then
    some (0, r3.2.1, r3.2.2.1, r3.2.2.2)
  else
    if v2 < 0 then
      some (0, r3.2.1, r3.2.2.1, r3.2.2.2)
    else
      if v2 < 6 then
        gc (inb v1 24) <|
        gc (inb v2 6) <|
        if (r3.2.1 v1.toNatClampNeg) = (p2_isBroth v2.toNatClampNeg) then
          gc (inb v1 24) <|
          if (r3.2.1 v1.toNatClampNeg) = 0 then
            gc (inb v1 24) <|
            gb (g_X3_givesDrams r3.2.1 r3.2.2.2 p3 ((r3.2.2.2 v1.toNatClampNeg).toInt64)) fun r4 =>
            if r4.1 = 0 then
              some (0, r4.2.1, r3.2.2.1, r4.2.2)
            else
              gc (inb v1 24) <|
              gb (g_X0_holds p2_low p2_high v2 ((r4.2.2 v1.toNatClampNeg).toInt64)) fun r5 =>
              if r5 = 0 then
                some (0, r4.2.1, r3.2.2.1, r4.2.2)
              else
                some (1, r4.2.1, r3.2.2.1, r4.2.2)
          else
            gc (inb v1 24) <|
            gb (g_X3_givesBroth r3.2.1 r3.2.2.1 p3 (r3.2.2.1 v1.toNatClampNeg)) fun r6 =>
            gc (bo r6.1) <|
            some (r6.1, r6.2.1, r6.2.2, r3.2.2.2)
        else
          some (0, r3.2.1, r3.2.2.1, r3.2.2.2)
      else
        some (0, r3.2.1, r3.2.2.1, r3.2.2.2)
def g_X3_goesWell_b33 (p1_tokens : Int32) (p1_kinds : Nat → Int32) (p1_parts : Nat → Int32) (p1_values : Nat → Int32) (p1_lastParts : Nat → Int32) (p2_isBroth : Nat → Int32) (p2_contents_many : Nat → Int32) (p2_contents_much : Nat → UInt32) (p2_low : Nat → Int32) (p2_high : Nat → Int32) (k2 : (Nat → Int32) → (Nat → Int32) → (Nat → UInt32) → Int32 → Option (Int32 × (Nat → Int32) × (Nat → UInt32) × (Nat → Int32))) (t_isBroth_33 : Nat → Int32) (t_many_33 : Nat → Int32) (t_much_33 : Nat → UInt32) (x3_33 : Int32) : Option (Int32 × (Nat → Int32) × (Nat → UInt32) × (Nat → Int32)) :=
  gl (x3_33 + 1) fun v1 =>
  k2 t_isBroth_33 t_many_33 t_much_33 v1
def g_X3_goesWell_b2 (p1_tokens : Int32) (p1_kinds : Nat → Int32) (p1_parts : Nat → Int32) (p1_values : Nat → Int32) (p1_lastParts : Nat → Int32) (p2_isBroth : Nat → Int32) (p2_contents_many : Nat → Int32) (p2_contents_much : Nat → UInt32) (p2_low : Nat → Int32) (p2_high : Nat → Int32) : Nat → (Nat → Int32) → (Nat → Int32) → (Nat → UInt32) → Int32 → Option (Int32 × (Nat → Int32) × (Nat → UInt32) × (Nat → Int32))
  | 0, _, _, _, _ => none
  | n + 1, t_isBroth_2, t_many_2, t_much_2, x3_2 =>
    if p1_tokens ≤ x3_2 then
      some (1, t_isBroth_2, t_much_2, t_many_2)
    else
      gc (inb x3_2 24) <|
      if (p1_kinds x3_2.toNatClampNeg) = 7 then
        gb (g_X3_goesStore p1_tokens p1_parts p1_values p1_kinds t_isBroth_2 t_much_2 t_many_2 p1_lastParts p2_isBroth p2_contents_many p2_contents_much p2_low p2_high x3_2) fun r2 =>
        if r2.1 = 0 then
          some (0, r2.2.1, r2.2.2.1, r2.2.2.2)
        else
          g_X3_goesWell_b33 p1_tokens p1_kinds p1_parts p1_values p1_lastParts p2_isBroth p2_contents_many p2_contents_much p2_low p2_high (g_X3_goesWell_b2 p1_tokens p1_kinds p1_parts p1_values p1_lastParts p2_isBroth p2_contents_many p2_contents_much p2_low p2_high n) r2.2.1 r2.2.2.2 r2.2.2.1 x3_2
      else
        g_X3_goesWell_b33 p1_tokens p1_kinds p1_parts p1_values p1_lastParts p2_isBroth p2_contents_many p2_contents_much p2_low p2_high (g_X3_goesWell_b2 p1_tokens p1_kinds p1_parts p1_values p1_lastParts p2_isBroth p2_contents_many p2_contents_much p2_low p2_high n) t_isBroth_2 t_many_2 t_much_2 x3_2
def g_X3_goesWell (p1_tokens : Int32) (p1_kinds : Nat → Int32) (p1_parts : Nat → Int32) (p1_values : Nat → Int32) (t_isBroth : Nat → Int32) (t_much : Nat → UInt32) (t_many : Nat → Int32) (p1_lastParts : Nat → Int32) (p2_isBroth : Nat → Int32) (p2_contents_many : Nat → Int32) (p2_contents_much : Nat → UInt32) (p2_low : Nat → Int32) (p2_high : Nat → Int32) : Option (Int32 × (Nat → Int32) × (Nat → UInt32) × (Nat → Int32)) :=
  g_X3_goesWell_b2 p1_tokens p1_kinds p1_parts p1_values p1_lastParts p2_isBroth p2_contents_many p2_contents_much p2_low p2_high 100 t_isBroth t_many t_much 0
def g_X3_leaves (p1_tokens : Int32) (p1_kinds : Nat → Int32) (p1_values : Nat → Int32) (t_isBroth : Nat → Int32) (t_many : Nat → Int32) (t_much : Nat → UInt32) (p2_isBroth : Nat → Int32) (p2_contents_many : Nat → Int32) (p2_contents_much : Nat → UInt32) (p3 : Int32) : Option (Int32) :=
  gb (g_X8_lastAhead p1_tokens p1_kinds p1_values (7 : Int32) p3 p1_tokens) fun r1 =>
  if r1 = (-1) then
    gb (g_X0_cutContent p2_isBroth p2_contents_many p2_contents_much p3) fun r4 =>
    some (r4)
  else
    gc (inb r1 24) <|
    if (t_isBroth r1.toNatClampNeg) = 0 then
      gc (inb r1 24) <|
      gl (t_many r1.toNatClampNeg) fun v2 =>
      some (v2)
    else
      gc (inb r1 24) <|
      gl (FP.f2i (t_much r1.toNatClampNeg)) fun v3 =>
      some (v3)
def g_X10_tellsBroth (t_isBroth : Nat → Int32) (p1 : Int32) : Option (Int32 × (Nat → Int32)) :=
  gc (inb p1 24) <|
  some (1, (upd t_isBroth p1.toNatClampNeg (vp_nar .boolean 1)))
def g_X10_tellsDrams (t_isBroth : Nat → Int32) (t_low : Nat → Int64) (t_high : Nat → Int64) (p1 : Int32) (p2 : Int64) (p3 : Int64) : Option (Int32 × (Nat → Int32) × (Nat → Int64) × (Nat → Int64)) :=
  gc (inb p1 24) <|
  gc (inb p1 24) <|
  gc (inb p1 24) <|
  gb (g_X5_excess p2) fun r1 =>
  if r1 = 0 then
    gb (g_X5_excess p3) fun r2 =>
    if r2 = 0 then
      some (1, (upd t_isBroth p1.toNatClampNeg (vp_nar .boolean 0)), (vp_updL t_low p1.toNatClampNeg p2), (vp_updL t_high p1.toNatClampNeg p3))
    else
      some (0, (upd t_isBroth p1.toNatClampNeg (vp_nar .boolean 0)), (vp_updL t_low p1.toNatClampNeg p2), (vp_updL t_high p1.toNatClampNeg p3))
  else
    some (0, (upd t_isBroth p1.toNatClampNeg (vp_nar .boolean 0)), (vp_updL t_low p1.toNatClampNeg p2), (vp_updL t_high p1.toNatClampNeg p3))
def g_X10_passesTake (p1_isBroth : Nat → Int32) (p1_low : Nat → Int32) (p1_high : Nat → Int32) (t_isBroth : Nat → Int32) (t_low : Nat → Int64) (t_high : Nat → Int64) (p2 : Int32) (p3 : Int32) : Option (Int32 × (Nat → Int32) × (Nat → Int64) × (Nat → Int64)) :=
  if p3 < 0 then
    some (0, t_isBroth, t_low, t_high)
  else
    if p3 < 6 then
      gc (inb p3 6) <|
      if (p1_isBroth p3.toNatClampNeg) = 0 then
        gc (inb p3 6) <|
        gc (inb p3 6) <|
        gb (g_X10_tellsDrams t_isBroth t_low t_high p2 ((p1_low p3.toNatClampNeg).toInt64) ((p1_high p3.toNatClampNeg).toInt64)) fun r1 =>
        gc (bo r1.1) <|
        some (r1.1, r1.2.1, r1.2.2.1, r1.2.2.2)
      else
        gb (g_X10_tellsBroth t_isBroth p2) fun r2 =>
        gc (bo r2.1) <|
        some (r2.1, r2.2, t_low, t_high)
    else
      some (0, t_isBroth, t_low, t_high)
def g_X10_passesCast (t_isBroth : Nat → Int32) (t_low : Nat → Int64) (t_high : Nat → Int64) (p1 : Int32) (p2 : Int32) (p3 : Int32) : Option (Int32 × (Nat → Int32) × (Nat → Int64) × (Nat → Int64)) :=
  gc (inb p2 24) <|
  if (t_isBroth p2.toNatClampNeg) = p3 then
    some (0, t_isBroth, t_low, t_high)
  else
    if p3 = 0 then
      gb (g_X10_tellsDrams t_isBroth t_low t_high p1 (-99 : Int64) (99 : Int64)) fun r1 =>
      gc (bo r1.1) <|
      some (r1.1, r1.2.1, r1.2.2.1, r1.2.2.2)
    else
      gb (g_X10_tellsBroth t_isBroth p1) fun r2 =>
      gc (bo r2.1) <|
      some (r2.1, r2.2, t_low, t_high)
def g_X10_passesReckoning_b19 (t_isBroth : Nat → Int32) (t_low : Nat → Int64) (t_high : Nat → Int64) (p2 : Int32) (p3 : Int32) (p4 : Int32) : Option (Int32 × (Nat → Int32) × (Nat → Int64) × (Nat → Int64)) :=
  gc (inb p3 24) <|
  if (t_isBroth p3.toNatClampNeg) = 0 then
    some (0, t_isBroth, t_low, t_high)
  else
    gc (inb p4 24) <|
    if (t_isBroth p4.toNatClampNeg) = 0 then
      some (0, t_isBroth, t_low, t_high)
    else
      gb (g_X10_tellsBroth t_isBroth p2) fun r4 =>
      if r4.1 = 0 then
        some (0, r4.2, t_low, t_high)
      else
        some (1, r4.2, t_low, t_high)
def g_X10_passesReckoning (t_isBroth : Nat → Int32) (t_low : Nat → Int64) (t_high : Nat → Int64) (p1 : Int32) (p2 : Int32) (p3 : Int32) (p4 : Int32) : Option (Int32 × (Nat → Int32) × (Nat → Int64) × (Nat → Int64)) :=
  gc (inb p3 24) <|
  if (t_isBroth p3.toNatClampNeg) = 0 then
    gc (inb p4 24) <|
    if (t_isBroth p4.toNatClampNeg) = 0 then
      gc (inb p3 24) <|
      gc (inb p3 24) <|
      gc (inb p4 24) <|
      gc (inb p4 24) <|
      gb (g_X5_lowest p1 (t_low p3.toNatClampNeg) (t_high p3.toNatClampNeg) (t_low p4.toNatClampNeg) (t_high p4.toNatClampNeg)) fun r1 =>
      gc (inb p3 24) <|
      gc (inb p3 24) <|
      gc (inb p4 24) <|
      gc (inb p4 24) <|
      gb (g_X5_highest p1 (t_low p3.toNatClampNeg) (t_high p3.toNatClampNeg) (t_low p4.toNatClampNeg) (t_high p4.toNatClampNeg)) fun r2 =>
      gb (g_X10_tellsDrams t_isBroth t_low t_high p2 r1 r2) fun r3 =>
      gc (bo r3.1) <|
      some (r3.1, r3.2.1, r3.2.2.1, r3.2.2.2)
    else
      g_X10_passesReckoning_b19 t_isBroth t_low t_high p2 p3 p4
  else
    g_X10_passesReckoning_b19 t_isBroth t_low t_high p2 p3 p4
def g_X10_passesPart : Nat → Int32 → (Nat → Int32) → (Nat → Int32) → (Nat → Int32) → (Nat → Int32) → (Nat → Int64) → (Nat → Int64) → (Nat → Int32) → (Nat → Int32) → (Nat → Int32) → (Nat → Int32) → Int32 → Int32 → Option (Int32 × (Nat → Int32) × (Nat → Int64) × (Nat → Int64))
  | 0, _, _, _, _, _, _, _, _, _, _, _, _, _ => none
  | n + 1, p1_tokens, p1_kinds, p1_values, p1_parts, t_isBroth, t_low, t_high, p1_lastParts, p2_isBroth, p2_low, p2_high, p3, p4 =>
    if p3 < 0 then
      some (0, t_isBroth, t_low, t_high)
    else
      if p1_tokens ≤ p3 then
        some (0, t_isBroth, t_low, t_high)
      else
        if p4 ≤ 24 then
          gc (inb p3 24) <|
          gl (p1_kinds p3.toNatClampNeg) fun v1 =>
          gc (inb p3 24) <|
          gl (p1_values p3.toNatClampNeg) fun v2 =>
          if v1 = 0 then
            gb (g_X10_passesTake p2_isBroth p2_low p2_high t_isBroth t_low t_high p3 v2) fun r13 =>
            gc (bo r13.1) <|
            some (r13.1, r13.2.1, r13.2.2.1, r13.2.2.2)
          else
            if v1 = 1 then
              gb (g_X10_tellsDrams t_isBroth t_low t_high p3 v2.toInt64 v2.toInt64) fun r12 =>
              gc (bo r12.1) <|
              some (r12.1, r12.2.1, r12.2.2.1, r12.2.2.2)
            else
              gc (inb p3 24) <|
              gl (p1_parts p3.toNatClampNeg) fun v3 =>
              if v1 = 7 then
                some (0, t_isBroth, t_low, t_high)
              else
                gb (g_X10_passesPart n p1_tokens p1_kinds p1_values p1_parts t_isBroth t_low t_high p1_lastParts p2_isBroth p2_low p2_high v3 (p4 + 1)) fun r4 =>
                if r4.1 = 0 then
                  some (0, r4.2.1, r4.2.2.1, r4.2.2.2)
                else
                  if v1 = 5 then
                    if v1 = 5 then
                      gb (g_X10_passesCast r4.2.1 r4.2.2.1 r4.2.2.2 p3 v3 (1 : Int32)) fun r6 =>
                      gc (bo r6.1) <|
                      some (r6.1, r6.2.1, r6.2.2.1, r6.2.2.2)
                    else
                      gb (g_X10_passesCast r4.2.1 r4.2.2.1 r4.2.2.2 p3 v3 (0 : Int32)) fun r5 =>
                      gc (bo r5.1) <|
                      some (r5.1, r5.2.1, r5.2.2.1, r5.2.2.2)
                  else
                    if v1 = 6 then
                      if v1 = 5 then
                        gb (g_X10_passesCast r4.2.1 r4.2.2.1 r4.2.2.2 p3 v3 (1 : Int32)) fun r11 =>
                        gc (bo r11.1) <|
                        some (r11.1, r11.2.1, r11.2.2.1, r11.2.2.2)
                      else
                        gb (g_X10_passesCast r4.2.1 r4.2.2.1 r4.2.2.2 p3 v3 (0 : Int32)) fun r10 =>
                        gc (bo r10.1) <|
                        some (r10.1, r10.2.1, r10.2.2.1, r10.2.2.2)
                    else
                      gc (inb p3 24) <|
                      gl (p1_lastParts p3.toNatClampNeg) fun v7 =>
                      gb (g_X10_passesPart n p1_tokens p1_kinds p1_values p1_parts r4.2.1 r4.2.2.1 r4.2.2.2 p1_lastParts p2_isBroth p2_low p2_high v7 (p4 + 1)) fun r8 =>
                      if r8.1 = 0 then
                        some (0, r8.2.1, r8.2.2.1, r8.2.2.2)
                      else
                        gb (g_X10_passesReckoning r8.2.1 r8.2.2.1 r8.2.2.2 v1 p3 v3 v7) fun r9 =>
                        if r9.1 = 0 then
                          some (0, r9.2.1, r9.2.2.1, r9.2.2.2)
                        else
                          some (1, r9.2.1, r9.2.2.1, r9.2.2.2)
        else
          some (0, t_isBroth, t_low, t_high)
def g_X10_passesStore_b62 (p2_isBroth : Nat → Int32) (t_high_62 : Nat → Int64) (t_isBroth_62 : Nat → Int32) (t_low_62 : Nat → Int64) (x4_62 : Int32) (x5_62 : Int32) : Option (Int32 × (Nat → Int32) × (Nat → Int64) × (Nat → Int64)) :=
  gc (inb x4_62 24) <|
  if (t_isBroth_62 x4_62.toNatClampNeg) = 0 then
    some (0, t_isBroth_62, t_low_62, t_high_62)
  else
    gc (inb x5_62 6) <|
    if (p2_isBroth x5_62.toNatClampNeg) = 0 then
      some (0, t_isBroth_62, t_low_62, t_high_62)
    else
      some (1, t_isBroth_62, t_low_62, t_high_62)
def g_X10_passesStore (p1_tokens : Int32) (p1_parts : Nat → Int32) (p1_values : Nat → Int32) (p1_kinds : Nat → Int32) (t_isBroth : Nat → Int32) (t_low : Nat → Int64) (t_high : Nat → Int64) (p1_lastParts : Nat → Int32) (p2_isBroth : Nat → Int32) (p2_low : Nat → Int32) (p2_high : Nat → Int32) (p3 : Int32) : Option (Int32 × (Nat → Int32) × (Nat → Int64) × (Nat → Int64)) :=
  gc (inb p3 24) <|
  gl (p1_parts p3.toNatClampNeg) fun v1 =>
  gc (inb p3 24) <|
  gl (p1_values p3.toNatClampNeg) fun v2 =>
  gb (g_X10_passesPart 26 p1_tokens p1_kinds p1_values p1_parts t_isBroth t_low t_high p1_lastParts p2_isBroth p2_low p2_high v1 (1 : Int32)) fun r3 =>
  if r3.1 = 0 then
    some (0, r3.2.1, r3.2.2.1, r3.2.2.2)
  else
    if v2 < 0 then
      some (0, r3.2.1, r3.2.2.1, r3.2.2.2)
    else
      if v2 < 6 then
        gc (inb v1 24) <|
        if (r3.2.1 v1.toNatClampNeg) = 0 then
          gc (inb v2 6) <|
          if (p2_isBroth v2.toNatClampNeg) = 0 then
            gc (inb v2 6) <|
            gc (inb v1 24) <|
            if 0 < (lg_cmp ((p2_low v2.toNatClampNeg).toInt64) (r3.2.2.1 v1.toNatClampNeg)) then
              some (0, r3.2.1, r3.2.2.1, r3.2.2.2)
            else
              gc (inb v1 24) <|
              gc (inb v2 6) <|
              if 0 < (lg_cmp (r3.2.2.2 v1.toNatClampNeg) ((p2_high v2.toNatClampNeg).toInt64)) then
                some (0, r3.2.1, r3.2.2.1, r3.2.2.2)
              else
                some (1, r3.2.1, r3.2.2.1, r3.2.2.2)
          else
            g_X10_passesStore_b62 p2_isBroth r3.2.2.2 r3.2.1 r3.2.2.1 v1 v2
        else
          g_X10_passesStore_b62 p2_isBroth r3.2.2.2 r3.2.1 r3.2.2.1 v1 v2
      else
        some (0, r3.2.1, r3.2.2.1, r3.2.2.2)
def g_X10_passes_b33 (p1_tokens : Int32) (p1_kinds : Nat → Int32) (p1_parts : Nat → Int32) (p1_values : Nat → Int32) (p1_lastParts : Nat → Int32) (p2_isBroth : Nat → Int32) (p2_low : Nat → Int32) (p2_high : Nat → Int32) (k2 : (Nat → Int64) → (Nat → Int32) → (Nat → Int64) → Int32 → Option (Int32 × (Nat → Int32) × (Nat → Int64) × (Nat → Int64))) (t_high_33 : Nat → Int64) (t_isBroth_33 : Nat → Int32) (t_low_33 : Nat → Int64) (x3_33 : Int32) : Option (Int32 × (Nat → Int32) × (Nat → Int64) × (Nat → Int64)) :=
  gl (x3_33 + 1) fun v1 =>
  k2 t_high_33 t_isBroth_33 t_low_33 v1
def g_X10_passes_b2 (p1_tokens : Int32) (p1_kinds : Nat → Int32) (p1_parts : Nat → Int32) (p1_values : Nat → Int32) (p1_lastParts : Nat → Int32) (p2_isBroth : Nat → Int32) (p2_low : Nat → Int32) (p2_high : Nat → Int32) : Nat → (Nat → Int64) → (Nat → Int32) → (Nat → Int64) → Int32 → Option (Int32 × (Nat → Int32) × (Nat → Int64) × (Nat → Int64))
  | 0, _, _, _, _ => none
  | n + 1, t_high_2, t_isBroth_2, t_low_2, x3_2 =>
    if p1_tokens ≤ x3_2 then
      some (1, t_isBroth_2, t_low_2, t_high_2)
    else
      gc (inb x3_2 24) <|
      if (p1_kinds x3_2.toNatClampNeg) = 7 then
        gb (g_X10_passesStore p1_tokens p1_parts p1_values p1_kinds t_isBroth_2 t_low_2 t_high_2 p1_lastParts p2_isBroth p2_low p2_high x3_2) fun r2 =>
        if r2.1 = 0 then
          some (0, r2.2.1, r2.2.2.1, r2.2.2.2)
        else
          g_X10_passes_b33 p1_tokens p1_kinds p1_parts p1_values p1_lastParts p2_isBroth p2_low p2_high (g_X10_passes_b2 p1_tokens p1_kinds p1_parts p1_values p1_lastParts p2_isBroth p2_low p2_high n) r2.2.2.2 r2.2.1 r2.2.2.1 x3_2
      else
        g_X10_passes_b33 p1_tokens p1_kinds p1_parts p1_values p1_lastParts p2_isBroth p2_low p2_high (g_X10_passes_b2 p1_tokens p1_kinds p1_parts p1_values p1_lastParts p2_isBroth p2_low p2_high n) t_high_2 t_isBroth_2 t_low_2 x3_2
def g_X10_passes (p1_tokens : Int32) (p1_kinds : Nat → Int32) (p1_parts : Nat → Int32) (p1_values : Nat → Int32) (t_isBroth : Nat → Int32) (t_low : Nat → Int64) (t_high : Nat → Int64) (p1_lastParts : Nat → Int32) (p2_isBroth : Nat → Int32) (p2_low : Nat → Int32) (p2_high : Nat → Int32) : Option (Int32 × (Nat → Int32) × (Nat → Int64) × (Nat → Int64)) :=
  g_X10_passes_b2 p1_tokens p1_kinds p1_parts p1_values p1_lastParts p2_isBroth p2_low p2_high 100 t_high t_isBroth t_low 0
def g_Jxe99ae_isNaN_b9ae7 (p1 : UInt64) : Option (Int32) :=
  if (Op.cmpValue (FP.dcmp p1 p1) .l) = 0 then
    some (0)
  else
    some (1)
def g_Jxe99ae_doubleToLongBits_ccdee (p1 : UInt64) : Option (Int64) :=
  gb (g_Jxe99ae_isNaN_b9ae7 p1) fun r1 =>
  if r1 = 0 then
    some (p1.toInt64)
  else
    gl (9221120237041090560 : Int64) fun v2 =>
    some (v2)
def g_X11_needBounds_b17 : Option (Int32) :=
  some 1
def g_X11_needBounds (p1 : Int32) (p2 : Int32) : Option (Int32) :=
  if p1 < (-99) then
    g_X11_needBounds_b17
  else
    if 99 < p2 then
      g_X11_needBounds_b17
    else
      if p1 ≤ p2 then
        some (0)
      else
        g_X11_needBounds_b17
def g_X11_needRoomForCauldron (t_book_cauldrons : Int32) (t_refusal_isKept : Int32) (t_refusal_reason : Int32) (t_refusal_detail : Int32) (t_refusal_hasCause : Int32) : Option (Int32 × Int32 × Int32 × Int32 × Int32) :=
  if t_book_cauldrons < 6 then
    some (0, t_refusal_isKept, t_refusal_reason, t_refusal_detail, t_refusal_hasCause)
  else
    gb (g_X7_keep t_refusal_isKept t_refusal_reason t_refusal_detail t_refusal_hasCause (1 : Int32) t_book_cauldrons) fun r1 =>
    some (4, r1.1, r1.2.1, r1.2.2.1, r1.2.2.2)
def g_X11_drams (LS : List Nat) (SE : Nat → SV) (t_book_cauldrons : Int32) (t_book_spells : Int32) (t_book_cookedSoFar : Int32) (t_book_storesSoFar : Int32) (t_refusal_isKept : Int32) (t_refusal_reason : Int32) (t_refusal_detail : Int32) (t_refusal_hasCause : Int32) (t_history_next : Int32) (t_history_changes : Int32) (t_history_books : Nat → Option Nat) (bk_cauldrons : Int32) (bk_spells : Int32) (bk_cookedSoFar : Int32) (bk_storesSoFar : Int32) (bk_contents_many : Nat → Int32) (t_book_contents_many : Nat → Int32) (bk_contents_much : Nat → UInt32) (t_book_contents_much : Nat → UInt32) (bk_isBroth : Nat → Int32) (t_book_isBroth : Nat → Int32) (bk_low : Nat → Int32) (t_book_low : Nat → Int32) (bk_high : Nat → Int32) (t_book_high : Nat → Int32) (bk_storesIn : Nat → Int32) (t_book_storesIn : Nat → Int32) (bk_texts : Nat → Option Nat) (t_book_texts : Nat → Option Nat) (bk_cooked : Nat → Int32) (t_book_cooked : Nat → Int32) (p1 : Int32) (p2 : Int32) (a_bk : Nat) : Option (Int32 × Int32 × Int32 × Int32 × Int32 × Int32 × Int32 × Int32 × Int32 × Int32 × Int32 × Int32 × Int32 × (Nat → Int32) × (Nat → Int32) × (Nat → UInt32) × (Nat → UInt32) × (Nat → Int32) × (Nat → Int32) × (Nat → Int32) × (Nat → Int32) × (Nat → Int32) × (Nat → Int32) × (Nat → Int32) × (Nat → Int32) × (Nat → Option Nat) × (Nat → Int32)) :=
  gb (g_X11_needBounds p1 p2) fun r1 =>
  if r1 = 0 then
    gb (g_X11_needRoomForCauldron t_book_cauldrons t_refusal_isKept t_refusal_reason t_refusal_detail t_refusal_hasCause) fun r2 =>
    if r2.1 = 0 then
      gb (g_X4_remember LS SE t_history_next t_history_changes t_book_cauldrons t_book_spells t_book_cookedSoFar t_book_storesSoFar t_history_books bk_cauldrons bk_spells bk_cookedSoFar bk_storesSoFar bk_contents_many t_book_contents_many bk_contents_much t_book_contents_much bk_isBroth t_book_isBroth bk_low t_book_low bk_high t_book_high bk_storesIn t_book_storesIn bk_texts t_book_texts bk_cooked t_book_cooked a_bk) fun r3 =>
      gb (g_X0_setUp t_book_cauldrons t_book_isBroth t_book_low t_book_high t_book_contents_many t_book_contents_much t_book_storesIn (0 : Int32) p1 p2) fun r4 =>
      some (0, r4.1, r4.2.1, r2.2.1, r2.2.2.1, r2.2.2.2.1, r2.2.2.2.2, r3.1, r3.2.1, r3.2.2.1, r3.2.2.2.1, r3.2.2.2.2.1, r3.2.2.2.2.2.1, r3.2.2.2.2.2.2.1, r4.2.2.2.2.2.1, r3.2.2.2.2.2.2.2.1, r4.2.2.2.2.2.2.1, r3.2.2.2.2.2.2.2.2.1, r4.2.2.1, r3.2.2.2.2.2.2.2.2.2.1, r4.2.2.2.1, r3.2.2.2.2.2.2.2.2.2.2.1, r4.2.2.2.2.1, r3.2.2.2.2.2.2.2.2.2.2.2.1, r4.2.2.2.2.2.2.2, r3.2.2.2.2.2.2.2.2.2.2.2.2.1, r3.2.2.2.2.2.2.2.2.2.2.2.2.2)
    else
      some (r2.1, 0, t_book_cauldrons, r2.2.1, r2.2.2.1, r2.2.2.2.1, r2.2.2.2.2, t_history_next, t_history_changes, bk_cauldrons, bk_spells, bk_cookedSoFar, bk_storesSoFar, bk_contents_many, t_book_contents_many, bk_contents_much, t_book_contents_much, bk_isBroth, t_book_isBroth, bk_low, t_book_low, bk_high, t_book_high, bk_storesIn, t_book_storesIn, bk_texts, bk_cooked)
  else
    some (r1, 0, t_book_cauldrons, t_refusal_isKept, t_refusal_reason, t_refusal_detail, t_refusal_hasCause, t_history_next, t_history_changes, bk_cauldrons, bk_spells, bk_cookedSoFar, bk_storesSoFar, bk_contents_many, t_book_contents_many, bk_contents_much, t_book_contents_much, bk_isBroth, t_book_isBroth, bk_low, t_book_low, bk_high, t_book_high, bk_storesIn, t_book_storesIn, bk_texts, bk_cooked)
def g_X11_broth (LS : List Nat) (SE : Nat → SV) (t_book_cauldrons : Int32) (t_book_spells : Int32) (t_book_cookedSoFar : Int32) (t_book_storesSoFar : Int32) (t_refusal_isKept : Int32) (t_refusal_reason : Int32) (t_refusal_detail : Int32) (t_refusal_hasCause : Int32) (t_history_next : Int32) (t_history_changes : Int32) (t_history_books : Nat → Option Nat) (bk_cauldrons : Int32) (bk_spells : Int32) (bk_cookedSoFar : Int32) (bk_storesSoFar : Int32) (bk_contents_many : Nat → Int32) (t_book_contents_many : Nat → Int32) (bk_contents_much : Nat → UInt32) (t_book_contents_much : Nat → UInt32) (bk_isBroth : Nat → Int32) (t_book_isBroth : Nat → Int32) (bk_low : Nat → Int32) (t_book_low : Nat → Int32) (bk_high : Nat → Int32) (t_book_high : Nat → Int32) (bk_storesIn : Nat → Int32) (t_book_storesIn : Nat → Int32) (bk_texts : Nat → Option Nat) (t_book_texts : Nat → Option Nat) (bk_cooked : Nat → Int32) (t_book_cooked : Nat → Int32) (a_bk : Nat) : Option (Int32 × Int32 × Int32 × Int32 × Int32 × Int32 × Int32 × Int32 × Int32 × Int32 × Int32 × Int32 × Int32 × (Nat → Int32) × (Nat → Int32) × (Nat → UInt32) × (Nat → UInt32) × (Nat → Int32) × (Nat → Int32) × (Nat → Int32) × (Nat → Int32) × (Nat → Int32) × (Nat → Int32) × (Nat → Int32) × (Nat → Int32) × (Nat → Option Nat) × (Nat → Int32)) :=
  gb (g_X11_needRoomForCauldron t_book_cauldrons t_refusal_isKept t_refusal_reason t_refusal_detail t_refusal_hasCause) fun r1 =>
  if r1.1 = 0 then
    gb (g_X4_remember LS SE t_history_next t_history_changes t_book_cauldrons t_book_spells t_book_cookedSoFar t_book_storesSoFar t_history_books bk_cauldrons bk_spells bk_cookedSoFar bk_storesSoFar bk_contents_many t_book_contents_many bk_contents_much t_book_contents_much bk_isBroth t_book_isBroth bk_low t_book_low bk_high t_book_high bk_storesIn t_book_storesIn bk_texts t_book_texts bk_cooked t_book_cooked a_bk) fun r2 =>
    gb (g_X0_setUp t_book_cauldrons t_book_isBroth t_book_low t_book_high t_book_contents_many t_book_contents_much t_book_storesIn (1 : Int32) (-99 : Int32) (99 : Int32)) fun r3 =>
    some (0, r3.1, r3.2.1, r1.2.1, r1.2.2.1, r1.2.2.2.1, r1.2.2.2.2, r2.1, r2.2.1, r2.2.2.1, r2.2.2.2.1, r2.2.2.2.2.1, r2.2.2.2.2.2.1, r2.2.2.2.2.2.2.1, r3.2.2.2.2.2.1, r2.2.2.2.2.2.2.2.1, r3.2.2.2.2.2.2.1, r2.2.2.2.2.2.2.2.2.1, r3.2.2.1, r2.2.2.2.2.2.2.2.2.2.1, r3.2.2.2.1, r2.2.2.2.2.2.2.2.2.2.2.1, r3.2.2.2.2.1, r2.2.2.2.2.2.2.2.2.2.2.2.1, r3.2.2.2.2.2.2.2, r2.2.2.2.2.2.2.2.2.2.2.2.2.1, r2.2.2.2.2.2.2.2.2.2.2.2.2.2)
  else
    some (r1.1, 0, t_book_cauldrons, r1.2.1, r1.2.2.1, r1.2.2.2.1, r1.2.2.2.2, t_history_next, t_history_changes, bk_cauldrons, bk_spells, bk_cookedSoFar, bk_storesSoFar, bk_contents_many, t_book_contents_many, bk_contents_much, t_book_contents_much, bk_isBroth, t_book_isBroth, bk_low, t_book_low, bk_high, t_book_high, bk_storesIn, t_book_storesIn, bk_texts, bk_cooked)
def g_X11_needCauldron_b15 : Option (Int32) :=
  some 2
def g_X11_needCauldron (t_book_cauldrons : Int32) (p1 : Int32) : Option (Int32) :=
  if p1 < 0 then
    g_X11_needCauldron_b15
  else
    if p1 < t_book_cauldrons then
      some (0)
    else
      g_X11_needCauldron_b15
def g_X11_needDrams (t_book_isBroth : Nat → Int32) (t_refusal_isKept : Int32) (t_refusal_reason : Int32) (t_refusal_detail : Int32) (t_refusal_hasCause : Int32) (p1 : Int32) : Option (Int32 × Int32 × Int32 × Int32 × Int32) :=
  gc (inb p1 6) <|
  if (t_book_isBroth p1.toNatClampNeg) = 0 then
    some (0, t_refusal_isKept, t_refusal_reason, t_refusal_detail, t_refusal_hasCause)
  else
    gb (g_X7_keep t_refusal_isKept t_refusal_reason t_refusal_detail t_refusal_hasCause (2 : Int32) p1) fun r1 =>
    some (4, r1.1, r1.2.1, r1.2.2.1, r1.2.2.2)
def g_X11_pour (LS : List Nat) (SE : Nat → SV) (t_book_cauldrons : Int32) (t_book_spells : Int32) (t_book_cookedSoFar : Int32) (t_book_storesSoFar : Int32) (t_book_isBroth : Nat → Int32) (t_refusal_isKept : Int32) (t_refusal_reason : Int32) (t_refusal_detail : Int32) (t_refusal_hasCause : Int32) (t_book_low : Nat → Int32) (t_book_high : Nat → Int32) (t_history_next : Int32) (t_history_changes : Int32) (t_history_books : Nat → Option Nat) (bk_cauldrons : Int32) (bk_spells : Int32) (bk_cookedSoFar : Int32) (bk_storesSoFar : Int32) (bk_contents_many : Nat → Int32) (t_book_contents_many : Nat → Int32) (bk_contents_much : Nat → UInt32) (t_book_contents_much : Nat → UInt32) (bk_isBroth : Nat → Int32) (bk_low : Nat → Int32) (bk_high : Nat → Int32) (bk_storesIn : Nat → Int32) (t_book_storesIn : Nat → Int32) (bk_texts : Nat → Option Nat) (t_book_texts : Nat → Option Nat) (bk_cooked : Nat → Int32) (t_book_cooked : Nat → Int32) (p1 : Int32) (p2 : Int32) (a_bk : Nat) : Option (Int32 × Int32 × Int32 × Int32 × Int32 × Int32 × Int32 × Int32 × Int32 × Int32 × Int32 × Int32 × (Nat → Int32) × (Nat → Int32) × (Nat → UInt32) × (Nat → Int32) × (Nat → Int32) × (Nat → Int32) × (Nat → Int32) × (Nat → Option Nat) × (Nat → Int32)) :=
  gb (g_X11_needCauldron t_book_cauldrons p1) fun r1 =>
  if r1 = 0 then
    gb (g_X11_needDrams t_book_isBroth t_refusal_isKept t_refusal_reason t_refusal_detail t_refusal_hasCause p1) fun r2 =>
    if r2.1 = 0 then
      gb (g_X0_holds t_book_low t_book_high p1 p2.toInt64) fun r3 =>
      if r3 = 0 then
        gb (g_X7_keep r2.2.1 r2.2.2.1 r2.2.2.2.1 r2.2.2.2.2 (3 : Int32) p2) fun r6 =>
        some (4, 0, r6.1, r6.2.1, r6.2.2.1, r6.2.2.2, t_history_next, t_history_changes, bk_cauldrons, bk_spells, bk_cookedSoFar, bk_storesSoFar, bk_contents_many, t_book_contents_many, bk_contents_much, bk_isBroth, bk_low, bk_high, bk_storesIn, bk_texts, bk_cooked)
      else
        gb (g_X4_remember LS SE t_history_next t_history_changes t_book_cauldrons t_book_spells t_book_cookedSoFar t_book_storesSoFar t_history_books bk_cauldrons bk_spells bk_cookedSoFar bk_storesSoFar bk_contents_many t_book_contents_many bk_contents_much t_book_contents_much bk_isBroth t_book_isBroth bk_low t_book_low bk_high t_book_high bk_storesIn t_book_storesIn bk_texts t_book_texts bk_cooked t_book_cooked a_bk) fun r4 =>
        gc (inb p1 6) <|
        gl (t_book_contents_many p1.toNatClampNeg) fun v5 =>
        gc (inb p1 6) <|
        some (0, v5, r2.2.1, r2.2.2.1, r2.2.2.2.1, r2.2.2.2.2, r4.1, r4.2.1, r4.2.2.1, r4.2.2.2.1, r4.2.2.2.2.1, r4.2.2.2.2.2.1, r4.2.2.2.2.2.2.1, (upd t_book_contents_many p1.toNatClampNeg p2), r4.2.2.2.2.2.2.2.1, r4.2.2.2.2.2.2.2.2.1, r4.2.2.2.2.2.2.2.2.2.1, r4.2.2.2.2.2.2.2.2.2.2.1, r4.2.2.2.2.2.2.2.2.2.2.2.1, r4.2.2.2.2.2.2.2.2.2.2.2.2.1, r4.2.2.2.2.2.2.2.2.2.2.2.2.2)
    else
      some (r2.1, 0, r2.2.1, r2.2.2.1, r2.2.2.2.1, r2.2.2.2.2, t_history_next, t_history_changes, bk_cauldrons, bk_spells, bk_cookedSoFar, bk_storesSoFar, bk_contents_many, t_book_contents_many, bk_contents_much, bk_isBroth, bk_low, bk_high, bk_storesIn, bk_texts, bk_cooked)
  else
    some (r1, 0, t_refusal_isKept, t_refusal_reason, t_refusal_detail, t_refusal_hasCause, t_history_next, t_history_changes, bk_cauldrons, bk_spells, bk_cookedSoFar, bk_storesSoFar, bk_contents_many, t_book_contents_many, bk_contents_much, bk_isBroth, bk_low, bk_high, bk_storesIn, bk_texts, bk_cooked)
def g_X11_ladle_b19 (t_history_next : Int32) (t_history_changes : Int32) (bk_cauldrons : Int32) (bk_spells : Int32) (bk_cookedSoFar : Int32) (bk_storesSoFar : Int32) (bk_contents_many : Nat → Int32) (bk_contents_much : Nat → UInt32) (t_book_contents_much : Nat → UInt32) (bk_isBroth : Nat → Int32) (bk_low : Nat → Int32) (bk_high : Nat → Int32) (bk_storesIn : Nat → Int32) (bk_texts : Nat → Option Nat) (bk_cooked : Nat → Int32) (t_refusal_isKept : Int32) (t_refusal_reason : Int32) (t_refusal_detail : Int32) (t_refusal_hasCause : Int32) : Option (Int32 × Int32 × Int32 × Int32 × Int32 × Int32 × Int32 × Int32 × (Nat → Int32) × (Nat → UInt32) × (Nat → UInt32) × (Nat → Int32) × (Nat → Int32) × (Nat → Int32) × (Nat → Int32) × (Nat → Option Nat) × (Nat → Int32) × Int32 × Int32 × Int32 × Int32) :=
  some (1, 0, t_history_next, t_history_changes, bk_cauldrons, bk_spells, bk_cookedSoFar, bk_storesSoFar, bk_contents_many, bk_contents_much, t_book_contents_much, bk_isBroth, bk_low, bk_high, bk_storesIn, bk_texts, bk_cooked, t_refusal_isKept, t_refusal_reason, t_refusal_detail, t_refusal_hasCause)
def g_X11_ladle (LS : List Nat) (SE : Nat → SV) (t_book_cauldrons : Int32) (t_book_spells : Int32) (t_book_cookedSoFar : Int32) (t_book_storesSoFar : Int32) (t_book_isBroth : Nat → Int32) (t_history_next : Int32) (t_history_changes : Int32) (t_history_books : Nat → Option Nat) (bk_cauldrons : Int32) (bk_spells : Int32) (bk_cookedSoFar : Int32) (bk_storesSoFar : Int32) (bk_contents_many : Nat → Int32) (t_book_contents_many : Nat → Int32) (bk_contents_much : Nat → UInt32) (t_book_contents_much : Nat → UInt32) (bk_isBroth : Nat → Int32) (bk_low : Nat → Int32) (t_book_low : Nat → Int32) (bk_high : Nat → Int32) (t_book_high : Nat → Int32) (bk_storesIn : Nat → Int32) (t_book_storesIn : Nat → Int32) (bk_texts : Nat → Option Nat) (t_book_texts : Nat → Option Nat) (bk_cooked : Nat → Int32) (t_book_cooked : Nat → Int32) (t_refusal_isKept : Int32) (t_refusal_reason : Int32) (t_refusal_detail : Int32) (t_refusal_hasCause : Int32) (p1 : Int32) (p2 : Int32) (a_bk : Nat) : Option (Int32 × Int32 × Int32 × Int32 × Int32 × Int32 × Int32 × Int32 × (Nat → Int32) × (Nat → UInt32) × (Nat → UInt32) × (Nat → Int32) × (Nat → Int32) × (Nat → Int32) × (Nat → Int32) × (Nat → Option Nat) × (Nat → Int32) × Int32 × Int32 × Int32 × Int32) :=
  gb (g_X11_needCauldron t_book_cauldrons p1) fun r1 =>
  if r1 = 0 then
    if p2 < (-9999) then
      g_X11_ladle_b19 t_history_next t_history_changes bk_cauldrons bk_spells bk_cookedSoFar bk_storesSoFar bk_contents_many bk_contents_much t_book_contents_much bk_isBroth bk_low bk_high bk_storesIn bk_texts bk_cooked t_refusal_isKept t_refusal_reason t_refusal_detail t_refusal_hasCause
    else
      if p2 ≤ 9999 then
        gc (inb p1 6) <|
        if (t_book_isBroth p1.toNatClampNeg) = 0 then
          gb (g_X7_keep t_refusal_isKept t_refusal_reason t_refusal_detail t_refusal_hasCause (4 : Int32) p1) fun r4 =>
          some (4, 0, t_history_next, t_history_changes, bk_cauldrons, bk_spells, bk_cookedSoFar, bk_storesSoFar, bk_contents_many, bk_contents_much, t_book_contents_much, bk_isBroth, bk_low, bk_high, bk_storesIn, bk_texts, bk_cooked, r4.1, r4.2.1, r4.2.2.1, r4.2.2.2)
        else
          gb (g_X4_remember LS SE t_history_next t_history_changes t_book_cauldrons t_book_spells t_book_cookedSoFar t_book_storesSoFar t_history_books bk_cauldrons bk_spells bk_cookedSoFar bk_storesSoFar bk_contents_many t_book_contents_many bk_contents_much t_book_contents_much bk_isBroth t_book_isBroth bk_low t_book_low bk_high t_book_high bk_storesIn t_book_storesIn bk_texts t_book_texts bk_cooked t_book_cooked a_bk) fun r2 =>
          gc (inb p1 6) <|
          gb (g_X5_bitsOf (t_book_contents_much p1.toNatClampNeg)) fun r3 =>
          gc (n32 (FP.fdiv (FP.i2f p2) (1120403456 : UInt32))) <|
          gc (inb p1 6) <|
          some (0, r3, r2.1, r2.2.1, r2.2.2.1, r2.2.2.2.1, r2.2.2.2.2.1, r2.2.2.2.2.2.1, r2.2.2.2.2.2.2.1, r2.2.2.2.2.2.2.2.1, (vf_upd t_book_contents_much p1.toNatClampNeg (FP.fdiv (FP.i2f p2) (1120403456 : UInt32))), r2.2.2.2.2.2.2.2.2.1, r2.2.2.2.2.2.2.2.2.2.1, r2.2.2.2.2.2.2.2.2.2.2.1, r2.2.2.2.2.2.2.2.2.2.2.2.1, r2.2.2.2.2.2.2.2.2.2.2.2.2.1, r2.2.2.2.2.2.2.2.2.2.2.2.2.2, t_refusal_isKept, t_refusal_reason, t_refusal_detail, t_refusal_hasCause)
      else
        g_X11_ladle_b19 t_history_next t_history_changes bk_cauldrons bk_spells bk_cookedSoFar bk_storesSoFar bk_contents_many bk_contents_much t_book_contents_much bk_isBroth bk_low bk_high bk_storesIn bk_texts bk_cooked t_refusal_isKept t_refusal_reason t_refusal_detail t_refusal_hasCause
  else
    some (r1, 0, t_history_next, t_history_changes, bk_cauldrons, bk_spells, bk_cookedSoFar, bk_storesSoFar, bk_contents_many, bk_contents_much, t_book_contents_much, bk_isBroth, bk_low, bk_high, bk_storesIn, bk_texts, bk_cooked, t_refusal_isKept, t_refusal_reason, t_refusal_detail, t_refusal_hasCause)
def g_X11_countTyped_b46 (LS : List Nat) (SE : Nat → SV) (t_book_spells : Int32) (t_book_texts : Nat → Option Nat) (t_book_isBroth : Nat → Int32) (t_book_low : Nat → Int32) (t_book_high : Nat → Int32) (k4 : (Nat → Int64) → (Nat → Int32) → (Nat → Int64) → (Nat → Int64) → (Nat → Int32) → (Nat → Int64) → Int32 → Int32 → Int32 → Int32 → Int32 → Option (Int32 × Int32 × Int32 × Int32 × (Nat → Int32) × (Nat → Int64) × (Nat → Int64) × (Nat → Int32) × (Nat → Int64) × (Nat → Int64))) (t_typing_high_46 : Nat → Int64) (t_typing_isBroth_46 : Nat → Int32) (t_typing_low_46 : Nat → Int64) (t_typing_storeHigh_46 : Nat → Int64) (t_typing_storeIsBroth_46 : Nat → Int32) (t_typing_storeLow_46 : Nat → Int64) (t_typing_faultAt_46 : Int32) (t_typing_stores_46 : Int32) (t_typing_spoons_46 : Int32) (x1_46 : Int32) (x2_46 : Int32) : Option (Int32 × Int32 × Int32 × Int32 × (Nat → Int32) × (Nat → Int64) × (Nat → Int64) × (Nat → Int32) × (Nat → Int64) × (Nat → Int64)) :=
  gl (x2_46 + 1) fun v1 =>
  k4 t_typing_high_46 t_typing_isBroth_46 t_typing_low_46 t_typing_storeHigh_46 t_typing_storeIsBroth_46 t_typing_storeLow_46 t_typing_faultAt_46 t_typing_stores_46 t_typing_spoons_46 x1_46 v1
def g_X11_countTyped_b4 (LS : List Nat) (SE : Nat → SV) (t_book_spells : Int32) (t_book_texts : Nat → Option Nat) (t_book_isBroth : Nat → Int32) (t_book_low : Nat → Int32) (t_book_high : Nat → Int32) : Nat → (Nat → Int64) → (Nat → Int32) → (Nat → Int64) → (Nat → Int64) → (Nat → Int32) → (Nat → Int64) → Int32 → Int32 → Int32 → Int32 → Int32 → Option (Int32 × Int32 × Int32 × Int32 × (Nat → Int32) × (Nat → Int64) × (Nat → Int64) × (Nat → Int32) × (Nat → Int64) × (Nat → Int64))
  | 0, _, _, _, _, _, _, _, _, _, _, _ => none
  | n + 1, t_typing_high_4, t_typing_isBroth_4, t_typing_low_4, t_typing_storeHigh_4, t_typing_storeIsBroth_4, t_typing_storeLow_4, t_typing_faultAt_4, t_typing_stores_4, t_typing_spoons_4, x1_4, x2_4 =>
    if t_book_spells ≤ x2_4 then
      some (x1_4, t_typing_faultAt_4, t_typing_stores_4, t_typing_spoons_4, t_typing_isBroth_4, t_typing_low_4, t_typing_high_4, t_typing_storeIsBroth_4, t_typing_storeLow_4, t_typing_storeHigh_4)
    else
      gb (g_X0_spellAt t_book_spells t_book_texts x2_4) fun r2 =>
      go r2 (
        g_X11_countTyped_b46 LS SE t_book_spells t_book_texts t_book_isBroth t_book_low t_book_high (g_X11_countTyped_b4 LS SE t_book_spells t_book_texts t_book_isBroth t_book_low t_book_high n) t_typing_high_4 t_typing_isBroth_4 t_typing_low_4 t_typing_storeHigh_4 t_typing_storeIsBroth_4 t_typing_storeLow_4 t_typing_faultAt_4 t_typing_stores_4 t_typing_spoons_4 x1_4 x2_4) fun a_y20 =>
      gc (inl9 LS a_y20) <|
      gb (g_X9_passes t_typing_faultAt_4 t_typing_stores_4 t_typing_spoons_4 ((SE a_y20).2.2.1) ((SE a_y20).2.2.2.2.2.2.1) ((SE a_y20).2.2.2.2.2.2.2.1) t_book_isBroth t_book_low t_book_high t_typing_isBroth_4 t_typing_low_4 t_typing_high_4 t_typing_storeIsBroth_4 t_typing_storeLow_4 t_typing_storeHigh_4) fun r3 =>
      if r3.1 = 0 then
        g_X11_countTyped_b46 LS SE t_book_spells t_book_texts t_book_isBroth t_book_low t_book_high (g_X11_countTyped_b4 LS SE t_book_spells t_book_texts t_book_isBroth t_book_low t_book_high n) r3.2.2.2.2.2.2.1 r3.2.2.2.2.1 r3.2.2.2.2.2.1 r3.2.2.2.2.2.2.2.2.2 r3.2.2.2.2.2.2.2.1 r3.2.2.2.2.2.2.2.2.1 r3.2.1 r3.2.2.1 r3.2.2.2.1 x1_4 x2_4
      else
        gl (x1_4 + 1) fun v4 =>
        g_X11_countTyped_b46 LS SE t_book_spells t_book_texts t_book_isBroth t_book_low t_book_high (g_X11_countTyped_b4 LS SE t_book_spells t_book_texts t_book_isBroth t_book_low t_book_high n) r3.2.2.2.2.2.2.1 r3.2.2.2.2.1 r3.2.2.2.2.2.1 r3.2.2.2.2.2.2.2.2.2 r3.2.2.2.2.2.2.2.1 r3.2.2.2.2.2.2.2.2.1 r3.2.1 r3.2.2.1 r3.2.2.2.1 v4 x2_4
def g_X11_countTyped (LS : List Nat) (SE : Nat → SV) (t_book_spells : Int32) (t_book_texts : Nat → Option Nat) (t_typing_faultAt : Int32) (t_typing_stores : Int32) (t_typing_spoons : Int32) (t_book_isBroth : Nat → Int32) (t_book_low : Nat → Int32) (t_book_high : Nat → Int32) (t_typing_isBroth : Nat → Int32) (t_typing_low : Nat → Int64) (t_typing_high : Nat → Int64) (t_typing_storeIsBroth : Nat → Int32) (t_typing_storeLow : Nat → Int64) (t_typing_storeHigh : Nat → Int64) : Option (Int32 × Int32 × Int32 × Int32 × (Nat → Int32) × (Nat → Int64) × (Nat → Int64) × (Nat → Int32) × (Nat → Int64) × (Nat → Int64)) :=
  g_X11_countTyped_b4 LS SE t_book_spells t_book_texts t_book_isBroth t_book_low t_book_high 100 t_typing_high t_typing_isBroth t_typing_low t_typing_storeHigh t_typing_storeIsBroth t_typing_storeLow t_typing_faultAt t_typing_stores t_typing_spoons 0 0
def g_X11_bounds_b42 (t_history_next : Int32) (t_history_changes : Int32) (bk_cauldrons : Int32) (bk_spells : Int32) (bk_cookedSoFar : Int32) (bk_storesSoFar : Int32) (bk_contents_many : Nat → Int32) (bk_contents_much : Nat → UInt32) (bk_isBroth : Nat → Int32) (bk_low : Nat → Int32) (t_book_low : Nat → Int32) (bk_high : Nat → Int32) (t_book_high : Nat → Int32) (bk_storesIn : Nat → Int32) (bk_texts : Nat → Option Nat) (bk_cooked : Nat → Int32) (t_typing_faultAt : Int32) (t_typing_stores : Int32) (t_typing_spoons : Int32) (t_typing_isBroth : Nat → Int32) (t_typing_low : Nat → Int64) (t_typing_high : Nat → Int64) (t_typing_storeIsBroth : Nat → Int32) (t_typing_storeLow : Nat → Int64) (t_typing_storeHigh : Nat → Int64) (t_refusal_isKept_42 : Int32) (t_refusal_reason_42 : Int32) (t_refusal_detail_42 : Int32) (t_refusal_hasCause_42 : Int32) (x4_42 : Int32) : Option (Int32 × Int32 × Int32 × Int32 × Int32 × Int32 × Int32 × Int32 × Int32 × Int32 × Int32 × Int32 × (Nat → Int32) × (Nat → UInt32) × (Nat → Int32) × (Nat → Int32) × (Nat → Int32) × (Nat → Int32) × (Nat → Int32) × (Nat → Int32) × (Nat → Option Nat) × (Nat → Int32) × Int32 × Int32 × Int32 × (Nat → Int32) × (Nat → Int64) × (Nat → Int64) × (Nat → Int32) × (Nat → Int64) × (Nat → Int64)) :=
  gb (g_X7_keep t_refusal_isKept_42 t_refusal_reason_42 t_refusal_detail_42 t_refusal_hasCause_42 (3 : Int32) x4_42) fun r9 =>
  some (4, 0, r9.1, r9.2.1, r9.2.2.1, r9.2.2.2, t_history_next, t_history_changes, bk_cauldrons, bk_spells, bk_cookedSoFar, bk_storesSoFar, bk_contents_many, bk_contents_much, bk_isBroth, bk_low, t_book_low, bk_high, t_book_high, bk_storesIn, bk_texts, bk_cooked, t_typing_faultAt, t_typing_stores, t_typing_spoons, t_typing_isBroth, t_typing_low, t_typing_high, t_typing_storeIsBroth, t_typing_storeLow, t_typing_storeHigh)
def g_X11_bounds (LS : List Nat) (SE : Nat → SV) (t_book_cauldrons : Int32) (t_book_spells : Int32) (t_book_cookedSoFar : Int32) (t_book_storesSoFar : Int32) (t_book_isBroth : Nat → Int32) (t_refusal_isKept : Int32) (t_refusal_reason : Int32) (t_refusal_detail : Int32) (t_refusal_hasCause : Int32) (t_book_contents_many : Nat → Int32) (t_history_next : Int32) (t_history_changes : Int32) (t_history_books : Nat → Option Nat) (bk_cauldrons : Int32) (bk_spells : Int32) (bk_cookedSoFar : Int32) (bk_storesSoFar : Int32) (bk_contents_many : Nat → Int32) (bk_contents_much : Nat → UInt32) (t_book_contents_much : Nat → UInt32) (bk_isBroth : Nat → Int32) (bk_low : Nat → Int32) (t_book_low : Nat → Int32) (bk_high : Nat → Int32) (t_book_high : Nat → Int32) (bk_storesIn : Nat → Int32) (t_book_storesIn : Nat → Int32) (bk_texts : Nat → Option Nat) (t_book_texts : Nat → Option Nat) (bk_cooked : Nat → Int32) (t_book_cooked : Nat → Int32) (t_typing_faultAt : Int32) (t_typing_stores : Int32) (t_typing_spoons : Int32) (t_typing_isBroth : Nat → Int32) (t_typing_low : Nat → Int64) (t_typing_high : Nat → Int64) (t_typing_storeIsBroth : Nat → Int32) (t_typing_storeLow : Nat → Int64) (t_typing_storeHigh : Nat → Int64) (p1 : Int32) (p2 : Int32) (p3 : Int32) (a_bk : Nat) : Option (Int32 × Int32 × Int32 × Int32 × Int32 × Int32 × Int32 × Int32 × Int32 × Int32 × Int32 × Int32 × (Nat → Int32) × (Nat → UInt32) × (Nat → Int32) × (Nat → Int32) × (Nat → Int32) × (Nat → Int32) × (Nat → Int32) × (Nat → Int32) × (Nat → Option Nat) × (Nat → Int32) × Int32 × Int32 × Int32 × (Nat → Int32) × (Nat → Int64) × (Nat → Int64) × (Nat → Int32) × (Nat → Int64) × (Nat → Int64)) :=
  gb (g_X11_needCauldron t_book_cauldrons p1) fun r1 =>
  if r1 = 0 then
    gb (g_X11_needBounds p2 p3) fun r2 =>
    if r2 = 0 then
      gb (g_X11_needDrams t_book_isBroth t_refusal_isKept t_refusal_reason t_refusal_detail t_refusal_hasCause p1) fun r3 =>
      if r3.1 = 0 then
        gc (inb p1 6) <|
        gl (t_book_contents_many p1.toNatClampNeg) fun v4 =>
        if v4 < p2 then
          g_X11_bounds_b42 t_history_next t_history_changes bk_cauldrons bk_spells bk_cookedSoFar bk_storesSoFar bk_contents_many bk_contents_much bk_isBroth bk_low t_book_low bk_high t_book_high bk_storesIn bk_texts bk_cooked t_typing_faultAt t_typing_stores t_typing_spoons t_typing_isBroth t_typing_low t_typing_high t_typing_storeIsBroth t_typing_storeLow t_typing_storeHigh r3.2.1 r3.2.2.1 r3.2.2.2.1 r3.2.2.2.2 v4
        else
          if v4 ≤ p3 then
            gb (g_X4_remember LS SE t_history_next t_history_changes t_book_cauldrons t_book_spells t_book_cookedSoFar t_book_storesSoFar t_history_books bk_cauldrons bk_spells bk_cookedSoFar bk_storesSoFar bk_contents_many t_book_contents_many bk_contents_much t_book_contents_much bk_isBroth t_book_isBroth bk_low t_book_low bk_high t_book_high bk_storesIn t_book_storesIn bk_texts t_book_texts bk_cooked t_book_cooked a_bk) fun r5 =>
            gb (g_X11_countTyped LS SE t_book_spells t_book_texts t_typing_faultAt t_typing_stores t_typing_spoons t_book_isBroth t_book_low t_book_high t_typing_isBroth t_typing_low t_typing_high t_typing_storeIsBroth t_typing_storeLow t_typing_storeHigh) fun r6 =>
            gc (inb p1 6) <|
            gc (inb p1 6) <|
            gb (g_X11_countTyped LS SE t_book_spells t_book_texts r6.2.1 r6.2.2.1 r6.2.2.2.1 t_book_isBroth (upd t_book_low p1.toNatClampNeg p2) (upd t_book_high p1.toNatClampNeg p3) r6.2.2.2.2.1 r6.2.2.2.2.2.1 r6.2.2.2.2.2.2.1 r6.2.2.2.2.2.2.2.1 r6.2.2.2.2.2.2.2.2.1 r6.2.2.2.2.2.2.2.2.2) fun r7 =>
            gl (r7.1 - r6.1) fun v8 =>
            some (0, v8, r3.2.1, r3.2.2.1, r3.2.2.2.1, r3.2.2.2.2, r5.1, r5.2.1, r5.2.2.1, r5.2.2.2.1, r5.2.2.2.2.1, r5.2.2.2.2.2.1, r5.2.2.2.2.2.2.1, r5.2.2.2.2.2.2.2.1, r5.2.2.2.2.2.2.2.2.1, r5.2.2.2.2.2.2.2.2.2.1, (upd t_book_low p1.toNatClampNeg p2), r5.2.2.2.2.2.2.2.2.2.2.1, (upd t_book_high p1.toNatClampNeg p3), r5.2.2.2.2.2.2.2.2.2.2.2.1, r5.2.2.2.2.2.2.2.2.2.2.2.2.1, r5.2.2.2.2.2.2.2.2.2.2.2.2.2, r7.2.1, r7.2.2.1, r7.2.2.2.1, r7.2.2.2.2.1, r7.2.2.2.2.2.1, r7.2.2.2.2.2.2.1, r7.2.2.2.2.2.2.2.1, r7.2.2.2.2.2.2.2.2.1, r7.2.2.2.2.2.2.2.2.2)
          else
            g_X11_bounds_b42 t_history_next t_history_changes bk_cauldrons bk_spells bk_cookedSoFar bk_storesSoFar bk_contents_many bk_contents_much bk_isBroth bk_low t_book_low bk_high t_book_high bk_storesIn bk_texts bk_cooked t_typing_faultAt t_typing_stores t_typing_spoons t_typing_isBroth t_typing_low t_typing_high t_typing_storeIsBroth t_typing_storeLow t_typing_storeHigh r3.2.1 r3.2.2.1 r3.2.2.2.1 r3.2.2.2.2 v4
      else
        some (r3.1, 0, r3.2.1, r3.2.2.1, r3.2.2.2.1, r3.2.2.2.2, t_history_next, t_history_changes, bk_cauldrons, bk_spells, bk_cookedSoFar, bk_storesSoFar, bk_contents_many, bk_contents_much, bk_isBroth, bk_low, t_book_low, bk_high, t_book_high, bk_storesIn, bk_texts, bk_cooked, t_typing_faultAt, t_typing_stores, t_typing_spoons, t_typing_isBroth, t_typing_low, t_typing_high, t_typing_storeIsBroth, t_typing_storeLow, t_typing_storeHigh)
    else
      some (r2, 0, t_refusal_isKept, t_refusal_reason, t_refusal_detail, t_refusal_hasCause, t_history_next, t_history_changes, bk_cauldrons, bk_spells, bk_cookedSoFar, bk_storesSoFar, bk_contents_many, bk_contents_much, bk_isBroth, bk_low, t_book_low, bk_high, t_book_high, bk_storesIn, bk_texts, bk_cooked, t_typing_faultAt, t_typing_stores, t_typing_spoons, t_typing_isBroth, t_typing_low, t_typing_high, t_typing_storeIsBroth, t_typing_storeLow, t_typing_storeHigh)
  else
    some (r1, 0, t_refusal_isKept, t_refusal_reason, t_refusal_detail, t_refusal_hasCause, t_history_next, t_history_changes, bk_cauldrons, bk_spells, bk_cookedSoFar, bk_storesSoFar, bk_contents_many, bk_contents_much, bk_isBroth, bk_low, t_book_low, bk_high, t_book_high, bk_storesIn, bk_texts, bk_cooked, t_typing_faultAt, t_typing_stores, t_typing_spoons, t_typing_isBroth, t_typing_low, t_typing_high, t_typing_storeIsBroth, t_typing_storeLow, t_typing_storeHigh)
def g_X11_needSpell (LS : List Nat) (SE : Nat → SV) (t_book_spells : Int32) (t_book_texts : Nat → Option Nat) (p1 : Int32) : Option (Int32 × Option Nat) :=
  gb (g_X0_spellAt t_book_spells t_book_texts p1) fun r1 =>
  go r1 (
    some (2, none)) fun a_y5 =>
  gc (inl9 LS a_y5) <|
  some (0, (some a_y5))
def g_X11_erase (LS : List Nat) (SE : Nat → SV) (t_book_cauldrons : Int32) (t_book_spells : Int32) (t_book_cookedSoFar : Int32) (t_book_storesSoFar : Int32) (t_book_texts : Nat → Option Nat) (t_history_next : Int32) (t_history_changes : Int32) (t_history_books : Nat → Option Nat) (bk_cauldrons : Int32) (bk_spells : Int32) (bk_cookedSoFar : Int32) (bk_storesSoFar : Int32) (bk_contents_many : Nat → Int32) (t_book_contents_many : Nat → Int32) (bk_contents_much : Nat → UInt32) (t_book_contents_much : Nat → UInt32) (bk_isBroth : Nat → Int32) (t_book_isBroth : Nat → Int32) (bk_low : Nat → Int32) (t_book_low : Nat → Int32) (bk_high : Nat → Int32) (t_book_high : Nat → Int32) (bk_storesIn : Nat → Int32) (t_book_storesIn : Nat → Int32) (bk_texts : Nat → Option Nat) (bk_cooked : Nat → Int32) (t_book_cooked : Nat → Int32) (p1 : Int32) (a_bk : Nat) : Option (Int32 × Int32 × Int32 × (Nat → Option Nat) × Int32 × Int32 × Int32 × Int32 × Int32 × Int32 × (Nat → Int32) × (Nat → UInt32) × (Nat → Int32) × (Nat → Int32) × (Nat → Int32) × (Nat → Int32) × (Nat → Option Nat) × (Nat → Int32) × (Nat → Int32)) :=
  gb (g_X11_needSpell LS SE t_book_spells t_book_texts p1) fun r1 =>
  if r1.1 = 0 then
    go r1.2 (
      none) fun a_y2 =>
    gc (inl9 LS a_y2) <|
    gb (g_X4_remember LS SE t_history_next t_history_changes t_book_cauldrons t_book_spells t_book_cookedSoFar t_book_storesSoFar t_history_books bk_cauldrons bk_spells bk_cookedSoFar bk_storesSoFar bk_contents_many t_book_contents_many bk_contents_much t_book_contents_much bk_isBroth t_book_isBroth bk_low t_book_low bk_high t_book_high bk_storesIn t_book_storesIn bk_texts t_book_texts bk_cooked t_book_cooked a_bk) fun r2 =>
    gb (g_X0_strikeOut LS SE t_book_spells t_book_texts t_book_cooked p1) fun r3 =>
    some (0, r3.1, r3.1, r3.2.1, r2.1, r2.2.1, r2.2.2.1, r2.2.2.2.1, r2.2.2.2.2.1, r2.2.2.2.2.2.1, r2.2.2.2.2.2.2.1, r2.2.2.2.2.2.2.2.1, r2.2.2.2.2.2.2.2.2.1, r2.2.2.2.2.2.2.2.2.2.1, r2.2.2.2.2.2.2.2.2.2.2.1, r2.2.2.2.2.2.2.2.2.2.2.2.1, r2.2.2.2.2.2.2.2.2.2.2.2.2.1, r2.2.2.2.2.2.2.2.2.2.2.2.2.2, r3.2.2)
  else
    some (r1.1, 0, t_book_spells, t_book_texts, t_history_next, t_history_changes, bk_cauldrons, bk_spells, bk_cookedSoFar, bk_storesSoFar, bk_contents_many, bk_contents_much, bk_isBroth, bk_low, bk_high, bk_storesIn, bk_texts, bk_cooked, t_book_cooked)
def g_X11_cook (LS : List Nat) (SE : Nat → SV) (t_boiledOver : Int32) (t_book_cauldrons : Int32) (t_book_spells : Int32) (t_book_cookedSoFar : Int32) (t_book_storesSoFar : Int32) (t_book_texts : Nat → Option Nat) (t_cooking_boilsAt : Int32) (t_cooking_cause : Int32) (t_cooking_causeDetail : Int32) (t_cooking_spoons : Int32) (t_cooking_now_many : Nat → Int32) (t_book_contents_many : Nat → Int32) (t_cooking_now_much : Nat → UInt32) (t_book_contents_much : Nat → UInt32) (t_cooking_before_many : Nat → Int32) (t_cooking_before_much : Nat → UInt32) (t_cooking_storesIn : Nat → Int32) (t_book_isBroth : Nat → Int32) (t_cooking_isBroth : Nat → Int32) (t_cooking_many : Nat → Int32) (t_cooking_much : Nat → UInt32) (t_book_low : Nat → Int32) (t_book_high : Nat → Int32) (t_history_next : Int32) (t_history_changes : Int32) (t_history_books : Nat → Option Nat) (bk_cauldrons : Int32) (bk_spells : Int32) (bk_cookedSoFar : Int32) (bk_storesSoFar : Int32) (bk_contents_many : Nat → Int32) (bk_contents_much : Nat → UInt32) (bk_isBroth : Nat → Int32) (bk_low : Nat → Int32) (bk_high : Nat → Int32) (bk_storesIn : Nat → Int32) (t_book_storesIn : Nat → Int32) (bk_texts : Nat → Option Nat) (bk_cooked : Nat → Int32) (t_book_cooked : Nat → Int32) (t_refusal_isKept : Int32) (t_refusal_reason : Int32) (t_refusal_detail : Int32) (t_refusal_hasCause : Int32) (t_refusal_cause : Int32) (t_refusal_causeDetail : Int32) (p1 : Int32) (a_bk : Nat) : Option (Int32 × Int32 × Int32 × Int32 × Int32 × Int32 × Int32 × Int32 × Int32 × (Nat → Int32) × (Nat → Int32) × (Nat → UInt32) × (Nat → UInt32) × (Nat → Int32) × (Nat → UInt32) × (Nat → Int32) × (Nat → Int32) × (Nat → Int32) × (Nat → UInt32) × Int32 × Int32 × Int32 × Int32 × Int32 × Int32 × (Nat → Int32) × (Nat → UInt32) × (Nat → Int32) × (Nat → Int32) × (Nat → Int32) × (Nat → Int32) × (Nat → Int32) × (Nat → Option Nat) × (Nat → Int32) × (Nat → Int32) × Int32 × Int32 × Int32 × Int32 × Int32 × Int32) :=
  gb (g_X11_needSpell LS SE t_book_spells t_book_texts p1) fun r1 =>
  if r1.1 = 0 then
    go r1.2 (
      none) fun a_y2 =>
    gc (inl9 LS a_y2) <|
    gb (g_X2_begin t_cooking_now_many t_book_contents_many t_cooking_now_much t_book_contents_much) fun r2 =>
    gb (g_X2_goesOn t_cooking_boilsAt t_cooking_cause t_cooking_causeDetail t_cooking_spoons ((SE a_y2).2.2.1) t_cooking_before_many r2.1 t_cooking_before_much r2.2 t_cooking_storesIn ((SE a_y2).2.2.2.2.2.2.1) ((SE a_y2).2.2.2.2.2.2.2.1) t_book_isBroth t_cooking_isBroth t_cooking_many t_cooking_much t_book_low t_book_high) fun r3 =>
    if r3.1 = 0 then
      gl (t_boiledOver + 1) fun v7 =>
      gb (g_X7_keepWithCause t_refusal_isKept t_refusal_reason t_refusal_detail t_refusal_hasCause t_refusal_cause t_refusal_causeDetail (6 : Int32) r3.2.1 r3.2.2.1 r3.2.2.2.1) fun r8 =>
      some (4, 0, v7, t_book_cookedSoFar, t_book_storesSoFar, r3.2.1, r3.2.2.1, r3.2.2.2.1, r3.2.2.2.2.1, r3.2.2.2.2.2.2.1, t_book_contents_many, r3.2.2.2.2.2.2.2.2.1, t_book_contents_much, r3.2.2.2.2.2.1, r3.2.2.2.2.2.2.2.1, r3.2.2.2.2.2.2.2.2.2.1, r3.2.2.2.2.2.2.2.2.2.2.1, r3.2.2.2.2.2.2.2.2.2.2.2.1, r3.2.2.2.2.2.2.2.2.2.2.2.2, t_history_next, t_history_changes, bk_cauldrons, bk_spells, bk_cookedSoFar, bk_storesSoFar, bk_contents_many, bk_contents_much, bk_isBroth, bk_low, bk_high, bk_storesIn, t_book_storesIn, bk_texts, bk_cooked, t_book_cooked, r8.1, r8.2.1, r8.2.2.1, r8.2.2.2.1, r8.2.2.2.2.1, r8.2.2.2.2.2)
    else
      gb (g_X4_remember LS SE t_history_next t_history_changes t_book_cauldrons t_book_spells t_book_cookedSoFar t_book_storesSoFar t_history_books bk_cauldrons bk_spells bk_cookedSoFar bk_storesSoFar bk_contents_many t_book_contents_many bk_contents_much t_book_contents_much bk_isBroth t_book_isBroth bk_low t_book_low bk_high t_book_high bk_storesIn t_book_storesIn bk_texts t_book_texts bk_cooked t_book_cooked a_bk) fun r4 =>
      gb (g_X0_settle t_book_cookedSoFar t_book_storesSoFar t_book_contents_many r3.2.2.2.2.2.2.1 t_book_contents_much r3.2.2.2.2.2.2.2.2.1 t_book_cooked t_book_storesIn r3.2.2.2.2.2.2.2.2.2.1 p1) fun r5 =>
      gb (g_X2_changes r3.2.2.2.2.2.2.1 r3.2.2.2.2.2.1 r3.2.2.2.2.2.2.2.2.1 r3.2.2.2.2.2.2.2.1) fun r6 =>
      some (0, r6, t_boiledOver, r5.1, r5.2.1, r3.2.1, r3.2.2.1, r3.2.2.2.1, r3.2.2.2.2.1, r3.2.2.2.2.2.2.1, r5.2.2.1, r3.2.2.2.2.2.2.2.2.1, r5.2.2.2.1, r3.2.2.2.2.2.1, r3.2.2.2.2.2.2.2.1, r3.2.2.2.2.2.2.2.2.2.1, r3.2.2.2.2.2.2.2.2.2.2.1, r3.2.2.2.2.2.2.2.2.2.2.2.1, r3.2.2.2.2.2.2.2.2.2.2.2.2, r4.1, r4.2.1, r4.2.2.1, r4.2.2.2.1, r4.2.2.2.2.1, r4.2.2.2.2.2.1, r4.2.2.2.2.2.2.1, r4.2.2.2.2.2.2.2.1, r4.2.2.2.2.2.2.2.2.1, r4.2.2.2.2.2.2.2.2.2.1, r4.2.2.2.2.2.2.2.2.2.2.1, r4.2.2.2.2.2.2.2.2.2.2.2.1, r5.2.2.2.2.2, r4.2.2.2.2.2.2.2.2.2.2.2.2.1, r4.2.2.2.2.2.2.2.2.2.2.2.2.2, r5.2.2.2.2.1, t_refusal_isKept, t_refusal_reason, t_refusal_detail, t_refusal_hasCause, t_refusal_cause, t_refusal_causeDetail)
  else
    some (r1.1, 0, t_boiledOver, t_book_cookedSoFar, t_book_storesSoFar, t_cooking_boilsAt, t_cooking_cause, t_cooking_causeDetail, t_cooking_spoons, t_cooking_now_many, t_book_contents_many, t_cooking_now_much, t_book_contents_much, t_cooking_before_many, t_cooking_before_much, t_cooking_storesIn, t_cooking_isBroth, t_cooking_many, t_cooking_much, t_history_next, t_history_changes, bk_cauldrons, bk_spells, bk_cookedSoFar, bk_storesSoFar, bk_contents_many, bk_contents_much, bk_isBroth, bk_low, bk_high, bk_storesIn, t_book_storesIn, bk_texts, bk_cooked, t_book_cooked, t_refusal_isKept, t_refusal_reason, t_refusal_detail, t_refusal_hasCause, t_refusal_cause, t_refusal_causeDetail)
def g_X11_cookAll_b125 (LS : List Nat) (SE : Nat → SV) (t_book_spells : Int32) (t_book_texts : Nat → Option Nat) (t_book_isBroth : Nat → Int32) (t_book_low : Nat → Int32) (t_book_high : Nat → Int32) (t_refusal_isKept : Int32) (t_refusal_reason : Int32) (t_refusal_detail : Int32) (t_refusal_hasCause : Int32) (k48 : (Nat → Int32) → (Nat → UInt32) → (Nat → Int32) → (Nat → Int32) → (Nat → Int32) → (Nat → Int32) → (Nat → Int32) → (Nat → Option Nat) → (Nat → Int32) → (Nat → UInt32) → (Nat → Int32) → (Nat → Int32) → (Nat → Int32) → (Nat → UInt32) → (Nat → Int32) → (Nat → Int32) → (Nat → UInt32) → (Nat → Int32) → (Nat → UInt32) → (Nat → Int32) → (Nat → Int64) → (Nat → Int32) → (Nat → Int64) → (Nat → Int64) → (Nat → Int32) → (Nat → Int64) → Int32 → Int32 → Int32 → Int32 → Int32 → Int32 → Int32 → Int32 → Int32 → Int32 → Int32 → Int32 → Int32 → Int32 → Int32 → Int32 → Int32 → Option (Int32 × Int32 × Int32 × Int32 × Int32 × Int32 × Int32 × (Nat → Int32) × (Nat → Int64) × (Nat → Int64) × (Nat → Int32) × (Nat → Int64) × (Nat → Int64) × Int32 × Int32 × Int32 × Int32 × Int32 × Int32 × (Nat → Int32) × (Nat → Int32) × (Nat → UInt32) × (Nat → UInt32) × (Nat → Int32) × (Nat → Int32) × (Nat → Int32) × (Nat → Int32) × (Nat → Int32) × (Nat → Option Nat) × (Nat → Int32) × (Nat → Int32) × Int32 × Int32 × Int32 × Int32 × Int32 × Int32 × Int32 × Int32 × (Nat → Int32) × (Nat → UInt32) × (Nat → Int32) × (Nat → UInt32) × (Nat → Int32) × (Nat → Int32) × (Nat → Int32) × (Nat → UInt32))) (bk_contents_many_125 : Nat → Int32) (bk_contents_much_125 : Nat → UInt32) (bk_cooked_125 : Nat → Int32) (bk_high_125 : Nat → Int32) (bk_isBroth_125 : Nat → Int32) (bk_low_125 : Nat → Int32) (bk_storesIn_125 : Nat → Int32) (bk_texts_125 : Nat → Option Nat) (t_book_contents_many_125 : Nat → Int32) (t_book_contents_much_125 : Nat → UInt32) (t_book_cooked_125 : Nat → Int32) (t_book_storesIn_125 : Nat → Int32) (t_cooking_before_many_125 : Nat → Int32) (t_cooking_before_much_125 : Nat → UInt32) (t_cooking_isBroth_125 : Nat → Int32) (t_cooking_many_125 : Nat → Int32) (t_cooking_much_125 : Nat → UInt32) (t_cooking_now_many_125 : Nat → Int32) (t_cooking_now_much_125 : Nat → UInt32) (t_cooking_storesIn_125 : Nat → Int32) (t_typing_high_125 : Nat → Int64) (t_typing_isBroth_125 : Nat → Int32) (t_typing_low_125 : Nat → Int64) (t_typing_storeHigh_125 : Nat → Int64) (t_typing_storeIsBroth_125 : Nat → Int32) (t_typing_storeLow_125 : Nat → Int64) (bk_cauldrons_125 : Int32) (bk_storesSoFar_125 : Int32) (bk_spells_125 : Int32) (bk_cookedSoFar_125 : Int32) (t_book_storesSoFar_125 : Int32) (t_book_cookedSoFar_125 : Int32) (t_cooking_boilsAt_125 : Int32) (t_cooking_cause_125 : Int32) (t_cooking_causeDetail_125 : Int32) (t_cooking_spoons_125 : Int32) (t_history_next_125 : Int32) (t_history_changes_125 : Int32) (t_typing_faultAt_125 : Int32) (t_typing_stores_125 : Int32) (t_typing_spoons_125 : Int32) (x1_125 : Int32) (x2_125 : Int32) : Option (Int32 × Int32 × Int32 × Int32 × Int32 × Int32 × Int32 × (Nat → Int32) × (Nat → Int64) × (Nat → Int64) × (Nat → Int32) × (Nat → Int64) × (Nat → Int64) × Int32 × Int32 × Int32 × Int32 × Int32 × Int32 × (Nat → Int32) × (Nat → Int32) × (Nat → UInt32) × (Nat → UInt32) × (Nat → Int32) × (Nat → Int32) × (Nat → Int32) × (Nat → Int32) × (Nat → Int32) × (Nat → Option Nat) × (Nat → Int32) × (Nat → Int32) × Int32 × Int32 × Int32 × Int32 × Int32 × Int32 × Int32 × Int32 × (Nat → Int32) × (Nat → UInt32) × (Nat → Int32) × (Nat → UInt32) × (Nat → Int32) × (Nat → Int32) × (Nat → Int32) × (Nat → UInt32)) :=
  gl (x2_125 + 1) fun v4 =>
  k48 bk_contents_many_125 bk_contents_much_125 bk_cooked_125 bk_high_125 bk_isBroth_125 bk_low_125 bk_storesIn_125 bk_texts_125 t_book_contents_many_125 t_book_contents_much_125 t_book_cooked_125 t_book_storesIn_125 t_cooking_before_many_125 t_cooking_before_much_125 t_cooking_isBroth_125 t_cooking_many_125 t_cooking_much_125 t_cooking_now_many_125 t_cooking_now_much_125 t_cooking_storesIn_125 t_typing_high_125 t_typing_isBroth_125 t_typing_low_125 t_typing_storeHigh_125 t_typing_storeIsBroth_125 t_typing_storeLow_125 bk_cauldrons_125 bk_storesSoFar_125 bk_spells_125 bk_cookedSoFar_125 t_book_storesSoFar_125 t_book_cookedSoFar_125 t_cooking_boilsAt_125 t_cooking_cause_125 t_cooking_causeDetail_125 t_cooking_spoons_125 t_history_next_125 t_history_changes_125 t_typing_faultAt_125 t_typing_stores_125 t_typing_spoons_125 x1_125 v4
def g_X11_cookAll_b48 (LS : List Nat) (SE : Nat → SV) (t_book_spells : Int32) (t_book_texts : Nat → Option Nat) (t_book_isBroth : Nat → Int32) (t_book_low : Nat → Int32) (t_book_high : Nat → Int32) (t_refusal_isKept : Int32) (t_refusal_reason : Int32) (t_refusal_detail : Int32) (t_refusal_hasCause : Int32) : Nat → (Nat → Int32) → (Nat → UInt32) → (Nat → Int32) → (Nat → Int32) → (Nat → Int32) → (Nat → Int32) → (Nat → Int32) → (Nat → Option Nat) → (Nat → Int32) → (Nat → UInt32) → (Nat → Int32) → (Nat → Int32) → (Nat → Int32) → (Nat → UInt32) → (Nat → Int32) → (Nat → Int32) → (Nat → UInt32) → (Nat → Int32) → (Nat → UInt32) → (Nat → Int32) → (Nat → Int64) → (Nat → Int32) → (Nat → Int64) → (Nat → Int64) → (Nat → Int32) → (Nat → Int64) → Int32 → Int32 → Int32 → Int32 → Int32 → Int32 → Int32 → Int32 → Int32 → Int32 → Int32 → Int32 → Int32 → Int32 → Int32 → Int32 → Int32 → Option (Int32 × Int32 × Int32 × Int32 × Int32 × Int32 × Int32 × (Nat → Int32) × (Nat → Int64) × (Nat → Int64) × (Nat → Int32) × (Nat → Int64) × (Nat → Int64) × Int32 × Int32 × Int32 × Int32 × Int32 × Int32 × (Nat → Int32) × (Nat → Int32) × (Nat → UInt32) × (Nat → UInt32) × (Nat → Int32) × (Nat → Int32) × (Nat → Int32) × (Nat → Int32) × (Nat → Int32) × (Nat → Option Nat) × (Nat → Int32) × (Nat → Int32) × Int32 × Int32 × Int32 × Int32 × Int32 × Int32 × Int32 × Int32 × (Nat → Int32) × (Nat → UInt32) × (Nat → Int32) × (Nat → UInt32) × (Nat → Int32) × (Nat → Int32) × (Nat → Int32) × (Nat → UInt32))
  | 0, _, _, _, _, _, _, _, _, _, _, _, _, _, _, _, _, _, _, _, _, _, _, _, _, _, _, _, _, _, _, _, _, _, _, _, _, _, _, _, _, _, _, _ => none
  | n + 1, bk_contents_many_48, bk_contents_much_48, bk_cooked_48, bk_high_48, bk_isBroth_48, bk_low_48, bk_storesIn_48, bk_texts_48, t_book_contents_many_48, t_book_contents_much_48, t_book_cooked_48, t_book_storesIn_48, t_cooking_before_many_48, t_cooking_before_much_48, t_cooking_isBroth_48, t_cooking_many_48, t_cooking_much_48, t_cooking_now_many_48, t_cooking_now_much_48, t_cooking_storesIn_48, t_typing_high_48, t_typing_isBroth_48, t_typing_low_48, t_typing_storeHigh_48, t_typing_storeIsBroth_48, t_typing_storeLow_48, bk_cauldrons_48, bk_storesSoFar_48, bk_spells_48, bk_cookedSoFar_48, t_book_storesSoFar_48, t_book_cookedSoFar_48, t_cooking_boilsAt_48, t_cooking_cause_48, t_cooking_causeDetail_48, t_cooking_spoons_48, t_history_next_48, t_history_changes_48, t_typing_faultAt_48, t_typing_stores_48, t_typing_spoons_48, x1_48, x2_48 =>
    if t_book_spells ≤ x2_48 then
      some (0, x1_48, t_book_cookedSoFar_48, t_book_storesSoFar_48, t_typing_faultAt_48, t_typing_stores_48, t_typing_spoons_48, t_typing_isBroth_48, t_typing_low_48, t_typing_high_48, t_typing_storeIsBroth_48, t_typing_storeLow_48, t_typing_storeHigh_48, t_history_next_48, t_history_changes_48, bk_cauldrons_48, bk_spells_48, bk_cookedSoFar_48, bk_storesSoFar_48, bk_contents_many_48, t_book_contents_many_48, bk_contents_much_48, t_book_contents_much_48, bk_isBroth_48, bk_low_48, bk_high_48, bk_storesIn_48, t_book_storesIn_48, bk_texts_48, bk_cooked_48, t_book_cooked_48, t_refusal_isKept, t_refusal_reason, t_refusal_detail, t_refusal_hasCause, t_cooking_boilsAt_48, t_cooking_cause_48, t_cooking_causeDetail_48, t_cooking_spoons_48, t_cooking_now_many_48, t_cooking_now_much_48, t_cooking_before_many_48, t_cooking_before_much_48, t_cooking_storesIn_48, t_cooking_isBroth_48, t_cooking_many_48, t_cooking_much_48)
    else
      gb (g_X0_spellAt t_book_spells t_book_texts x2_48) fun r5 =>
      go r5 (
        g_X11_cookAll_b125 LS SE t_book_spells t_book_texts t_book_isBroth t_book_low t_book_high t_refusal_isKept t_refusal_reason t_refusal_detail t_refusal_hasCause (g_X11_cookAll_b48 LS SE t_book_spells t_book_texts t_book_isBroth t_book_low t_book_high t_refusal_isKept t_refusal_reason t_refusal_detail t_refusal_hasCause n) bk_contents_many_48 bk_contents_much_48 bk_cooked_48 bk_high_48 bk_isBroth_48 bk_low_48 bk_storesIn_48 bk_texts_48 t_book_contents_many_48 t_book_contents_much_48 t_book_cooked_48 t_book_storesIn_48 t_cooking_before_many_48 t_cooking_before_much_48 t_cooking_isBroth_48 t_cooking_many_48 t_cooking_much_48 t_cooking_now_many_48 t_cooking_now_much_48 t_cooking_storesIn_48 t_typing_high_48 t_typing_isBroth_48 t_typing_low_48 t_typing_storeHigh_48 t_typing_storeIsBroth_48 t_typing_storeLow_48 bk_cauldrons_48 bk_storesSoFar_48 bk_spells_48 bk_cookedSoFar_48 t_book_storesSoFar_48 t_book_cookedSoFar_48 t_cooking_boilsAt_48 t_cooking_cause_48 t_cooking_causeDetail_48 t_cooking_spoons_48 t_history_next_48 t_history_changes_48 t_typing_faultAt_48 t_typing_stores_48 t_typing_spoons_48 x1_48 x2_48) fun a_y64 =>
      gc (inl9 LS a_y64) <|
      gb (g_X9_passes t_typing_faultAt_48 t_typing_stores_48 t_typing_spoons_48 ((SE a_y64).2.2.1) ((SE a_y64).2.2.2.2.2.2.1) ((SE a_y64).2.2.2.2.2.2.2.1) t_book_isBroth t_book_low t_book_high t_typing_isBroth_48 t_typing_low_48 t_typing_high_48 t_typing_storeIsBroth_48 t_typing_storeLow_48 t_typing_storeHigh_48) fun r6 =>
      if r6.1 = 0 then
        g_X11_cookAll_b125 LS SE t_book_spells t_book_texts t_book_isBroth t_book_low t_book_high t_refusal_isKept t_refusal_reason t_refusal_detail t_refusal_hasCause (g_X11_cookAll_b48 LS SE t_book_spells t_book_texts t_book_isBroth t_book_low t_book_high t_refusal_isKept t_refusal_reason t_refusal_detail t_refusal_hasCause n) bk_contents_many_48 bk_contents_much_48 bk_cooked_48 bk_high_48 bk_isBroth_48 bk_low_48 bk_storesIn_48 bk_texts_48 t_book_contents_many_48 t_book_contents_much_48 t_book_cooked_48 t_book_storesIn_48 t_cooking_before_many_48 t_cooking_before_much_48 t_cooking_isBroth_48 t_cooking_many_48 t_cooking_much_48 t_cooking_now_many_48 t_cooking_now_much_48 t_cooking_storesIn_48 r6.2.2.2.2.2.2.1 r6.2.2.2.2.1 r6.2.2.2.2.2.1 r6.2.2.2.2.2.2.2.2.2 r6.2.2.2.2.2.2.2.1 r6.2.2.2.2.2.2.2.2.1 bk_cauldrons_48 bk_storesSoFar_48 bk_spells_48 bk_cookedSoFar_48 t_book_storesSoFar_48 t_book_cookedSoFar_48 t_cooking_boilsAt_48 t_cooking_cause_48 t_cooking_causeDetail_48 t_cooking_spoons_48 t_history_next_48 t_history_changes_48 r6.2.1 r6.2.2.1 r6.2.2.2.1 x1_48 x2_48
      else
        gb (g_X2_begin t_cooking_now_many_48 t_book_contents_many_48 t_cooking_now_much_48 t_book_contents_much_48) fun r7 =>
        gb (g_X2_goesOn t_cooking_boilsAt_48 t_cooking_cause_48 t_cooking_causeDetail_48 t_cooking_spoons_48 ((SE a_y64).2.2.1) t_cooking_before_many_48 r7.1 t_cooking_before_much_48 r7.2 t_cooking_storesIn_48 ((SE a_y64).2.2.2.2.2.2.1) ((SE a_y64).2.2.2.2.2.2.2.1) t_book_isBroth t_cooking_isBroth_48 t_cooking_many_48 t_cooking_much_48 t_book_low t_book_high) fun r8 =>
        if r8.1 = 0 then
          g_X11_cookAll_b125 LS SE t_book_spells t_book_texts t_book_isBroth t_book_low t_book_high t_refusal_isKept t_refusal_reason t_refusal_detail t_refusal_hasCause (g_X11_cookAll_b48 LS SE t_book_spells t_book_texts t_book_isBroth t_book_low t_book_high t_refusal_isKept t_refusal_reason t_refusal_detail t_refusal_hasCause n) bk_contents_many_48 bk_contents_much_48 bk_cooked_48 bk_high_48 bk_isBroth_48 bk_low_48 bk_storesIn_48 bk_texts_48 t_book_contents_many_48 t_book_contents_much_48 t_book_cooked_48 t_book_storesIn_48 r8.2.2.2.2.2.1 r8.2.2.2.2.2.2.2.1 r8.2.2.2.2.2.2.2.2.2.2.1 r8.2.2.2.2.2.2.2.2.2.2.2.1 r8.2.2.2.2.2.2.2.2.2.2.2.2 r8.2.2.2.2.2.2.1 r8.2.2.2.2.2.2.2.2.1 r8.2.2.2.2.2.2.2.2.2.1 r6.2.2.2.2.2.2.1 r6.2.2.2.2.1 r6.2.2.2.2.2.1 r6.2.2.2.2.2.2.2.2.2 r6.2.2.2.2.2.2.2.1 r6.2.2.2.2.2.2.2.2.1 bk_cauldrons_48 bk_storesSoFar_48 bk_spells_48 bk_cookedSoFar_48 t_book_storesSoFar_48 t_book_cookedSoFar_48 r8.2.1 r8.2.2.1 r8.2.2.2.1 r8.2.2.2.2.1 t_history_next_48 t_history_changes_48 r6.2.1 r6.2.2.1 r6.2.2.2.1 x1_48 x2_48
        else
          gb (g_X0_settle t_book_cookedSoFar_48 t_book_storesSoFar_48 t_book_contents_many_48 r8.2.2.2.2.2.2.1 t_book_contents_much_48 r8.2.2.2.2.2.2.2.2.1 t_book_cooked_48 t_book_storesIn_48 r8.2.2.2.2.2.2.2.2.2.1 x2_48) fun r9 =>
          g_X11_cookAll_b125 LS SE t_book_spells t_book_texts t_book_isBroth t_book_low t_book_high t_refusal_isKept t_refusal_reason t_refusal_detail t_refusal_hasCause (g_X11_cookAll_b48 LS SE t_book_spells t_book_texts t_book_isBroth t_book_low t_book_high t_refusal_isKept t_refusal_reason t_refusal_detail t_refusal_hasCause n) bk_contents_many_48 bk_contents_much_48 bk_cooked_48 bk_high_48 bk_isBroth_48 bk_low_48 bk_storesIn_48 bk_texts_48 r9.2.2.1 r9.2.2.2.1 r9.2.2.2.2.1 r9.2.2.2.2.2 r8.2.2.2.2.2.1 r8.2.2.2.2.2.2.2.1 r8.2.2.2.2.2.2.2.2.2.2.1 r8.2.2.2.2.2.2.2.2.2.2.2.1 r8.2.2.2.2.2.2.2.2.2.2.2.2 r8.2.2.2.2.2.2.1 r8.2.2.2.2.2.2.2.2.1 r8.2.2.2.2.2.2.2.2.2.1 r6.2.2.2.2.2.2.1 r6.2.2.2.2.1 r6.2.2.2.2.2.1 r6.2.2.2.2.2.2.2.2.2 r6.2.2.2.2.2.2.2.1 r6.2.2.2.2.2.2.2.2.1 bk_cauldrons_48 bk_storesSoFar_48 bk_spells_48 bk_cookedSoFar_48 r9.2.1 r9.1 r8.2.1 r8.2.2.1 r8.2.2.2.1 r8.2.2.2.2.1 t_history_next_48 t_history_changes_48 r6.2.1 r6.2.2.1 r6.2.2.2.1 x1_48 x2_48
def g_X11_cookAll (LS : List Nat) (SE : Nat → SV) (t_book_cauldrons : Int32) (t_book_spells : Int32) (t_book_cookedSoFar : Int32) (t_book_storesSoFar : Int32) (t_book_texts : Nat → Option Nat) (t_typing_faultAt : Int32) (t_typing_stores : Int32) (t_typing_spoons : Int32) (t_book_isBroth : Nat → Int32) (t_book_low : Nat → Int32) (t_book_high : Nat → Int32) (t_typing_isBroth : Nat → Int32) (t_typing_low : Nat → Int64) (t_typing_high : Nat → Int64) (t_typing_storeIsBroth : Nat → Int32) (t_typing_storeLow : Nat → Int64) (t_typing_storeHigh : Nat → Int64) (t_history_next : Int32) (t_history_changes : Int32) (t_history_books : Nat → Option Nat) (bk_cauldrons : Int32) (bk_spells : Int32) (bk_cookedSoFar : Int32) (bk_storesSoFar : Int32) (bk_contents_many : Nat → Int32) (t_book_contents_many : Nat → Int32) (bk_contents_much : Nat → UInt32) (t_book_contents_much : Nat → UInt32) (bk_isBroth : Nat → Int32) (bk_low : Nat → Int32) (bk_high : Nat → Int32) (bk_storesIn : Nat → Int32) (t_book_storesIn : Nat → Int32) (bk_texts : Nat → Option Nat) (bk_cooked : Nat → Int32) (t_book_cooked : Nat → Int32) (t_refusal_isKept : Int32) (t_refusal_reason : Int32) (t_refusal_detail : Int32) (t_refusal_hasCause : Int32) (t_cooking_boilsAt : Int32) (t_cooking_cause : Int32) (t_cooking_causeDetail : Int32) (t_cooking_spoons : Int32) (t_cooking_now_many : Nat → Int32) (t_cooking_now_much : Nat → UInt32) (t_cooking_before_many : Nat → Int32) (t_cooking_before_much : Nat → UInt32) (t_cooking_storesIn : Nat → Int32) (t_cooking_isBroth : Nat → Int32) (t_cooking_many : Nat → Int32) (t_cooking_much : Nat → UInt32) (a_bk : Nat) : Option (Int32 × Int32 × Int32 × Int32 × Int32 × Int32 × Int32 × (Nat → Int32) × (Nat → Int64) × (Nat → Int64) × (Nat → Int32) × (Nat → Int64) × (Nat → Int64) × Int32 × Int32 × Int32 × Int32 × Int32 × Int32 × (Nat → Int32) × (Nat → Int32) × (Nat → UInt32) × (Nat → UInt32) × (Nat → Int32) × (Nat → Int32) × (Nat → Int32) × (Nat → Int32) × (Nat → Int32) × (Nat → Option Nat) × (Nat → Int32) × (Nat → Int32) × Int32 × Int32 × Int32 × Int32 × Int32 × Int32 × Int32 × Int32 × (Nat → Int32) × (Nat → UInt32) × (Nat → Int32) × (Nat → UInt32) × (Nat → Int32) × (Nat → Int32) × (Nat → Int32) × (Nat → UInt32)) :=
  gb (g_X11_countTyped LS SE t_book_spells t_book_texts t_typing_faultAt t_typing_stores t_typing_spoons t_book_isBroth t_book_low t_book_high t_typing_isBroth t_typing_low t_typing_high t_typing_storeIsBroth t_typing_storeLow t_typing_storeHigh) fun r1 =>
  if r1.1 = 0 then
    gb (g_X7_keep t_refusal_isKept t_refusal_reason t_refusal_detail t_refusal_hasCause (9 : Int32) t_book_spells) fun r3 =>
    some (4, 0, t_book_cookedSoFar, t_book_storesSoFar, r1.2.1, r1.2.2.1, r1.2.2.2.1, r1.2.2.2.2.1, r1.2.2.2.2.2.1, r1.2.2.2.2.2.2.1, r1.2.2.2.2.2.2.2.1, r1.2.2.2.2.2.2.2.2.1, r1.2.2.2.2.2.2.2.2.2, t_history_next, t_history_changes, bk_cauldrons, bk_spells, bk_cookedSoFar, bk_storesSoFar, bk_contents_many, t_book_contents_many, bk_contents_much, t_book_contents_much, bk_isBroth, bk_low, bk_high, bk_storesIn, t_book_storesIn, bk_texts, bk_cooked, t_book_cooked, r3.1, r3.2.1, r3.2.2.1, r3.2.2.2, t_cooking_boilsAt, t_cooking_cause, t_cooking_causeDetail, t_cooking_spoons, t_cooking_now_many, t_cooking_now_much, t_cooking_before_many, t_cooking_before_much, t_cooking_storesIn, t_cooking_isBroth, t_cooking_many, t_cooking_much)
  else
    gb (g_X4_remember LS SE t_history_next t_history_changes t_book_cauldrons t_book_spells t_book_cookedSoFar t_book_storesSoFar t_history_books bk_cauldrons bk_spells bk_cookedSoFar bk_storesSoFar bk_contents_many t_book_contents_many bk_contents_much t_book_contents_much bk_isBroth t_book_isBroth bk_low t_book_low bk_high t_book_high bk_storesIn t_book_storesIn bk_texts t_book_texts bk_cooked t_book_cooked a_bk) fun r2 =>
    g_X11_cookAll_b48 LS SE t_book_spells t_book_texts t_book_isBroth t_book_low t_book_high t_refusal_isKept t_refusal_reason t_refusal_detail t_refusal_hasCause 100 r2.2.2.2.2.2.2.1 r2.2.2.2.2.2.2.2.1 r2.2.2.2.2.2.2.2.2.2.2.2.2.2 r2.2.2.2.2.2.2.2.2.2.2.1 r2.2.2.2.2.2.2.2.2.1 r2.2.2.2.2.2.2.2.2.2.1 r2.2.2.2.2.2.2.2.2.2.2.2.1 r2.2.2.2.2.2.2.2.2.2.2.2.2.1 t_book_contents_many t_book_contents_much t_book_cooked t_book_storesIn t_cooking_before_many t_cooking_before_much t_cooking_isBroth t_cooking_many t_cooking_much t_cooking_now_many t_cooking_now_much t_cooking_storesIn r1.2.2.2.2.2.2.1 r1.2.2.2.2.1 r1.2.2.2.2.2.1 r1.2.2.2.2.2.2.2.2.2 r1.2.2.2.2.2.2.2.1 r1.2.2.2.2.2.2.2.2.1 r2.2.2.1 r2.2.2.2.2.2.1 r2.2.2.2.1 r2.2.2.2.2.1 t_book_storesSoFar t_book_cookedSoFar t_cooking_boilsAt t_cooking_cause t_cooking_causeDetail t_cooking_spoons r2.1 r2.2.1 r1.2.1 r1.2.2.1 r1.2.2.2.1 r1.1 0
def g_X11_cauldronOf (LS : List Nat) (SE : Nat → SV) (t_book_cauldrons : Int32) (t_book_spells : Int32) (t_book_isBroth : Nat → Int32) (t_book_low : Nat → Int32) (t_book_high : Nat → Int32) (t_book_contents_many : Nat → Int32) (t_book_contents_much : Nat → UInt32) (t_book_storesIn : Nat → Int32) (t_book_texts : Nat → Option Nat) (p1 : Int32) (p2 : Int32) : Option (Int32 × Int32) :=
  gb (g_X11_needCauldron t_book_cauldrons p1) fun r1 =>
  if r1 = 0 then
    if p2 = 0 then
      gc (inb p1 6) <|
      if (t_book_isBroth p1.toNatClampNeg) = 0 then
        some (0, 0)
      else
        some (0, 1)
    else
      if p2 = 1 then
        gc (inb p1 6) <|
        gl (t_book_low p1.toNatClampNeg) fun v2 =>
        some (0, v2)
      else
        if p2 = 2 then
          gc (inb p1 6) <|
          gl (t_book_high p1.toNatClampNeg) fun v3 =>
          some (0, v3)
        else
          if p2 = 3 then
            gb (g_X0_cutContent t_book_isBroth t_book_contents_many t_book_contents_much p1) fun r4 =>
            some (0, r4)
          else
            if p2 = 4 then
              gc (inb p1 6) <|
              gl (t_book_storesIn p1.toNatClampNeg) fun v5 =>
              some (0, v5)
            else
              if p2 = 5 then
                gb (g_X0_spellsThat LS SE t_book_spells t_book_texts (0 : Int32) p1) fun r6 =>
                some (0, r6)
              else
                if p2 = 6 then
                  gb (g_X0_spellsThat LS SE t_book_spells t_book_texts (7 : Int32) p1) fun r7 =>
                  some (0, r7)
                else
                  some (1, 0)
  else
    some (r1, 0)
def g_X11_bits (t_book_cauldrons : Int32) (t_book_isBroth : Nat → Int32) (t_book_contents_many : Nat → Int32) (t_book_contents_much : Nat → UInt32) (p1 : Int32) : Option (Int32 × Int32) :=
  gb (g_X11_needCauldron t_book_cauldrons p1) fun r1 =>
  if r1 = 0 then
    gc (inb p1 6) <|
    if (t_book_isBroth p1.toNatClampNeg) = 0 then
      gc (inb p1 6) <|
      gb (g_X5_bitsOf (FP.i2f (t_book_contents_many p1.toNatClampNeg))) fun r2 =>
      some (0, r2)
    else
      gc (inb p1 6) <|
      gb (g_X5_bitsOf (t_book_contents_much p1.toNatClampNeg)) fun r3 =>
      some (0, r3)
  else
    some (r1, 0)
def g_X11_spellOf (LS : List Nat) (SE : Nat → SV) (t_book_spells : Int32) (t_book_texts : Nat → Option Nat) (t_typing_faultAt : Int32) (t_typing_stores : Int32) (t_typing_spoons : Int32) (t_book_isBroth : Nat → Int32) (t_book_low : Nat → Int32) (t_book_high : Nat → Int32) (t_typing_isBroth : Nat → Int32) (t_typing_low : Nat → Int64) (t_typing_high : Nat → Int64) (t_typing_storeIsBroth : Nat → Int32) (t_typing_storeLow : Nat → Int64) (t_typing_storeHigh : Nat → Int64) (t_book_cooked : Nat → Int32) (p1 : Int32) (p2 : Int32) : Option (Int32 × Int32 × Int32 × Int32 × Int32 × (Nat → Int32) × (Nat → Int64) × (Nat → Int64) × (Nat → Int32) × (Nat → Int64) × (Nat → Int64)) :=
  gb (g_X11_needSpell LS SE t_book_spells t_book_texts p1) fun r1 =>
  if r1.1 = 0 then
    go r1.2 (
      none) fun a_y2 =>
    gc (inl9 LS a_y2) <|
    if p2 = 0 then
      gl ((SE a_y2).2.2.1) fun v2 =>
      some (0, v2, t_typing_faultAt, t_typing_stores, t_typing_spoons, t_typing_isBroth, t_typing_low, t_typing_high, t_typing_storeIsBroth, t_typing_storeLow, t_typing_storeHigh)
    else
      if p2 = 1 then
        gl ((SE a_y2).2.2.2.1) fun v3 =>
        some (0, v3, t_typing_faultAt, t_typing_stores, t_typing_spoons, t_typing_isBroth, t_typing_low, t_typing_high, t_typing_storeIsBroth, t_typing_storeLow, t_typing_storeHigh)
      else
        if p2 = 2 then
          gl ((SE a_y2).2.2.2.2.1) fun v4 =>
          some (0, v4, t_typing_faultAt, t_typing_stores, t_typing_spoons, t_typing_isBroth, t_typing_low, t_typing_high, t_typing_storeIsBroth, t_typing_storeLow, t_typing_storeHigh)
        else
          if p2 = 3 then
            gb (g_X9_passes t_typing_faultAt t_typing_stores t_typing_spoons ((SE a_y2).2.2.1) ((SE a_y2).2.2.2.2.2.2.1) ((SE a_y2).2.2.2.2.2.2.2.1) t_book_isBroth t_book_low t_book_high t_typing_isBroth t_typing_low t_typing_high t_typing_storeIsBroth t_typing_storeLow t_typing_storeHigh) fun r5 =>
            if r5.1 = 0 then
              some (0, 0, r5.2.1, r5.2.2.1, r5.2.2.2.1, r5.2.2.2.2.1, r5.2.2.2.2.2.1, r5.2.2.2.2.2.2.1, r5.2.2.2.2.2.2.2.1, r5.2.2.2.2.2.2.2.2.1, r5.2.2.2.2.2.2.2.2.2)
            else
              some (0, 1, r5.2.1, r5.2.2.1, r5.2.2.2.1, r5.2.2.2.2.1, r5.2.2.2.2.2.1, r5.2.2.2.2.2.2.1, r5.2.2.2.2.2.2.2.1, r5.2.2.2.2.2.2.2.2.1, r5.2.2.2.2.2.2.2.2.2)
          else
            if p2 = 4 then
              gc (inb p1 4) <|
              gl (t_book_cooked p1.toNatClampNeg) fun v6 =>
              some (0, v6, t_typing_faultAt, t_typing_stores, t_typing_spoons, t_typing_isBroth, t_typing_low, t_typing_high, t_typing_storeIsBroth, t_typing_storeLow, t_typing_storeHigh)
            else
              some (1, 0, t_typing_faultAt, t_typing_stores, t_typing_spoons, t_typing_isBroth, t_typing_low, t_typing_high, t_typing_storeIsBroth, t_typing_storeLow, t_typing_storeHigh)
  else
    some (r1.1, 0, t_typing_faultAt, t_typing_stores, t_typing_spoons, t_typing_isBroth, t_typing_low, t_typing_high, t_typing_storeIsBroth, t_typing_storeLow, t_typing_storeHigh)
def g_X11_token_b18 : Option (Int32 × Int32) :=
  some (3, 0)
def g_X11_token (LS : List Nat) (SE : Nat → SV) (t_book_spells : Int32) (t_book_texts : Nat → Option Nat) (p1 : Int32) (p2 : Int32) : Option (Int32 × Int32) :=
  gb (g_X11_needSpell LS SE t_book_spells t_book_texts p1) fun r1 =>
  if r1.1 = 0 then
    go r1.2 (
      none) fun a_y2 =>
    gc (inl9 LS a_y2) <|
    if p2 < 0 then
      g_X11_token_b18
    else
      if p2 < (SE a_y2).2.2.1 then
        gc (inb p2 24) <|
        gl (((SE a_y2).2.2.2.2.2.1) p2.toNatClampNeg) fun v2 =>
        gc (cho v2) <|
        some (0, v2)
      else
        g_X11_token_b18
  else
    some (r1.1, 0)
def g_X11_types (LS : List Nat) (SE : Nat → SV) (t_book_spells : Int32) (t_book_texts : Nat → Option Nat) (t_typing_faultAt : Int32) (t_typing_stores : Int32) (t_typing_spoons : Int32) (t_book_isBroth : Nat → Int32) (t_book_low : Nat → Int32) (t_book_high : Nat → Int32) (t_typing_isBroth : Nat → Int32) (t_typing_low : Nat → Int64) (t_typing_high : Nat → Int64) (t_typing_storeIsBroth : Nat → Int32) (t_typing_storeLow : Nat → Int64) (t_typing_storeHigh : Nat → Int64) (p1 : Int32) : Option (Int32 × Int32 × Int32 × Int32 × Int32 × (Nat → Int32) × (Nat → Int64) × (Nat → Int64) × (Nat → Int32) × (Nat → Int64) × (Nat → Int64)) :=
  gb (g_X11_needSpell LS SE t_book_spells t_book_texts p1) fun r1 =>
  if r1.1 = 0 then
    go r1.2 (
      none) fun a_y2 =>
    gc (inl9 LS a_y2) <|
    gb (g_X9_passes t_typing_faultAt t_typing_stores t_typing_spoons ((SE a_y2).2.2.1) ((SE a_y2).2.2.2.2.2.2.1) ((SE a_y2).2.2.2.2.2.2.2.1) t_book_isBroth t_book_low t_book_high t_typing_isBroth t_typing_low t_typing_high t_typing_storeIsBroth t_typing_storeLow t_typing_storeHigh) fun r2 =>
    gc (bo r2.1) <|
    some (0, r2.1, r2.2.1, r2.2.2.1, r2.2.2.2.1, r2.2.2.2.2.1, r2.2.2.2.2.2.1, r2.2.2.2.2.2.2.1, r2.2.2.2.2.2.2.2.1, r2.2.2.2.2.2.2.2.2.1, r2.2.2.2.2.2.2.2.2.2)
  else
    some (r1.1, 0, t_typing_faultAt, t_typing_stores, t_typing_spoons, t_typing_isBroth, t_typing_low, t_typing_high, t_typing_storeIsBroth, t_typing_storeLow, t_typing_storeHigh)
def g_X11_typesAgain (LS : List Nat) (SE : Nat → SV) (t_book_spells : Int32) (t_book_texts : Nat → Option Nat) (t_typingByStores_isBroth : Nat → Int32) (t_typingByStores_low : Nat → Int64) (t_typingByStores_high : Nat → Int64) (t_book_isBroth : Nat → Int32) (t_book_low : Nat → Int32) (t_book_high : Nat → Int32) (p1 : Int32) : Option (Int32 × Int32 × (Nat → Int32) × (Nat → Int64) × (Nat → Int64)) :=
  gb (g_X11_needSpell LS SE t_book_spells t_book_texts p1) fun r1 =>
  if r1.1 = 0 then
    go r1.2 (
      none) fun a_y2 =>
    gc (inl9 LS a_y2) <|
    gb (g_X10_passes ((SE a_y2).2.2.1) ((SE a_y2).2.2.2.2.2.2.1) ((SE a_y2).2.2.2.2.2.2.2.2.1) ((SE a_y2).2.2.2.2.2.2.2.1) t_typingByStores_isBroth t_typingByStores_low t_typingByStores_high ((SE a_y2).2.2.2.2.2.2.2.2.2) t_book_isBroth t_book_low t_book_high) fun r2 =>
    gc (bo r2.1) <|
    some (0, r2.1, r2.2.1, r2.2.2.1, r2.2.2.2)
  else
    some (r1.1, 0, t_typingByStores_isBroth, t_typingByStores_low, t_typingByStores_high)
def g_X11_fault (LS : List Nat) (SE : Nat → SV) (t_book_spells : Int32) (t_book_texts : Nat → Option Nat) (t_typing_faultAt : Int32) (t_typing_stores : Int32) (t_typing_spoons : Int32) (t_book_isBroth : Nat → Int32) (t_book_low : Nat → Int32) (t_book_high : Nat → Int32) (t_typing_isBroth : Nat → Int32) (t_typing_low : Nat → Int64) (t_typing_high : Nat → Int64) (t_typing_storeIsBroth : Nat → Int32) (t_typing_storeLow : Nat → Int64) (t_typing_storeHigh : Nat → Int64) (p1 : Int32) : Option (Int32 × Int32 × Int32 × Int32 × Int32 × (Nat → Int32) × (Nat → Int64) × (Nat → Int64) × (Nat → Int32) × (Nat → Int64) × (Nat → Int64)) :=
  gb (g_X11_needSpell LS SE t_book_spells t_book_texts p1) fun r1 =>
  if r1.1 = 0 then
    go r1.2 (
      none) fun a_y2 =>
    gc (inl9 LS a_y2) <|
    gb (g_X9_passes t_typing_faultAt t_typing_stores t_typing_spoons ((SE a_y2).2.2.1) ((SE a_y2).2.2.2.2.2.2.1) ((SE a_y2).2.2.2.2.2.2.2.1) t_book_isBroth t_book_low t_book_high t_typing_isBroth t_typing_low t_typing_high t_typing_storeIsBroth t_typing_storeLow t_typing_storeHigh) fun r2 =>
    if r2.1 = 0 then
      some (0, r2.2.1, r2.2.1, r2.2.2.1, r2.2.2.2.1, r2.2.2.2.2.1, r2.2.2.2.2.2.1, r2.2.2.2.2.2.2.1, r2.2.2.2.2.2.2.2.1, r2.2.2.2.2.2.2.2.2.1, r2.2.2.2.2.2.2.2.2.2)
    else
      some (3, 0, r2.2.1, r2.2.2.1, r2.2.2.2.1, r2.2.2.2.2.1, r2.2.2.2.2.2.1, r2.2.2.2.2.2.2.1, r2.2.2.2.2.2.2.2.1, r2.2.2.2.2.2.2.2.2.1, r2.2.2.2.2.2.2.2.2.2)
  else
    some (r1.1, 0, t_typing_faultAt, t_typing_stores, t_typing_spoons, t_typing_isBroth, t_typing_low, t_typing_high, t_typing_storeIsBroth, t_typing_storeLow, t_typing_storeHigh)
def g_X11_bound_b49 (t_typing_high_49 : Nat → Int64) (t_typing_isBroth_49 : Nat → Int32) (t_typing_low_49 : Nat → Int64) (t_typing_storeHigh_49 : Nat → Int64) (t_typing_storeIsBroth_49 : Nat → Int32) (t_typing_storeLow_49 : Nat → Int64) (t_typing_faultAt_49 : Int32) (t_typing_stores_49 : Int32) (t_typing_spoons_49 : Int32) : Option (Int32 × Int32 × Int32 × Int32 × Int32 × (Nat → Int32) × (Nat → Int64) × (Nat → Int64) × (Nat → Int32) × (Nat → Int64) × (Nat → Int64)) :=
  some (3, 0, t_typing_faultAt_49, t_typing_stores_49, t_typing_spoons_49, t_typing_isBroth_49, t_typing_low_49, t_typing_high_49, t_typing_storeIsBroth_49, t_typing_storeLow_49, t_typing_storeHigh_49)
def g_X11_bound (LS : List Nat) (SE : Nat → SV) (t_book_spells : Int32) (t_book_texts : Nat → Option Nat) (t_typing_faultAt : Int32) (t_typing_stores : Int32) (t_typing_spoons : Int32) (t_book_isBroth : Nat → Int32) (t_book_low : Nat → Int32) (t_book_high : Nat → Int32) (t_typing_isBroth : Nat → Int32) (t_typing_low : Nat → Int64) (t_typing_high : Nat → Int64) (t_typing_storeIsBroth : Nat → Int32) (t_typing_storeLow : Nat → Int64) (t_typing_storeHigh : Nat → Int64) (p1 : Int32) (p2 : Int32) (p3 : Int32) : Option (Int32 × Int32 × Int32 × Int32 × Int32 × (Nat → Int32) × (Nat → Int64) × (Nat → Int64) × (Nat → Int32) × (Nat → Int64) × (Nat → Int64)) :=
  gb (g_X11_needSpell LS SE t_book_spells t_book_texts p1) fun r1 =>
  if r1.1 = 0 then
    go r1.2 (
      none) fun a_y2 =>
    gc (inl9 LS a_y2) <|
    gb (g_X9_passes t_typing_faultAt t_typing_stores t_typing_spoons ((SE a_y2).2.2.1) ((SE a_y2).2.2.2.2.2.2.1) ((SE a_y2).2.2.2.2.2.2.2.1) t_book_isBroth t_book_low t_book_high t_typing_isBroth t_typing_low t_typing_high t_typing_storeIsBroth t_typing_storeLow t_typing_storeHigh) fun r2 =>
    if r2.1 = 0 then
      some (3, 0, r2.2.1, r2.2.2.1, r2.2.2.2.1, r2.2.2.2.2.1, r2.2.2.2.2.2.1, r2.2.2.2.2.2.2.1, r2.2.2.2.2.2.2.2.1, r2.2.2.2.2.2.2.2.2.1, r2.2.2.2.2.2.2.2.2.2)
    else
      if p2 < 0 then
        g_X11_bound_b49 r2.2.2.2.2.2.2.1 r2.2.2.2.2.1 r2.2.2.2.2.2.1 r2.2.2.2.2.2.2.2.2.2 r2.2.2.2.2.2.2.2.1 r2.2.2.2.2.2.2.2.2.1 r2.2.1 r2.2.2.1 r2.2.2.2.1
      else
        if p2 < r2.2.2.1 then
          gc (inb p2 24) <|
          if (r2.2.2.2.2.2.2.2.1 p2.toNatClampNeg) = 0 then
            if p3 = 0 then
              gc (inb p2 24) <|
              gl ((r2.2.2.2.2.2.2.2.2.1 p2.toNatClampNeg).toInt32) fun v3 =>
              some (0, v3, r2.2.1, r2.2.2.1, r2.2.2.2.1, r2.2.2.2.2.1, r2.2.2.2.2.2.1, r2.2.2.2.2.2.2.1, r2.2.2.2.2.2.2.2.1, r2.2.2.2.2.2.2.2.2.1, r2.2.2.2.2.2.2.2.2.2)
            else
              gc (inb p2 24) <|
              gl ((r2.2.2.2.2.2.2.2.2.2 p2.toNatClampNeg).toInt32) fun v4 =>
              some (0, v4, r2.2.1, r2.2.2.1, r2.2.2.2.1, r2.2.2.2.2.1, r2.2.2.2.2.2.1, r2.2.2.2.2.2.2.1, r2.2.2.2.2.2.2.2.1, r2.2.2.2.2.2.2.2.2.1, r2.2.2.2.2.2.2.2.2.2)
          else
            some (3, 0, r2.2.1, r2.2.2.1, r2.2.2.2.1, r2.2.2.2.2.1, r2.2.2.2.2.2.1, r2.2.2.2.2.2.2.1, r2.2.2.2.2.2.2.2.1, r2.2.2.2.2.2.2.2.2.1, r2.2.2.2.2.2.2.2.2.2)
        else
          g_X11_bound_b49 r2.2.2.2.2.2.2.1 r2.2.2.2.2.1 r2.2.2.2.2.2.1 r2.2.2.2.2.2.2.2.2.2 r2.2.2.2.2.2.2.2.1 r2.2.2.2.2.2.2.2.2.1 r2.2.1 r2.2.2.1 r2.2.2.2.1
  else
    some (r1.1, 0, t_typing_faultAt, t_typing_stores, t_typing_spoons, t_typing_isBroth, t_typing_low, t_typing_high, t_typing_storeIsBroth, t_typing_storeLow, t_typing_storeHigh)
def g_X11_typed (LS : List Nat) (SE : Nat → SV) (t_book_spells : Int32) (t_book_texts : Nat → Option Nat) (t_typing_faultAt : Int32) (t_typing_stores : Int32) (t_typing_spoons : Int32) (t_book_isBroth : Nat → Int32) (t_book_low : Nat → Int32) (t_book_high : Nat → Int32) (t_typing_isBroth : Nat → Int32) (t_typing_low : Nat → Int64) (t_typing_high : Nat → Int64) (t_typing_storeIsBroth : Nat → Int32) (t_typing_storeLow : Nat → Int64) (t_typing_storeHigh : Nat → Int64) : Option (Int32 × Int32 × Int32 × Int32 × (Nat → Int32) × (Nat → Int64) × (Nat → Int64) × (Nat → Int32) × (Nat → Int64) × (Nat → Int64)) :=
  gb (g_X11_countTyped LS SE t_book_spells t_book_texts t_typing_faultAt t_typing_stores t_typing_spoons t_book_isBroth t_book_low t_book_high t_typing_isBroth t_typing_low t_typing_high t_typing_storeIsBroth t_typing_storeLow t_typing_storeHigh) fun r1 =>
  some (r1.1, r1.2.1, r1.2.2.1, r1.2.2.2.1, r1.2.2.2.2.1, r1.2.2.2.2.2.1, r1.2.2.2.2.2.2.1, r1.2.2.2.2.2.2.2.1, r1.2.2.2.2.2.2.2.2.1, r1.2.2.2.2.2.2.2.2.2)
def g_X11_would (LS : List Nat) (SE : Nat → SV) (t_book_cauldrons : Int32) (t_book_spells : Int32) (t_book_texts : Nat → Option Nat) (t_cooking_boilsAt : Int32) (t_cooking_cause : Int32) (t_cooking_causeDetail : Int32) (t_cooking_spoons : Int32) (t_cooking_now_many : Nat → Int32) (t_book_contents_many : Nat → Int32) (t_cooking_now_much : Nat → UInt32) (t_book_contents_much : Nat → UInt32) (t_cooking_before_many : Nat → Int32) (t_cooking_before_much : Nat → UInt32) (t_cooking_storesIn : Nat → Int32) (t_book_isBroth : Nat → Int32) (t_cooking_isBroth : Nat → Int32) (t_cooking_many : Nat → Int32) (t_cooking_much : Nat → UInt32) (t_book_low : Nat → Int32) (t_book_high : Nat → Int32) (p1 : Int32) (p2 : Int32) : Option (Int32 × Int32 × Int32 × Int32 × Int32 × Int32 × (Nat → Int32) × (Nat → UInt32) × (Nat → Int32) × (Nat → UInt32) × (Nat → Int32) × (Nat → Int32) × (Nat → Int32) × (Nat → UInt32)) :=
  gb (g_X11_needSpell LS SE t_book_spells t_book_texts p1) fun r1 =>
  if r1.1 = 0 then
    go r1.2 (
      none) fun a_y2 =>
    gc (inl9 LS a_y2) <|
    gb (g_X11_needCauldron t_book_cauldrons p2) fun r2 =>
    if r2 = 0 then
      gb (g_X2_begin t_cooking_now_many t_book_contents_many t_cooking_now_much t_book_contents_much) fun r3 =>
      gb (g_X2_goesOn t_cooking_boilsAt t_cooking_cause t_cooking_causeDetail t_cooking_spoons ((SE a_y2).2.2.1) t_cooking_before_many r3.1 t_cooking_before_much r3.2 t_cooking_storesIn ((SE a_y2).2.2.2.2.2.2.1) ((SE a_y2).2.2.2.2.2.2.2.1) t_book_isBroth t_cooking_isBroth t_cooking_many t_cooking_much t_book_low t_book_high) fun r4 =>
      if r4.1 = 0 then
        some (3, 0, r4.2.1, r4.2.2.1, r4.2.2.2.1, r4.2.2.2.2.1, r4.2.2.2.2.2.2.1, r4.2.2.2.2.2.2.2.2.1, r4.2.2.2.2.2.1, r4.2.2.2.2.2.2.2.1, r4.2.2.2.2.2.2.2.2.2.1, r4.2.2.2.2.2.2.2.2.2.2.1, r4.2.2.2.2.2.2.2.2.2.2.2.1, r4.2.2.2.2.2.2.2.2.2.2.2.2)
      else
        gc (inb p2 6) <|
        gb (g_X1_cut r4.2.2.2.2.2.2.1 r4.2.2.2.2.2.2.2.2.1 (t_book_isBroth p2.toNatClampNeg) p2) fun r5 =>
        some (0, r5, r4.2.1, r4.2.2.1, r4.2.2.2.1, r4.2.2.2.2.1, r4.2.2.2.2.2.2.1, r4.2.2.2.2.2.2.2.2.1, r4.2.2.2.2.2.1, r4.2.2.2.2.2.2.2.1, r4.2.2.2.2.2.2.2.2.2.1, r4.2.2.2.2.2.2.2.2.2.2.1, r4.2.2.2.2.2.2.2.2.2.2.2.1, r4.2.2.2.2.2.2.2.2.2.2.2.2)
    else
      some (r2, 0, t_cooking_boilsAt, t_cooking_cause, t_cooking_causeDetail, t_cooking_spoons, t_cooking_now_many, t_cooking_now_much, t_cooking_before_many, t_cooking_before_much, t_cooking_storesIn, t_cooking_isBroth, t_cooking_many, t_cooking_much)
  else
    some (r1.1, 0, t_cooking_boilsAt, t_cooking_cause, t_cooking_causeDetail, t_cooking_spoons, t_cooking_now_many, t_cooking_now_much, t_cooking_before_many, t_cooking_before_much, t_cooking_storesIn, t_cooking_isBroth, t_cooking_many, t_cooking_much)
def g_X11_wouldAgain (LS : List Nat) (SE : Nat → SV) (t_book_cauldrons : Int32) (t_book_spells : Int32) (t_book_texts : Nat → Option Nat) (t_cookingByStores_isBroth : Nat → Int32) (t_cookingByStores_much : Nat → UInt32) (t_cookingByStores_many : Nat → Int32) (t_book_isBroth : Nat → Int32) (t_book_contents_many : Nat → Int32) (t_book_contents_much : Nat → UInt32) (t_book_low : Nat → Int32) (t_book_high : Nat → Int32) (p1 : Int32) (p2 : Int32) : Option (Int32 × Int32 × (Nat → Int32) × (Nat → UInt32) × (Nat → Int32)) :=
  gb (g_X11_needSpell LS SE t_book_spells t_book_texts p1) fun r1 =>
  if r1.1 = 0 then
    go r1.2 (
      none) fun a_y2 =>
    gc (inl9 LS a_y2) <|
    gb (g_X11_needCauldron t_book_cauldrons p2) fun r2 =>
    if r2 = 0 then
      gb (g_X3_goesWell ((SE a_y2).2.2.1) ((SE a_y2).2.2.2.2.2.2.1) ((SE a_y2).2.2.2.2.2.2.2.2.1) ((SE a_y2).2.2.2.2.2.2.2.1) t_cookingByStores_isBroth t_cookingByStores_much t_cookingByStores_many ((SE a_y2).2.2.2.2.2.2.2.2.2) t_book_isBroth t_book_contents_many t_book_contents_much t_book_low t_book_high) fun r3 =>
      if r3.1 = 0 then
        some (3, 0, r3.2.1, r3.2.2.1, r3.2.2.2)
      else
        gb (g_X3_leaves ((SE a_y2).2.2.1) ((SE a_y2).2.2.2.2.2.2.1) ((SE a_y2).2.2.2.2.2.2.2.1) r3.2.1 r3.2.2.2 r3.2.2.1 t_book_isBroth t_book_contents_many t_book_contents_much p2) fun r4 =>
        some (0, r4, r3.2.1, r3.2.2.1, r3.2.2.2)
    else
      some (r2, 0, t_cookingByStores_isBroth, t_cookingByStores_much, t_cookingByStores_many)
  else
    some (r1.1, 0, t_cookingByStores_isBroth, t_cookingByStores_much, t_cookingByStores_many)
def g_X11_boils (LS : List Nat) (SE : Nat → SV) (t_book_spells : Int32) (t_book_texts : Nat → Option Nat) (t_cooking_boilsAt : Int32) (t_cooking_cause : Int32) (t_cooking_causeDetail : Int32) (t_cooking_spoons : Int32) (t_cooking_now_many : Nat → Int32) (t_book_contents_many : Nat → Int32) (t_cooking_now_much : Nat → UInt32) (t_book_contents_much : Nat → UInt32) (t_cooking_before_many : Nat → Int32) (t_cooking_before_much : Nat → UInt32) (t_cooking_storesIn : Nat → Int32) (t_book_isBroth : Nat → Int32) (t_cooking_isBroth : Nat → Int32) (t_cooking_many : Nat → Int32) (t_cooking_much : Nat → UInt32) (t_book_low : Nat → Int32) (t_book_high : Nat → Int32) (p1 : Int32) : Option (Int32 × Int32 × Int32 × Int32 × Int32 × Int32 × (Nat → Int32) × (Nat → UInt32) × (Nat → Int32) × (Nat → UInt32) × (Nat → Int32) × (Nat → Int32) × (Nat → Int32) × (Nat → UInt32)) :=
  gb (g_X11_needSpell LS SE t_book_spells t_book_texts p1) fun r1 =>
  if r1.1 = 0 then
    go r1.2 (
      none) fun a_y2 =>
    gc (inl9 LS a_y2) <|
    gb (g_X2_begin t_cooking_now_many t_book_contents_many t_cooking_now_much t_book_contents_much) fun r2 =>
    gb (g_X2_goesOn t_cooking_boilsAt t_cooking_cause t_cooking_causeDetail t_cooking_spoons ((SE a_y2).2.2.1) t_cooking_before_many r2.1 t_cooking_before_much r2.2 t_cooking_storesIn ((SE a_y2).2.2.2.2.2.2.1) ((SE a_y2).2.2.2.2.2.2.2.1) t_book_isBroth t_cooking_isBroth t_cooking_many t_cooking_much t_book_low t_book_high) fun r3 =>
    if r3.1 = 0 then
      some (0, r3.2.1, r3.2.1, r3.2.2.1, r3.2.2.2.1, r3.2.2.2.2.1, r3.2.2.2.2.2.2.1, r3.2.2.2.2.2.2.2.2.1, r3.2.2.2.2.2.1, r3.2.2.2.2.2.2.2.1, r3.2.2.2.2.2.2.2.2.2.1, r3.2.2.2.2.2.2.2.2.2.2.1, r3.2.2.2.2.2.2.2.2.2.2.2.1, r3.2.2.2.2.2.2.2.2.2.2.2.2)
    else
      some (3, 0, r3.2.1, r3.2.2.1, r3.2.2.2.1, r3.2.2.2.2.1, r3.2.2.2.2.2.2.1, r3.2.2.2.2.2.2.2.2.1, r3.2.2.2.2.2.1, r3.2.2.2.2.2.2.2.1, r3.2.2.2.2.2.2.2.2.2.1, r3.2.2.2.2.2.2.2.2.2.2.1, r3.2.2.2.2.2.2.2.2.2.2.2.1, r3.2.2.2.2.2.2.2.2.2.2.2.2)
  else
    some (r1.1, 0, t_cooking_boilsAt, t_cooking_cause, t_cooking_causeDetail, t_cooking_spoons, t_cooking_now_many, t_cooking_now_much, t_cooking_before_many, t_cooking_before_much, t_cooking_storesIn, t_cooking_isBroth, t_cooking_many, t_cooking_much)
def g_X11_lasts_b19 (SE : Nat → SV) (t_book_isBroth : Nat → Int32) (t_book_low : Nat → Int32) (t_book_high : Nat → Int32) : Nat → (Nat → Int32) → (Nat → UInt32) → (Nat → Int32) → (Nat → Int32) → (Nat → UInt32) → (Nat → Int32) → (Nat → UInt32) → (Nat → Int32) → Int32 → Int32 → Int32 → Int32 → Nat → Int32 → Option (Int32 × Int32 × Int32 × Int32 × Int32 × Int32 × (Nat → Int32) × (Nat → UInt32) × (Nat → Int32) × (Nat → UInt32) × (Nat → Int32) × (Nat → Int32) × (Nat → Int32) × (Nat → UInt32))
  | 0, _, _, _, _, _, _, _, _, _, _, _, _, _, _ => none
  | n + 1, t_cooking_before_many_19, t_cooking_before_much_19, t_cooking_isBroth_19, t_cooking_many_19, t_cooking_much_19, t_cooking_now_many_19, t_cooking_now_much_19, t_cooking_storesIn_19, t_cooking_boilsAt_19, t_cooking_cause_19, t_cooking_causeDetail_19, t_cooking_spoons_19, a_y2, x3_19 =>
    if 50 ≤ x3_19 then
      some (0, x3_19, t_cooking_boilsAt_19, t_cooking_cause_19, t_cooking_causeDetail_19, t_cooking_spoons_19, t_cooking_now_many_19, t_cooking_now_much_19, t_cooking_before_many_19, t_cooking_before_much_19, t_cooking_storesIn_19, t_cooking_isBroth_19, t_cooking_many_19, t_cooking_much_19)
    else
      gb (g_X2_goesOn t_cooking_boilsAt_19 t_cooking_cause_19 t_cooking_causeDetail_19 t_cooking_spoons_19 ((SE a_y2).2.2.1) t_cooking_before_many_19 t_cooking_now_many_19 t_cooking_before_much_19 t_cooking_now_much_19 t_cooking_storesIn_19 ((SE a_y2).2.2.2.2.2.2.1) ((SE a_y2).2.2.2.2.2.2.2.1) t_book_isBroth t_cooking_isBroth_19 t_cooking_many_19 t_cooking_much_19 t_book_low t_book_high) fun r3 =>
      if r3.1 = 0 then
        some (0, x3_19, r3.2.1, r3.2.2.1, r3.2.2.2.1, r3.2.2.2.2.1, r3.2.2.2.2.2.2.1, r3.2.2.2.2.2.2.2.2.1, r3.2.2.2.2.2.1, r3.2.2.2.2.2.2.2.1, r3.2.2.2.2.2.2.2.2.2.1, r3.2.2.2.2.2.2.2.2.2.2.1, r3.2.2.2.2.2.2.2.2.2.2.2.1, r3.2.2.2.2.2.2.2.2.2.2.2.2)
      else
        gb (g_X2_changes r3.2.2.2.2.2.2.1 r3.2.2.2.2.2.1 r3.2.2.2.2.2.2.2.2.1 r3.2.2.2.2.2.2.2.1) fun r4 =>
        if r4 ≤ 0 then
          some (0, x3_19, r3.2.1, r3.2.2.1, r3.2.2.2.1, r3.2.2.2.2.1, r3.2.2.2.2.2.2.1, r3.2.2.2.2.2.2.2.2.1, r3.2.2.2.2.2.1, r3.2.2.2.2.2.2.2.1, r3.2.2.2.2.2.2.2.2.2.1, r3.2.2.2.2.2.2.2.2.2.2.1, r3.2.2.2.2.2.2.2.2.2.2.2.1, r3.2.2.2.2.2.2.2.2.2.2.2.2)
        else
          gl (x3_19 + 1) fun v5 =>
          (g_X11_lasts_b19 SE t_book_isBroth t_book_low t_book_high n) r3.2.2.2.2.2.1 r3.2.2.2.2.2.2.2.1 r3.2.2.2.2.2.2.2.2.2.2.1 r3.2.2.2.2.2.2.2.2.2.2.2.1 r3.2.2.2.2.2.2.2.2.2.2.2.2 r3.2.2.2.2.2.2.1 r3.2.2.2.2.2.2.2.2.1 r3.2.2.2.2.2.2.2.2.2.1 r3.2.1 r3.2.2.1 r3.2.2.2.1 r3.2.2.2.2.1 a_y2 v5
def g_X11_lasts (LS : List Nat) (SE : Nat → SV) (t_book_spells : Int32) (t_book_texts : Nat → Option Nat) (t_cooking_boilsAt : Int32) (t_cooking_cause : Int32) (t_cooking_causeDetail : Int32) (t_cooking_spoons : Int32) (t_cooking_now_many : Nat → Int32) (t_book_contents_many : Nat → Int32) (t_cooking_now_much : Nat → UInt32) (t_book_contents_much : Nat → UInt32) (t_cooking_before_many : Nat → Int32) (t_cooking_before_much : Nat → UInt32) (t_cooking_storesIn : Nat → Int32) (t_book_isBroth : Nat → Int32) (t_cooking_isBroth : Nat → Int32) (t_cooking_many : Nat → Int32) (t_cooking_much : Nat → UInt32) (t_book_low : Nat → Int32) (t_book_high : Nat → Int32) (p1 : Int32) : Option (Int32 × Int32 × Int32 × Int32 × Int32 × Int32 × (Nat → Int32) × (Nat → UInt32) × (Nat → Int32) × (Nat → UInt32) × (Nat → Int32) × (Nat → Int32) × (Nat → Int32) × (Nat → UInt32)) :=
  gb (g_X11_needSpell LS SE t_book_spells t_book_texts p1) fun r1 =>
  if r1.1 = 0 then
    go r1.2 (
      none) fun a_y2 =>
    gc (inl9 LS a_y2) <|
    gb (g_X2_begin t_cooking_now_many t_book_contents_many t_cooking_now_much t_book_contents_much) fun r2 =>
    g_X11_lasts_b19 SE t_book_isBroth t_book_low t_book_high 100 t_cooking_before_many t_cooking_before_much t_cooking_isBroth t_cooking_many t_cooking_much r2.1 r2.2 t_cooking_storesIn t_cooking_boilsAt t_cooking_cause t_cooking_causeDetail t_cooking_spoons a_y2 0
  else
    some (r1.1, 0, t_cooking_boilsAt, t_cooking_cause, t_cooking_causeDetail, t_cooking_spoons, t_cooking_now_many, t_cooking_now_much, t_cooking_before_many, t_cooking_before_much, t_cooking_storesIn, t_cooking_isBroth, t_cooking_many, t_cooking_much)
def g_X11_ranked_b2 (LS : List Nat) (SE : Nat → SV) (t_book_spells : Int32) (t_book_texts : Nat → Option Nat) (p1 : Int32) : Nat → Int32 → Option (Int32 × Int32)
  | 0, _ => none
  | n + 1, x2_2 =>
    if t_book_spells ≤ x2_2 then
      some (3, 0)
    else
      gb (g_X0_spellsAhead LS SE t_book_spells t_book_texts x2_2) fun r1 =>
      if r1 = p1 then
        some (0, x2_2)
      else
        gl (x2_2 + 1) fun v2 =>
        (g_X11_ranked_b2 LS SE t_book_spells t_book_texts p1 n) v2
def g_X11_ranked (LS : List Nat) (SE : Nat → SV) (t_book_spells : Int32) (t_book_texts : Nat → Option Nat) (p1 : Int32) : Option (Int32 × Int32) :=
  g_X11_ranked_b2 LS SE t_book_spells t_book_texts p1 100 0
def g_X11_widest_b61 (t_book_cauldrons : Int32) (t_book_high : Nat → Int32) (t_book_low : Nat → Int32) (t_book_isBroth : Nat → Int32) (k6 : Int32 → Int32 → Int32 → Option (Int32 × Int32)) (x1_61 : Int32) (x2_61 : Int32) (x3_61 : Int32) : Option (Int32 × Int32) :=
  gl (x3_61 + 1) fun v1 =>
  k6 x1_61 x2_61 v1
def g_X11_widest_b6 (t_book_cauldrons : Int32) (t_book_high : Nat → Int32) (t_book_low : Nat → Int32) (t_book_isBroth : Nat → Int32) : Nat → Int32 → Int32 → Int32 → Option (Int32 × Int32)
  | 0, _, _, _ => none
  | n + 1, x1_6, x2_6, x3_6 =>
    if t_book_cauldrons ≤ x3_6 then
      if x1_6 = (-1) then
        some (3, 0)
      else
        some (0, x1_6)
    else
      gc (inb x3_6 6) <|
      gc (inb x3_6 6) <|
      gl ((t_book_high x3_6.toNatClampNeg) - (t_book_low x3_6.toNatClampNeg)) fun v2 =>
      gc (inb x3_6 6) <|
      if (t_book_isBroth x3_6.toNatClampNeg) = 0 then
        if v2 ≤ x2_6 then
          g_X11_widest_b61 t_book_cauldrons t_book_high t_book_low t_book_isBroth (g_X11_widest_b6 t_book_cauldrons t_book_high t_book_low t_book_isBroth n) x1_6 x2_6 x3_6
        else
          g_X11_widest_b61 t_book_cauldrons t_book_high t_book_low t_book_isBroth (g_X11_widest_b6 t_book_cauldrons t_book_high t_book_low t_book_isBroth n) x3_6 v2 x3_6
      else
        g_X11_widest_b61 t_book_cauldrons t_book_high t_book_low t_book_isBroth (g_X11_widest_b6 t_book_cauldrons t_book_high t_book_low t_book_isBroth n) x1_6 x2_6 x3_6
def g_X11_widest (t_book_cauldrons : Int32) (t_book_high : Nat → Int32) (t_book_low : Nat → Int32) (t_book_isBroth : Nat → Int32) : Option (Int32 × Int32) :=
  g_X11_widest_b6 t_book_cauldrons t_book_high t_book_low t_book_isBroth 100 (-1) (-1) 0
def g_X11_isSafe_b69 (LS : List Nat) (SE : Nat → SV) (t_book_spells : Int32) (t_book_texts : Nat → Option Nat) (t_book_isBroth : Nat → Int32) (t_book_low : Nat → Int32) (t_book_high : Nat → Int32) (t_book_contents_many : Nat → Int32) (t_book_contents_much : Nat → UInt32) (k2 : (Nat → Int32) → (Nat → UInt32) → (Nat → Int32) → (Nat → Int32) → (Nat → UInt32) → (Nat → Int32) → (Nat → UInt32) → (Nat → Int32) → (Nat → Int64) → (Nat → Int32) → (Nat → Int64) → (Nat → Int64) → (Nat → Int32) → (Nat → Int64) → Int32 → Int32 → Int32 → Int32 → Int32 → Int32 → Int32 → Int32 → Option (Int32 × Int32 × Int32 × Int32 × (Nat → Int32) × (Nat → Int64) × (Nat → Int64) × (Nat → Int32) × (Nat → Int64) × (Nat → Int64) × Int32 × Int32 × Int32 × Int32 × (Nat → Int32) × (Nat → UInt32) × (Nat → Int32) × (Nat → UInt32) × (Nat → Int32) × (Nat → Int32) × (Nat → Int32) × (Nat → UInt32))) (t_cooking_before_many_69 : Nat → Int32) (t_cooking_before_much_69 : Nat → UInt32) (t_cooking_isBroth_69 : Nat → Int32) (t_cooking_many_69 : Nat → Int32) (t_cooking_much_69 : Nat → UInt32) (t_cooking_now_many_69 : Nat → Int32) (t_cooking_now_much_69 : Nat → UInt32) (t_cooking_storesIn_69 : Nat → Int32) (t_typing_high_69 : Nat → Int64) (t_typing_isBroth_69 : Nat → Int32) (t_typing_low_69 : Nat → Int64) (t_typing_storeHigh_69 : Nat → Int64) (t_typing_storeIsBroth_69 : Nat → Int32) (t_typing_storeLow_69 : Nat → Int64) (t_cooking_boilsAt_69 : Int32) (t_cooking_cause_69 : Int32) (t_cooking_causeDetail_69 : Int32) (t_cooking_spoons_69 : Int32) (t_typing_faultAt_69 : Int32) (t_typing_stores_69 : Int32) (t_typing_spoons_69 : Int32) (x1_69 : Int32) : Option (Int32 × Int32 × Int32 × Int32 × (Nat → Int32) × (Nat → Int64) × (Nat → Int64) × (Nat → Int32) × (Nat → Int64) × (Nat → Int64) × Int32 × Int32 × Int32 × Int32 × (Nat → Int32) × (Nat → UInt32) × (Nat → Int32) × (Nat → UInt32) × (Nat → Int32) × (Nat → Int32) × (Nat → Int32) × (Nat → UInt32)) :=
  gl (x1_69 + 1) fun v1 =>
  k2 t_cooking_before_many_69 t_cooking_before_much_69 t_cooking_isBroth_69 t_cooking_many_69 t_cooking_much_69 t_cooking_now_many_69 t_cooking_now_much_69 t_cooking_storesIn_69 t_typing_high_69 t_typing_isBroth_69 t_typing_low_69 t_typing_storeHigh_69 t_typing_storeIsBroth_69 t_typing_storeLow_69 t_cooking_boilsAt_69 t_cooking_cause_69 t_cooking_causeDetail_69 t_cooking_spoons_69 t_typing_faultAt_69 t_typing_stores_69 t_typing_spoons_69 v1
def g_X11_isSafe_b2 (LS : List Nat) (SE : Nat → SV) (t_book_spells : Int32) (t_book_texts : Nat → Option Nat) (t_book_isBroth : Nat → Int32) (t_book_low : Nat → Int32) (t_book_high : Nat → Int32) (t_book_contents_many : Nat → Int32) (t_book_contents_much : Nat → UInt32) : Nat → (Nat → Int32) → (Nat → UInt32) → (Nat → Int32) → (Nat → Int32) → (Nat → UInt32) → (Nat → Int32) → (Nat → UInt32) → (Nat → Int32) → (Nat → Int64) → (Nat → Int32) → (Nat → Int64) → (Nat → Int64) → (Nat → Int32) → (Nat → Int64) → Int32 → Int32 → Int32 → Int32 → Int32 → Int32 → Int32 → Int32 → Option (Int32 × Int32 × Int32 × Int32 × (Nat → Int32) × (Nat → Int64) × (Nat → Int64) × (Nat → Int32) × (Nat → Int64) × (Nat → Int64) × Int32 × Int32 × Int32 × Int32 × (Nat → Int32) × (Nat → UInt32) × (Nat → Int32) × (Nat → UInt32) × (Nat → Int32) × (Nat → Int32) × (Nat → Int32) × (Nat → UInt32))
  | 0, _, _, _, _, _, _, _, _, _, _, _, _, _, _, _, _, _, _, _, _, _, _ => none
  | n + 1, t_cooking_before_many_2, t_cooking_before_much_2, t_cooking_isBroth_2, t_cooking_many_2, t_cooking_much_2, t_cooking_now_many_2, t_cooking_now_much_2, t_cooking_storesIn_2, t_typing_high_2, t_typing_isBroth_2, t_typing_low_2, t_typing_storeHigh_2, t_typing_storeIsBroth_2, t_typing_storeLow_2, t_cooking_boilsAt_2, t_cooking_cause_2, t_cooking_causeDetail_2, t_cooking_spoons_2, t_typing_faultAt_2, t_typing_stores_2, t_typing_spoons_2, x1_2 =>
    if t_book_spells ≤ x1_2 then
      some (1, t_typing_faultAt_2, t_typing_stores_2, t_typing_spoons_2, t_typing_isBroth_2, t_typing_low_2, t_typing_high_2, t_typing_storeIsBroth_2, t_typing_storeLow_2, t_typing_storeHigh_2, t_cooking_boilsAt_2, t_cooking_cause_2, t_cooking_causeDetail_2, t_cooking_spoons_2, t_cooking_now_many_2, t_cooking_now_much_2, t_cooking_before_many_2, t_cooking_before_much_2, t_cooking_storesIn_2, t_cooking_isBroth_2, t_cooking_many_2, t_cooking_much_2)
    else
      gb (g_X0_spellAt t_book_spells t_book_texts x1_2) fun r2 =>
      go r2 (
        g_X11_isSafe_b69 LS SE t_book_spells t_book_texts t_book_isBroth t_book_low t_book_high t_book_contents_many t_book_contents_much (g_X11_isSafe_b2 LS SE t_book_spells t_book_texts t_book_isBroth t_book_low t_book_high t_book_contents_many t_book_contents_much n) t_cooking_before_many_2 t_cooking_before_much_2 t_cooking_isBroth_2 t_cooking_many_2 t_cooking_much_2 t_cooking_now_many_2 t_cooking_now_much_2 t_cooking_storesIn_2 t_typing_high_2 t_typing_isBroth_2 t_typing_low_2 t_typing_storeHigh_2 t_typing_storeIsBroth_2 t_typing_storeLow_2 t_cooking_boilsAt_2 t_cooking_cause_2 t_cooking_causeDetail_2 t_cooking_spoons_2 t_typing_faultAt_2 t_typing_stores_2 t_typing_spoons_2 x1_2) fun a_y18 =>
      gc (inl9 LS a_y18) <|
      gb (g_X9_passes t_typing_faultAt_2 t_typing_stores_2 t_typing_spoons_2 ((SE a_y18).2.2.1) ((SE a_y18).2.2.2.2.2.2.1) ((SE a_y18).2.2.2.2.2.2.2.1) t_book_isBroth t_book_low t_book_high t_typing_isBroth_2 t_typing_low_2 t_typing_high_2 t_typing_storeIsBroth_2 t_typing_storeLow_2 t_typing_storeHigh_2) fun r3 =>
      if r3.1 = 0 then
        g_X11_isSafe_b69 LS SE t_book_spells t_book_texts t_book_isBroth t_book_low t_book_high t_book_contents_many t_book_contents_much (g_X11_isSafe_b2 LS SE t_book_spells t_book_texts t_book_isBroth t_book_low t_book_high t_book_contents_many t_book_contents_much n) t_cooking_before_many_2 t_cooking_before_much_2 t_cooking_isBroth_2 t_cooking_many_2 t_cooking_much_2 t_cooking_now_many_2 t_cooking_now_much_2 t_cooking_storesIn_2 r3.2.2.2.2.2.2.1 r3.2.2.2.2.1 r3.2.2.2.2.2.1 r3.2.2.2.2.2.2.2.2.2 r3.2.2.2.2.2.2.2.1 r3.2.2.2.2.2.2.2.2.1 t_cooking_boilsAt_2 t_cooking_cause_2 t_cooking_causeDetail_2 t_cooking_spoons_2 r3.2.1 r3.2.2.1 r3.2.2.2.1 x1_2
      else
        gb (g_X2_begin t_cooking_now_many_2 t_book_contents_many t_cooking_now_much_2 t_book_contents_much) fun r4 =>
        gb (g_X2_goesOn t_cooking_boilsAt_2 t_cooking_cause_2 t_cooking_causeDetail_2 t_cooking_spoons_2 ((SE a_y18).2.2.1) t_cooking_before_many_2 r4.1 t_cooking_before_much_2 r4.2 t_cooking_storesIn_2 ((SE a_y18).2.2.2.2.2.2.1) ((SE a_y18).2.2.2.2.2.2.2.1) t_book_isBroth t_cooking_isBroth_2 t_cooking_many_2 t_cooking_much_2 t_book_low t_book_high) fun r5 =>
        if r5.1 = 0 then
          some (0, r3.2.1, r3.2.2.1, r3.2.2.2.1, r3.2.2.2.2.1, r3.2.2.2.2.2.1, r3.2.2.2.2.2.2.1, r3.2.2.2.2.2.2.2.1, r3.2.2.2.2.2.2.2.2.1, r3.2.2.2.2.2.2.2.2.2, r5.2.1, r5.2.2.1, r5.2.2.2.1, r5.2.2.2.2.1, r5.2.2.2.2.2.2.1, r5.2.2.2.2.2.2.2.2.1, r5.2.2.2.2.2.1, r5.2.2.2.2.2.2.2.1, r5.2.2.2.2.2.2.2.2.2.1, r5.2.2.2.2.2.2.2.2.2.2.1, r5.2.2.2.2.2.2.2.2.2.2.2.1, r5.2.2.2.2.2.2.2.2.2.2.2.2)
        else
          g_X11_isSafe_b69 LS SE t_book_spells t_book_texts t_book_isBroth t_book_low t_book_high t_book_contents_many t_book_contents_much (g_X11_isSafe_b2 LS SE t_book_spells t_book_texts t_book_isBroth t_book_low t_book_high t_book_contents_many t_book_contents_much n) r5.2.2.2.2.2.1 r5.2.2.2.2.2.2.2.1 r5.2.2.2.2.2.2.2.2.2.2.1 r5.2.2.2.2.2.2.2.2.2.2.2.1 r5.2.2.2.2.2.2.2.2.2.2.2.2 r5.2.2.2.2.2.2.1 r5.2.2.2.2.2.2.2.2.1 r5.2.2.2.2.2.2.2.2.2.1 r3.2.2.2.2.2.2.1 r3.2.2.2.2.1 r3.2.2.2.2.2.1 r3.2.2.2.2.2.2.2.2.2 r3.2.2.2.2.2.2.2.1 r3.2.2.2.2.2.2.2.2.1 r5.2.1 r5.2.2.1 r5.2.2.2.1 r5.2.2.2.2.1 r3.2.1 r3.2.2.1 r3.2.2.2.1 x1_2
def g_X11_isSafe (LS : List Nat) (SE : Nat → SV) (t_book_spells : Int32) (t_book_texts : Nat → Option Nat) (t_typing_faultAt : Int32) (t_typing_stores : Int32) (t_typing_spoons : Int32) (t_book_isBroth : Nat → Int32) (t_book_low : Nat → Int32) (t_book_high : Nat → Int32) (t_typing_isBroth : Nat → Int32) (t_typing_low : Nat → Int64) (t_typing_high : Nat → Int64) (t_typing_storeIsBroth : Nat → Int32) (t_typing_storeLow : Nat → Int64) (t_typing_storeHigh : Nat → Int64) (t_cooking_boilsAt : Int32) (t_cooking_cause : Int32) (t_cooking_causeDetail : Int32) (t_cooking_spoons : Int32) (t_cooking_now_many : Nat → Int32) (t_book_contents_many : Nat → Int32) (t_cooking_now_much : Nat → UInt32) (t_book_contents_much : Nat → UInt32) (t_cooking_before_many : Nat → Int32) (t_cooking_before_much : Nat → UInt32) (t_cooking_storesIn : Nat → Int32) (t_cooking_isBroth : Nat → Int32) (t_cooking_many : Nat → Int32) (t_cooking_much : Nat → UInt32) : Option (Int32 × Int32 × Int32 × Int32 × (Nat → Int32) × (Nat → Int64) × (Nat → Int64) × (Nat → Int32) × (Nat → Int64) × (Nat → Int64) × Int32 × Int32 × Int32 × Int32 × (Nat → Int32) × (Nat → UInt32) × (Nat → Int32) × (Nat → UInt32) × (Nat → Int32) × (Nat → Int32) × (Nat → Int32) × (Nat → UInt32)) :=
  g_X11_isSafe_b2 LS SE t_book_spells t_book_texts t_book_isBroth t_book_low t_book_high t_book_contents_many t_book_contents_much 100 t_cooking_before_many t_cooking_before_much t_cooking_isBroth t_cooking_many t_cooking_much t_cooking_now_many t_cooking_now_much t_cooking_storesIn t_typing_high t_typing_isBroth t_typing_low t_typing_storeHigh t_typing_storeIsBroth t_typing_storeLow t_cooking_boilsAt t_cooking_cause t_cooking_causeDetail t_cooking_spoons t_typing_faultAt t_typing_stores t_typing_spoons 0
def g_X11_meanBits_b83 (t_book_cauldrons : Int32) (t_book_isBroth : Nat → Int32) (t_book_contents_many : Nat → Int32) (t_book_contents_much : Nat → UInt32) (k25 : UInt64 → Int32 → Option (Int32 × Int64)) (x1_83 : UInt64) (x3_83 : Int32) : Option (Int32 × Int64) :=
  gl (x3_83 + 1) fun v1 =>
  k25 x1_83 v1
def g_X11_meanBits_b25 (t_book_cauldrons : Int32) (t_book_isBroth : Nat → Int32) (t_book_contents_many : Nat → Int32) (t_book_contents_much : Nat → UInt32) : Nat → UInt64 → Int32 → Option (Int32 × Int64)
  | 0, _, _ => none
  | n + 1, x1_25, x3_25 =>
    if t_book_cauldrons ≤ x3_25 then
      gc (n64 (FP.ddiv x1_25 (FP.i2d t_book_cauldrons))) <|
      gb (g_X5_longBitsOf (FP.ddiv x1_25 (FP.i2d t_book_cauldrons))) fun r2 =>
      some (0, r2)
    else
      gc (inb x3_25 6) <|
      if (t_book_isBroth x3_25.toNatClampNeg) = 0 then
        gc (inb x3_25 6) <|
        gc (n64 (FP.dadd x1_25 (FP.i2d (t_book_contents_many x3_25.toNatClampNeg)))) <|
        gl (FP.dadd x1_25 (FP.i2d (t_book_contents_many x3_25.toNatClampNeg))) fun v3 =>
        g_X11_meanBits_b83 t_book_cauldrons t_book_isBroth t_book_contents_many t_book_contents_much (g_X11_meanBits_b25 t_book_cauldrons t_book_isBroth t_book_contents_many t_book_contents_much n) v3 x3_25
      else
        gc (inb x3_25 6) <|
        gc (n64 (FP.f2d (t_book_contents_much x3_25.toNatClampNeg))) <|
        gc (n64 (FP.dadd x1_25 (FP.f2d (t_book_contents_much x3_25.toNatClampNeg)))) <|
        gl (FP.dadd x1_25 (FP.f2d (t_book_contents_much x3_25.toNatClampNeg))) fun v4 =>
        g_X11_meanBits_b83 t_book_cauldrons t_book_isBroth t_book_contents_many t_book_contents_much (g_X11_meanBits_b25 t_book_cauldrons t_book_isBroth t_book_contents_many t_book_contents_much n) v4 x3_25
def g_X11_meanBits (t_book_cauldrons : Int32) (t_book_isBroth : Nat → Int32) (t_book_contents_many : Nat → Int32) (t_book_contents_much : Nat → UInt32) : Option (Int32 × Int64) :=
  if t_book_cauldrons = 0 then
    some (6, 0)
  else
    g_X11_meanBits_b25 t_book_cauldrons t_book_isBroth t_book_contents_many t_book_contents_much 100 FP.dconst0 0
def g_X11_typedShare (LS : List Nat) (SE : Nat → SV) (t_book_spells : Int32) (t_book_texts : Nat → Option Nat) (t_typing_faultAt : Int32) (t_typing_stores : Int32) (t_typing_spoons : Int32) (t_book_isBroth : Nat → Int32) (t_book_low : Nat → Int32) (t_book_high : Nat → Int32) (t_typing_isBroth : Nat → Int32) (t_typing_low : Nat → Int64) (t_typing_high : Nat → Int64) (t_typing_storeIsBroth : Nat → Int32) (t_typing_storeLow : Nat → Int64) (t_typing_storeHigh : Nat → Int64) : Option (Int32 × UInt32 × Int32 × Int32 × Int32 × (Nat → Int32) × (Nat → Int64) × (Nat → Int64) × (Nat → Int32) × (Nat → Int64) × (Nat → Int64)) :=
  if t_book_spells = 0 then
    some (6, FP.fconst0, t_typing_faultAt, t_typing_stores, t_typing_spoons, t_typing_isBroth, t_typing_low, t_typing_high, t_typing_storeIsBroth, t_typing_storeLow, t_typing_storeHigh)
  else
    gb (g_X11_countTyped LS SE t_book_spells t_book_texts t_typing_faultAt t_typing_stores t_typing_spoons t_book_isBroth t_book_low t_book_high t_typing_isBroth t_typing_low t_typing_high t_typing_storeIsBroth t_typing_storeLow t_typing_storeHigh) fun r1 =>
    gc (n32 (FP.fdiv (FP.i2f r1.1) (FP.i2f t_book_spells))) <|
    gl (FP.fdiv (FP.i2f r1.1) (FP.i2f t_book_spells)) fun v2 =>
    some (0, v2, r1.2.1, r1.2.2.1, r1.2.2.2.1, r1.2.2.2.2.1, r1.2.2.2.2.2.1, r1.2.2.2.2.2.2.1, r1.2.2.2.2.2.2.2.1, r1.2.2.2.2.2.2.2.2.1, r1.2.2.2.2.2.2.2.2.2)
def g_X11_account (LS : List Nat) (SE : Nat → SV) (t_inputLength : Int32) (t_boiledOver : Int32) (t_book_cauldrons : Int32) (t_book_spells : Int32) (t_book_cookedSoFar : Int32) (t_book_storesSoFar : Int32) (t_book_texts : Nat → Option Nat) (t_typing_faultAt : Int32) (t_typing_stores : Int32) (t_typing_spoons : Int32) (t_book_isBroth : Nat → Int32) (t_book_low : Nat → Int32) (t_book_high : Nat → Int32) (t_typing_isBroth : Nat → Int32) (t_typing_low : Nat → Int64) (t_typing_high : Nat → Int64) (t_typing_storeIsBroth : Nat → Int32) (t_typing_storeLow : Nat → Int64) (t_typing_storeHigh : Nat → Int64) (t_book_contents_many : Nat → Int32) (t_history_changes : Int32) (p1 : Int32) : Option (Int32 × Int32 × Int32 × Int32 × Int32 × (Nat → Int32) × (Nat → Int64) × (Nat → Int64) × (Nat → Int32) × (Nat → Int64) × (Nat → Int64)) :=
  if p1 = 0 then
    some (0, t_book_cauldrons, t_typing_faultAt, t_typing_stores, t_typing_spoons, t_typing_isBroth, t_typing_low, t_typing_high, t_typing_storeIsBroth, t_typing_storeLow, t_typing_storeHigh)
  else
    if p1 = 1 then
      some (0, t_book_spells, t_typing_faultAt, t_typing_stores, t_typing_spoons, t_typing_isBroth, t_typing_low, t_typing_high, t_typing_storeIsBroth, t_typing_storeLow, t_typing_storeHigh)
    else
      if p1 = 2 then
        gb (g_X11_countTyped LS SE t_book_spells t_book_texts t_typing_faultAt t_typing_stores t_typing_spoons t_book_isBroth t_book_low t_book_high t_typing_isBroth t_typing_low t_typing_high t_typing_storeIsBroth t_typing_storeLow t_typing_storeHigh) fun r1 =>
        some (0, r1.1, r1.2.1, r1.2.2.1, r1.2.2.2.1, r1.2.2.2.2.1, r1.2.2.2.2.2.1, r1.2.2.2.2.2.2.1, r1.2.2.2.2.2.2.2.1, r1.2.2.2.2.2.2.2.2.1, r1.2.2.2.2.2.2.2.2.2)
      else
        if p1 = 3 then
          gb (g_X0_cauldronsOfBroth t_book_cauldrons t_book_isBroth) fun r2 =>
          some (0, r2, t_typing_faultAt, t_typing_stores, t_typing_spoons, t_typing_isBroth, t_typing_low, t_typing_high, t_typing_storeIsBroth, t_typing_storeLow, t_typing_storeHigh)
        else
          if p1 = 4 then
            some (0, t_book_cookedSoFar, t_typing_faultAt, t_typing_stores, t_typing_spoons, t_typing_isBroth, t_typing_low, t_typing_high, t_typing_storeIsBroth, t_typing_storeLow, t_typing_storeHigh)
          else
            if p1 = 5 then
              some (0, t_book_storesSoFar, t_typing_faultAt, t_typing_stores, t_typing_spoons, t_typing_isBroth, t_typing_low, t_typing_high, t_typing_storeIsBroth, t_typing_storeLow, t_typing_storeHigh)
            else
              if p1 = 6 then
                some (0, t_boiledOver, t_typing_faultAt, t_typing_stores, t_typing_spoons, t_typing_isBroth, t_typing_low, t_typing_high, t_typing_storeIsBroth, t_typing_storeLow, t_typing_storeHigh)
              else
                if p1 = 7 then
                  gb (g_X0_allDrams t_book_cauldrons t_book_isBroth t_book_contents_many) fun r3 =>
                  some (0, r3, t_typing_faultAt, t_typing_stores, t_typing_spoons, t_typing_isBroth, t_typing_low, t_typing_high, t_typing_storeIsBroth, t_typing_storeLow, t_typing_storeHigh)
                else
                  if p1 = 8 then
                    some (0, t_inputLength, t_typing_faultAt, t_typing_stores, t_typing_spoons, t_typing_isBroth, t_typing_low, t_typing_high, t_typing_storeIsBroth, t_typing_storeLow, t_typing_storeHigh)
                  else
                    if p1 = 9 then
                      some (0, t_history_changes, t_typing_faultAt, t_typing_stores, t_typing_spoons, t_typing_isBroth, t_typing_low, t_typing_high, t_typing_storeIsBroth, t_typing_storeLow, t_typing_storeHigh)
                    else
                      some (1, 0, t_typing_faultAt, t_typing_stores, t_typing_spoons, t_typing_isBroth, t_typing_low, t_typing_high, t_typing_storeIsBroth, t_typing_storeLow, t_typing_storeHigh)
def g_X11_append_b12 (t_inputLength : Int32) (t_input : Nat → Int32) : Option (Int32 × Int32 × Int32 × (Nat → Int32)) :=
  some (1, 0, t_inputLength, t_input)
def g_X11_append (t_inputLength : Int32) (t_input : Nat → Int32) (p1 : Int32) : Option (Int32 × Int32 × Int32 × (Nat → Int32)) :=
  if p1 < 32 then
    g_X11_append_b12 t_inputLength t_input
  else
    if p1 ≤ 126 then
      if t_inputLength < 60 then
        gc (inb t_inputLength 60) <|
        gl (t_inputLength + 1) fun v1 =>
        some (0, v1, v1, (upd t_input t_inputLength.toNatClampNeg (vp_nar .char p1)))
      else
        some (5, 0, t_inputLength, t_input)
    else
      g_X11_append_b12 t_inputLength t_input
def g_X11_reason (t_refusal_isKept : Int32) (t_refusal_reason : Int32) (t_refusal_detail : Int32) (t_refusal_hasCause : Int32) (t_refusal_cause : Int32) (t_refusal_causeDetail : Int32) (p1 : Int32) (p2 : Int32) : Option (Int32 × Int32) :=
  if t_refusal_isKept = 0 then
    some (3, 0)
  else
    if p1 = 0 then
      if p2 = 0 then
        some (0, t_refusal_reason)
      else
        some (0, t_refusal_detail)
    else
      if t_refusal_hasCause = 0 then
        some (3, 0)
      else
        if p2 = 0 then
          some (0, t_refusal_cause)
        else
          some (0, t_refusal_causeDetail)
def g_X11_undo (LS : List Nat) (SE : Nat → SV) (t_history_next : Int32) (t_history_changes : Int32) (t_book_cauldrons : Int32) (t_book_spells : Int32) (t_book_cookedSoFar : Int32) (t_book_storesSoFar : Int32) (t_history_books : Nat → Option Nat) (bk_cauldrons : Int32) (bk_spells : Int32) (bk_cookedSoFar : Int32) (bk_storesSoFar : Int32) (t_book_contents_many : Nat → Int32) (bk_contents_many : Nat → Int32) (t_book_contents_much : Nat → UInt32) (bk_contents_much : Nat → UInt32) (t_book_isBroth : Nat → Int32) (bk_isBroth : Nat → Int32) (t_book_low : Nat → Int32) (bk_low : Nat → Int32) (t_book_high : Nat → Int32) (bk_high : Nat → Int32) (t_book_storesIn : Nat → Int32) (bk_storesIn : Nat → Int32) (t_book_texts : Nat → Option Nat) (bk_texts : Nat → Option Nat) (t_book_cooked : Nat → Int32) (bk_cooked : Nat → Int32) (a_bk : Nat) : Option (Int32 × Int32 × Int32 × Int32 × Int32 × Int32 × Int32 × Int32 × (Nat → Int32) × (Nat → UInt32) × (Nat → Int32) × (Nat → Int32) × (Nat → Int32) × (Nat → Int32) × (Nat → Option Nat) × (Nat → Int32)) :=
  if t_history_changes = 0 then
    some (3, 0, t_history_next, t_history_changes, t_book_cauldrons, t_book_spells, t_book_cookedSoFar, t_book_storesSoFar, t_book_contents_many, t_book_contents_much, t_book_isBroth, t_book_low, t_book_high, t_book_storesIn, t_book_texts, t_book_cooked)
  else
    gb (g_X4_giveBack LS SE t_history_next t_history_changes t_book_cauldrons t_book_spells t_book_cookedSoFar t_book_storesSoFar t_history_books bk_cauldrons bk_spells bk_cookedSoFar bk_storesSoFar t_book_contents_many bk_contents_many t_book_contents_much bk_contents_much t_book_isBroth bk_isBroth t_book_low bk_low t_book_high bk_high t_book_storesIn bk_storesIn t_book_texts bk_texts t_book_cooked bk_cooked a_bk) fun r1 =>
    some (0, r1.2.1, r1.1, r1.2.1, r1.2.2.1, r1.2.2.2.1, r1.2.2.2.2.1, r1.2.2.2.2.2.1, r1.2.2.2.2.2.2.1, r1.2.2.2.2.2.2.2.1, r1.2.2.2.2.2.2.2.2.1, r1.2.2.2.2.2.2.2.2.2.1, r1.2.2.2.2.2.2.2.2.2.2.1, r1.2.2.2.2.2.2.2.2.2.2.2.1, r1.2.2.2.2.2.2.2.2.2.2.2.2.1, r1.2.2.2.2.2.2.2.2.2.2.2.2.2)
def g_L_cell (n_p1 : Nat) (p1 : Nat → Int32) (p2 : Int32) : Option (Int32) :=
  if (nI n_p1) ≤ p2 then
    gl ((40503 : Int32) * p2) fun v1 =>
    some (v1)
  else
    gc (inb p2 n_p1) <|
    gl (p1 p2.toNatClampNeg) fun v2 =>
    some (v2)
def g_L_drams (LS : List Nat) (SE : Nat → SV) (p1_book_cauldrons : Int32) (p1_book_spells : Int32) (p1_book_cookedSoFar : Int32) (p1_book_storesSoFar : Int32) (p1_refusal_isKept : Int32) (p1_refusal_reason : Int32) (p1_refusal_detail : Int32) (p1_refusal_hasCause : Int32) (p1_history_next : Int32) (p1_history_changes : Int32) (p1_history_books : Nat → Option Nat) (bk_cauldrons : Int32) (bk_spells : Int32) (bk_cookedSoFar : Int32) (bk_storesSoFar : Int32) (bk_contents_many : Nat → Int32) (p1_book_contents_many : Nat → Int32) (bk_contents_much : Nat → UInt32) (p1_book_contents_much : Nat → UInt32) (bk_isBroth : Nat → Int32) (p1_book_isBroth : Nat → Int32) (bk_low : Nat → Int32) (p1_book_low : Nat → Int32) (bk_high : Nat → Int32) (p1_book_high : Nat → Int32) (bk_storesIn : Nat → Int32) (p1_book_storesIn : Nat → Int32) (bk_texts : Nat → Option Nat) (p1_book_texts : Nat → Option Nat) (bk_cooked : Nat → Int32) (p1_book_cooked : Nat → Int32) (p2 : Int32) (p3 : Int32) (a_bk : Nat) : Option (Int32 × Int32 × Int32 × Int32 × Int32 × Int32 × Int32 × Int32 × Int32 × Int32 × Int32 × Int32 × (Nat → Int32) × (Nat → Int32) × (Nat → UInt32) × (Nat → UInt32) × (Nat → Int32) × (Nat → Int32) × (Nat → Int32) × (Nat → Int32) × (Nat → Int32) × (Nat → Int32) × (Nat → Int32) × (Nat → Int32) × (Nat → Option Nat) × (Nat → Int32)) :=
  gb (g_X11_drams LS SE p1_book_cauldrons p1_book_spells p1_book_cookedSoFar p1_book_storesSoFar p1_refusal_isKept p1_refusal_reason p1_refusal_detail p1_refusal_hasCause p1_history_next p1_history_changes p1_history_books bk_cauldrons bk_spells bk_cookedSoFar bk_storesSoFar bk_contents_many p1_book_contents_many bk_contents_much p1_book_contents_much bk_isBroth p1_book_isBroth bk_low p1_book_low bk_high p1_book_high bk_storesIn p1_book_storesIn bk_texts p1_book_texts bk_cooked p1_book_cooked p2 p3 a_bk) fun r1 =>
  if r1.1 = 0 then
    some (r1.2.1, r1.2.2.1, r1.2.2.2.1, r1.2.2.2.2.1, r1.2.2.2.2.2.1, r1.2.2.2.2.2.2.1, r1.2.2.2.2.2.2.2.1, r1.2.2.2.2.2.2.2.2.1, r1.2.2.2.2.2.2.2.2.2.1, r1.2.2.2.2.2.2.2.2.2.2.1, r1.2.2.2.2.2.2.2.2.2.2.2.1, r1.2.2.2.2.2.2.2.2.2.2.2.2.1, r1.2.2.2.2.2.2.2.2.2.2.2.2.2.1, r1.2.2.2.2.2.2.2.2.2.2.2.2.2.2.1, r1.2.2.2.2.2.2.2.2.2.2.2.2.2.2.2.1, r1.2.2.2.2.2.2.2.2.2.2.2.2.2.2.2.2.1, r1.2.2.2.2.2.2.2.2.2.2.2.2.2.2.2.2.2.1, r1.2.2.2.2.2.2.2.2.2.2.2.2.2.2.2.2.2.2.1, r1.2.2.2.2.2.2.2.2.2.2.2.2.2.2.2.2.2.2.2.1, r1.2.2.2.2.2.2.2.2.2.2.2.2.2.2.2.2.2.2.2.2.1, r1.2.2.2.2.2.2.2.2.2.2.2.2.2.2.2.2.2.2.2.2.2.1, r1.2.2.2.2.2.2.2.2.2.2.2.2.2.2.2.2.2.2.2.2.2.2.1, r1.2.2.2.2.2.2.2.2.2.2.2.2.2.2.2.2.2.2.2.2.2.2.2.1, r1.2.2.2.2.2.2.2.2.2.2.2.2.2.2.2.2.2.2.2.2.2.2.2.2.1, r1.2.2.2.2.2.2.2.2.2.2.2.2.2.2.2.2.2.2.2.2.2.2.2.2.2.1, r1.2.2.2.2.2.2.2.2.2.2.2.2.2.2.2.2.2.2.2.2.2.2.2.2.2.2)
  else
    if r1.1 = 1 then
      some ((-1), r1.2.2.1, r1.2.2.2.1, r1.2.2.2.2.1, r1.2.2.2.2.2.1, r1.2.2.2.2.2.2.1, r1.2.2.2.2.2.2.2.1, r1.2.2.2.2.2.2.2.2.1, r1.2.2.2.2.2.2.2.2.2.1, r1.2.2.2.2.2.2.2.2.2.2.1, r1.2.2.2.2.2.2.2.2.2.2.2.1, r1.2.2.2.2.2.2.2.2.2.2.2.2.1, r1.2.2.2.2.2.2.2.2.2.2.2.2.2.1, r1.2.2.2.2.2.2.2.2.2.2.2.2.2.2.1, r1.2.2.2.2.2.2.2.2.2.2.2.2.2.2.2.1, r1.2.2.2.2.2.2.2.2.2.2.2.2.2.2.2.2.1, r1.2.2.2.2.2.2.2.2.2.2.2.2.2.2.2.2.2.1, r1.2.2.2.2.2.2.2.2.2.2.2.2.2.2.2.2.2.2.1, r1.2.2.2.2.2.2.2.2.2.2.2.2.2.2.2.2.2.2.2.1, r1.2.2.2.2.2.2.2.2.2.2.2.2.2.2.2.2.2.2.2.2.1, r1.2.2.2.2.2.2.2.2.2.2.2.2.2.2.2.2.2.2.2.2.2.1, r1.2.2.2.2.2.2.2.2.2.2.2.2.2.2.2.2.2.2.2.2.2.2.1, r1.2.2.2.2.2.2.2.2.2.2.2.2.2.2.2.2.2.2.2.2.2.2.2.1, r1.2.2.2.2.2.2.2.2.2.2.2.2.2.2.2.2.2.2.2.2.2.2.2.2.1, r1.2.2.2.2.2.2.2.2.2.2.2.2.2.2.2.2.2.2.2.2.2.2.2.2.2.1, r1.2.2.2.2.2.2.2.2.2.2.2.2.2.2.2.2.2.2.2.2.2.2.2.2.2.2)
    else
      if r1.1 = 4 then
        some ((-2), r1.2.2.1, r1.2.2.2.1, r1.2.2.2.2.1, r1.2.2.2.2.2.1, r1.2.2.2.2.2.2.1, r1.2.2.2.2.2.2.2.1, r1.2.2.2.2.2.2.2.2.1, r1.2.2.2.2.2.2.2.2.2.1, r1.2.2.2.2.2.2.2.2.2.2.1, r1.2.2.2.2.2.2.2.2.2.2.2.1, r1.2.2.2.2.2.2.2.2.2.2.2.2.1, r1.2.2.2.2.2.2.2.2.2.2.2.2.2.1, r1.2.2.2.2.2.2.2.2.2.2.2.2.2.2.1, r1.2.2.2.2.2.2.2.2.2.2.2.2.2.2.2.1, r1.2.2.2.2.2.2.2.2.2.2.2.2.2.2.2.2.1, r1.2.2.2.2.2.2.2.2.2.2.2.2.2.2.2.2.2.1, r1.2.2.2.2.2.2.2.2.2.2.2.2.2.2.2.2.2.2.1, r1.2.2.2.2.2.2.2.2.2.2.2.2.2.2.2.2.2.2.2.1, r1.2.2.2.2.2.2.2.2.2.2.2.2.2.2.2.2.2.2.2.2.1, r1.2.2.2.2.2.2.2.2.2.2.2.2.2.2.2.2.2.2.2.2.2.1, r1.2.2.2.2.2.2.2.2.2.2.2.2.2.2.2.2.2.2.2.2.2.2.1, r1.2.2.2.2.2.2.2.2.2.2.2.2.2.2.2.2.2.2.2.2.2.2.2.1, r1.2.2.2.2.2.2.2.2.2.2.2.2.2.2.2.2.2.2.2.2.2.2.2.2.1, r1.2.2.2.2.2.2.2.2.2.2.2.2.2.2.2.2.2.2.2.2.2.2.2.2.2.1, r1.2.2.2.2.2.2.2.2.2.2.2.2.2.2.2.2.2.2.2.2.2.2.2.2.2.2)
      else
        none
def g_L_broth (LS : List Nat) (SE : Nat → SV) (p1_book_cauldrons : Int32) (p1_book_spells : Int32) (p1_book_cookedSoFar : Int32) (p1_book_storesSoFar : Int32) (p1_refusal_isKept : Int32) (p1_refusal_reason : Int32) (p1_refusal_detail : Int32) (p1_refusal_hasCause : Int32) (p1_history_next : Int32) (p1_history_changes : Int32) (p1_history_books : Nat → Option Nat) (bk_cauldrons : Int32) (bk_spells : Int32) (bk_cookedSoFar : Int32) (bk_storesSoFar : Int32) (bk_contents_many : Nat → Int32) (p1_book_contents_many : Nat → Int32) (bk_contents_much : Nat → UInt32) (p1_book_contents_much : Nat → UInt32) (bk_isBroth : Nat → Int32) (p1_book_isBroth : Nat → Int32) (bk_low : Nat → Int32) (p1_book_low : Nat → Int32) (bk_high : Nat → Int32) (p1_book_high : Nat → Int32) (bk_storesIn : Nat → Int32) (p1_book_storesIn : Nat → Int32) (bk_texts : Nat → Option Nat) (p1_book_texts : Nat → Option Nat) (bk_cooked : Nat → Int32) (p1_book_cooked : Nat → Int32) (a_bk : Nat) : Option (Int32 × Int32 × Int32 × Int32 × Int32 × Int32 × Int32 × Int32 × Int32 × Int32 × Int32 × Int32 × (Nat → Int32) × (Nat → Int32) × (Nat → UInt32) × (Nat → UInt32) × (Nat → Int32) × (Nat → Int32) × (Nat → Int32) × (Nat → Int32) × (Nat → Int32) × (Nat → Int32) × (Nat → Int32) × (Nat → Int32) × (Nat → Option Nat) × (Nat → Int32)) :=
  gb (g_X11_broth LS SE p1_book_cauldrons p1_book_spells p1_book_cookedSoFar p1_book_storesSoFar p1_refusal_isKept p1_refusal_reason p1_refusal_detail p1_refusal_hasCause p1_history_next p1_history_changes p1_history_books bk_cauldrons bk_spells bk_cookedSoFar bk_storesSoFar bk_contents_many p1_book_contents_many bk_contents_much p1_book_contents_much bk_isBroth p1_book_isBroth bk_low p1_book_low bk_high p1_book_high bk_storesIn p1_book_storesIn bk_texts p1_book_texts bk_cooked p1_book_cooked a_bk) fun r1 =>
  if r1.1 = 0 then
    some (r1.2.1, r1.2.2.1, r1.2.2.2.1, r1.2.2.2.2.1, r1.2.2.2.2.2.1, r1.2.2.2.2.2.2.1, r1.2.2.2.2.2.2.2.1, r1.2.2.2.2.2.2.2.2.1, r1.2.2.2.2.2.2.2.2.2.1, r1.2.2.2.2.2.2.2.2.2.2.1, r1.2.2.2.2.2.2.2.2.2.2.2.1, r1.2.2.2.2.2.2.2.2.2.2.2.2.1, r1.2.2.2.2.2.2.2.2.2.2.2.2.2.1, r1.2.2.2.2.2.2.2.2.2.2.2.2.2.2.1, r1.2.2.2.2.2.2.2.2.2.2.2.2.2.2.2.1, r1.2.2.2.2.2.2.2.2.2.2.2.2.2.2.2.2.1, r1.2.2.2.2.2.2.2.2.2.2.2.2.2.2.2.2.2.1, r1.2.2.2.2.2.2.2.2.2.2.2.2.2.2.2.2.2.2.1, r1.2.2.2.2.2.2.2.2.2.2.2.2.2.2.2.2.2.2.2.1, r1.2.2.2.2.2.2.2.2.2.2.2.2.2.2.2.2.2.2.2.2.1, r1.2.2.2.2.2.2.2.2.2.2.2.2.2.2.2.2.2.2.2.2.2.1, r1.2.2.2.2.2.2.2.2.2.2.2.2.2.2.2.2.2.2.2.2.2.2.1, r1.2.2.2.2.2.2.2.2.2.2.2.2.2.2.2.2.2.2.2.2.2.2.2.1, r1.2.2.2.2.2.2.2.2.2.2.2.2.2.2.2.2.2.2.2.2.2.2.2.2.1, r1.2.2.2.2.2.2.2.2.2.2.2.2.2.2.2.2.2.2.2.2.2.2.2.2.2.1, r1.2.2.2.2.2.2.2.2.2.2.2.2.2.2.2.2.2.2.2.2.2.2.2.2.2.2)
  else
    if r1.1 = 4 then
      some ((-2), r1.2.2.1, r1.2.2.2.1, r1.2.2.2.2.1, r1.2.2.2.2.2.1, r1.2.2.2.2.2.2.1, r1.2.2.2.2.2.2.2.1, r1.2.2.2.2.2.2.2.2.1, r1.2.2.2.2.2.2.2.2.2.1, r1.2.2.2.2.2.2.2.2.2.2.1, r1.2.2.2.2.2.2.2.2.2.2.2.1, r1.2.2.2.2.2.2.2.2.2.2.2.2.1, r1.2.2.2.2.2.2.2.2.2.2.2.2.2.1, r1.2.2.2.2.2.2.2.2.2.2.2.2.2.2.1, r1.2.2.2.2.2.2.2.2.2.2.2.2.2.2.2.1, r1.2.2.2.2.2.2.2.2.2.2.2.2.2.2.2.2.1, r1.2.2.2.2.2.2.2.2.2.2.2.2.2.2.2.2.2.1, r1.2.2.2.2.2.2.2.2.2.2.2.2.2.2.2.2.2.2.1, r1.2.2.2.2.2.2.2.2.2.2.2.2.2.2.2.2.2.2.2.1, r1.2.2.2.2.2.2.2.2.2.2.2.2.2.2.2.2.2.2.2.2.1, r1.2.2.2.2.2.2.2.2.2.2.2.2.2.2.2.2.2.2.2.2.2.1, r1.2.2.2.2.2.2.2.2.2.2.2.2.2.2.2.2.2.2.2.2.2.2.1, r1.2.2.2.2.2.2.2.2.2.2.2.2.2.2.2.2.2.2.2.2.2.2.2.1, r1.2.2.2.2.2.2.2.2.2.2.2.2.2.2.2.2.2.2.2.2.2.2.2.2.1, r1.2.2.2.2.2.2.2.2.2.2.2.2.2.2.2.2.2.2.2.2.2.2.2.2.2.1, r1.2.2.2.2.2.2.2.2.2.2.2.2.2.2.2.2.2.2.2.2.2.2.2.2.2.2)
    else
      none
def g_L_pour (LS : List Nat) (SE : Nat → SV) (p1_book_cauldrons : Int32) (p1_book_spells : Int32) (p1_book_cookedSoFar : Int32) (p1_book_storesSoFar : Int32) (p1_book_isBroth : Nat → Int32) (p1_refusal_isKept : Int32) (p1_refusal_reason : Int32) (p1_refusal_detail : Int32) (p1_refusal_hasCause : Int32) (p1_book_low : Nat → Int32) (p1_book_high : Nat → Int32) (p1_history_next : Int32) (p1_history_changes : Int32) (p1_history_books : Nat → Option Nat) (bk_cauldrons : Int32) (bk_spells : Int32) (bk_cookedSoFar : Int32) (bk_storesSoFar : Int32) (bk_contents_many : Nat → Int32) (p1_book_contents_many : Nat → Int32) (bk_contents_much : Nat → UInt32) (p1_book_contents_much : Nat → UInt32) (bk_isBroth : Nat → Int32) (bk_low : Nat → Int32) (bk_high : Nat → Int32) (bk_storesIn : Nat → Int32) (p1_book_storesIn : Nat → Int32) (bk_texts : Nat → Option Nat) (p1_book_texts : Nat → Option Nat) (bk_cooked : Nat → Int32) (p1_book_cooked : Nat → Int32) (p2 : Int32) (p3 : Int32) (a_bk : Nat) : Option (Int32 × Int32 × Int32 × Int32 × Int32 × Int32 × Int32 × Int32 × Int32 × Int32 × Int32 × (Nat → Int32) × (Nat → Int32) × (Nat → UInt32) × (Nat → Int32) × (Nat → Int32) × (Nat → Int32) × (Nat → Int32) × (Nat → Option Nat) × (Nat → Int32)) :=
  gb (g_X11_pour LS SE p1_book_cauldrons p1_book_spells p1_book_cookedSoFar p1_book_storesSoFar p1_book_isBroth p1_refusal_isKept p1_refusal_reason p1_refusal_detail p1_refusal_hasCause p1_book_low p1_book_high p1_history_next p1_history_changes p1_history_books bk_cauldrons bk_spells bk_cookedSoFar bk_storesSoFar bk_contents_many p1_book_contents_many bk_contents_much p1_book_contents_much bk_isBroth bk_low bk_high bk_storesIn p1_book_storesIn bk_texts p1_book_texts bk_cooked p1_book_cooked p2 p3 a_bk) fun r1 =>
  if r1.1 = 0 then
    some (r1.2.1, r1.2.2.1, r1.2.2.2.1, r1.2.2.2.2.1, r1.2.2.2.2.2.1, r1.2.2.2.2.2.2.1, r1.2.2.2.2.2.2.2.1, r1.2.2.2.2.2.2.2.2.1, r1.2.2.2.2.2.2.2.2.2.1, r1.2.2.2.2.2.2.2.2.2.2.1, r1.2.2.2.2.2.2.2.2.2.2.2.1, r1.2.2.2.2.2.2.2.2.2.2.2.2.1, r1.2.2.2.2.2.2.2.2.2.2.2.2.2.1, r1.2.2.2.2.2.2.2.2.2.2.2.2.2.2.1, r1.2.2.2.2.2.2.2.2.2.2.2.2.2.2.2.1, r1.2.2.2.2.2.2.2.2.2.2.2.2.2.2.2.2.1, r1.2.2.2.2.2.2.2.2.2.2.2.2.2.2.2.2.2.1, r1.2.2.2.2.2.2.2.2.2.2.2.2.2.2.2.2.2.2.1, r1.2.2.2.2.2.2.2.2.2.2.2.2.2.2.2.2.2.2.2.1, r1.2.2.2.2.2.2.2.2.2.2.2.2.2.2.2.2.2.2.2.2)
  else
    if r1.1 = 2 then
      some ((-1001), r1.2.2.1, r1.2.2.2.1, r1.2.2.2.2.1, r1.2.2.2.2.2.1, r1.2.2.2.2.2.2.1, r1.2.2.2.2.2.2.2.1, r1.2.2.2.2.2.2.2.2.1, r1.2.2.2.2.2.2.2.2.2.1, r1.2.2.2.2.2.2.2.2.2.2.1, r1.2.2.2.2.2.2.2.2.2.2.2.1, r1.2.2.2.2.2.2.2.2.2.2.2.2.1, r1.2.2.2.2.2.2.2.2.2.2.2.2.2.1, r1.2.2.2.2.2.2.2.2.2.2.2.2.2.2.1, r1.2.2.2.2.2.2.2.2.2.2.2.2.2.2.2.1, r1.2.2.2.2.2.2.2.2.2.2.2.2.2.2.2.2.1, r1.2.2.2.2.2.2.2.2.2.2.2.2.2.2.2.2.2.1, r1.2.2.2.2.2.2.2.2.2.2.2.2.2.2.2.2.2.2.1, r1.2.2.2.2.2.2.2.2.2.2.2.2.2.2.2.2.2.2.2.1, r1.2.2.2.2.2.2.2.2.2.2.2.2.2.2.2.2.2.2.2.2)
    else
      if r1.1 = 4 then
        some ((-1002), r1.2.2.1, r1.2.2.2.1, r1.2.2.2.2.1, r1.2.2.2.2.2.1, r1.2.2.2.2.2.2.1, r1.2.2.2.2.2.2.2.1, r1.2.2.2.2.2.2.2.2.1, r1.2.2.2.2.2.2.2.2.2.1, r1.2.2.2.2.2.2.2.2.2.2.1, r1.2.2.2.2.2.2.2.2.2.2.2.1, r1.2.2.2.2.2.2.2.2.2.2.2.2.1, r1.2.2.2.2.2.2.2.2.2.2.2.2.2.1, r1.2.2.2.2.2.2.2.2.2.2.2.2.2.2.1, r1.2.2.2.2.2.2.2.2.2.2.2.2.2.2.2.1, r1.2.2.2.2.2.2.2.2.2.2.2.2.2.2.2.2.1, r1.2.2.2.2.2.2.2.2.2.2.2.2.2.2.2.2.2.1, r1.2.2.2.2.2.2.2.2.2.2.2.2.2.2.2.2.2.2.1, r1.2.2.2.2.2.2.2.2.2.2.2.2.2.2.2.2.2.2.2.1, r1.2.2.2.2.2.2.2.2.2.2.2.2.2.2.2.2.2.2.2.2)
      else
        none
def g_L_ladle (LS : List Nat) (SE : Nat → SV) (p1_book_cauldrons : Int32) (p1_book_spells : Int32) (p1_book_cookedSoFar : Int32) (p1_book_storesSoFar : Int32) (p1_book_isBroth : Nat → Int32) (p1_history_next : Int32) (p1_history_changes : Int32) (p1_history_books : Nat → Option Nat) (bk_cauldrons : Int32) (bk_spells : Int32) (bk_cookedSoFar : Int32) (bk_storesSoFar : Int32) (bk_contents_many : Nat → Int32) (p1_book_contents_many : Nat → Int32) (bk_contents_much : Nat → UInt32) (p1_book_contents_much : Nat → UInt32) (bk_isBroth : Nat → Int32) (bk_low : Nat → Int32) (p1_book_low : Nat → Int32) (bk_high : Nat → Int32) (p1_book_high : Nat → Int32) (bk_storesIn : Nat → Int32) (p1_book_storesIn : Nat → Int32) (bk_texts : Nat → Option Nat) (p1_book_texts : Nat → Option Nat) (bk_cooked : Nat → Int32) (p1_book_cooked : Nat → Int32) (p1_refusal_isKept : Int32) (p1_refusal_reason : Int32) (p1_refusal_detail : Int32) (p1_refusal_hasCause : Int32) (p2 : Int32) (p3 : Int32) (a_bk : Nat) : Option (Int32 × Int32 × Int32 × Int32 × Int32 × Int32 × Int32 × (Nat → Int32) × (Nat → UInt32) × (Nat → UInt32) × (Nat → Int32) × (Nat → Int32) × (Nat → Int32) × (Nat → Int32) × (Nat → Option Nat) × (Nat → Int32) × Int32 × Int32 × Int32 × Int32) :=
  gb (g_X11_ladle LS SE p1_book_cauldrons p1_book_spells p1_book_cookedSoFar p1_book_storesSoFar p1_book_isBroth p1_history_next p1_history_changes p1_history_books bk_cauldrons bk_spells bk_cookedSoFar bk_storesSoFar bk_contents_many p1_book_contents_many bk_contents_much p1_book_contents_much bk_isBroth bk_low p1_book_low bk_high p1_book_high bk_storesIn p1_book_storesIn bk_texts p1_book_texts bk_cooked p1_book_cooked p1_refusal_isKept p1_refusal_reason p1_refusal_detail p1_refusal_hasCause p2 p3 a_bk) fun r1 =>
  if r1.1 = 0 then
    if r1.2.1 = 0 then
      some (0, r1.2.2.1, r1.2.2.2.1, r1.2.2.2.2.1, r1.2.2.2.2.2.1, r1.2.2.2.2.2.2.1, r1.2.2.2.2.2.2.2.1, r1.2.2.2.2.2.2.2.2.1, r1.2.2.2.2.2.2.2.2.2.1, r1.2.2.2.2.2.2.2.2.2.2.1, r1.2.2.2.2.2.2.2.2.2.2.2.1, r1.2.2.2.2.2.2.2.2.2.2.2.2.1, r1.2.2.2.2.2.2.2.2.2.2.2.2.2.1, r1.2.2.2.2.2.2.2.2.2.2.2.2.2.2.1, r1.2.2.2.2.2.2.2.2.2.2.2.2.2.2.2.1, r1.2.2.2.2.2.2.2.2.2.2.2.2.2.2.2.2.1, r1.2.2.2.2.2.2.2.2.2.2.2.2.2.2.2.2.2.1, r1.2.2.2.2.2.2.2.2.2.2.2.2.2.2.2.2.2.2.1, r1.2.2.2.2.2.2.2.2.2.2.2.2.2.2.2.2.2.2.2.1, r1.2.2.2.2.2.2.2.2.2.2.2.2.2.2.2.2.2.2.2.2)
    else
      some (1, r1.2.2.1, r1.2.2.2.1, r1.2.2.2.2.1, r1.2.2.2.2.2.1, r1.2.2.2.2.2.2.1, r1.2.2.2.2.2.2.2.1, r1.2.2.2.2.2.2.2.2.1, r1.2.2.2.2.2.2.2.2.2.1, r1.2.2.2.2.2.2.2.2.2.2.1, r1.2.2.2.2.2.2.2.2.2.2.2.1, r1.2.2.2.2.2.2.2.2.2.2.2.2.1, r1.2.2.2.2.2.2.2.2.2.2.2.2.2.1, r1.2.2.2.2.2.2.2.2.2.2.2.2.2.2.1, r1.2.2.2.2.2.2.2.2.2.2.2.2.2.2.2.1, r1.2.2.2.2.2.2.2.2.2.2.2.2.2.2.2.2.1, r1.2.2.2.2.2.2.2.2.2.2.2.2.2.2.2.2.2.1, r1.2.2.2.2.2.2.2.2.2.2.2.2.2.2.2.2.2.2.1, r1.2.2.2.2.2.2.2.2.2.2.2.2.2.2.2.2.2.2.2.1, r1.2.2.2.2.2.2.2.2.2.2.2.2.2.2.2.2.2.2.2.2)
  else
    if r1.1 = 1 then
      some ((-1003), r1.2.2.1, r1.2.2.2.1, r1.2.2.2.2.1, r1.2.2.2.2.2.1, r1.2.2.2.2.2.2.1, r1.2.2.2.2.2.2.2.1, r1.2.2.2.2.2.2.2.2.1, r1.2.2.2.2.2.2.2.2.2.1, r1.2.2.2.2.2.2.2.2.2.2.1, r1.2.2.2.2.2.2.2.2.2.2.2.1, r1.2.2.2.2.2.2.2.2.2.2.2.2.1, r1.2.2.2.2.2.2.2.2.2.2.2.2.2.1, r1.2.2.2.2.2.2.2.2.2.2.2.2.2.2.1, r1.2.2.2.2.2.2.2.2.2.2.2.2.2.2.2.1, r1.2.2.2.2.2.2.2.2.2.2.2.2.2.2.2.2.1, r1.2.2.2.2.2.2.2.2.2.2.2.2.2.2.2.2.2.1, r1.2.2.2.2.2.2.2.2.2.2.2.2.2.2.2.2.2.2.1, r1.2.2.2.2.2.2.2.2.2.2.2.2.2.2.2.2.2.2.2.1, r1.2.2.2.2.2.2.2.2.2.2.2.2.2.2.2.2.2.2.2.2)
    else
      if r1.1 = 2 then
        some ((-1001), r1.2.2.1, r1.2.2.2.1, r1.2.2.2.2.1, r1.2.2.2.2.2.1, r1.2.2.2.2.2.2.1, r1.2.2.2.2.2.2.2.1, r1.2.2.2.2.2.2.2.2.1, r1.2.2.2.2.2.2.2.2.2.1, r1.2.2.2.2.2.2.2.2.2.2.1, r1.2.2.2.2.2.2.2.2.2.2.2.1, r1.2.2.2.2.2.2.2.2.2.2.2.2.1, r1.2.2.2.2.2.2.2.2.2.2.2.2.2.1, r1.2.2.2.2.2.2.2.2.2.2.2.2.2.2.1, r1.2.2.2.2.2.2.2.2.2.2.2.2.2.2.2.1, r1.2.2.2.2.2.2.2.2.2.2.2.2.2.2.2.2.1, r1.2.2.2.2.2.2.2.2.2.2.2.2.2.2.2.2.2.1, r1.2.2.2.2.2.2.2.2.2.2.2.2.2.2.2.2.2.2.1, r1.2.2.2.2.2.2.2.2.2.2.2.2.2.2.2.2.2.2.2.1, r1.2.2.2.2.2.2.2.2.2.2.2.2.2.2.2.2.2.2.2.2)
      else
        if r1.1 = 4 then
          some ((-1002), r1.2.2.1, r1.2.2.2.1, r1.2.2.2.2.1, r1.2.2.2.2.2.1, r1.2.2.2.2.2.2.1, r1.2.2.2.2.2.2.2.1, r1.2.2.2.2.2.2.2.2.1, r1.2.2.2.2.2.2.2.2.2.1, r1.2.2.2.2.2.2.2.2.2.2.1, r1.2.2.2.2.2.2.2.2.2.2.2.1, r1.2.2.2.2.2.2.2.2.2.2.2.2.1, r1.2.2.2.2.2.2.2.2.2.2.2.2.2.1, r1.2.2.2.2.2.2.2.2.2.2.2.2.2.2.1, r1.2.2.2.2.2.2.2.2.2.2.2.2.2.2.2.1, r1.2.2.2.2.2.2.2.2.2.2.2.2.2.2.2.2.1, r1.2.2.2.2.2.2.2.2.2.2.2.2.2.2.2.2.2.1, r1.2.2.2.2.2.2.2.2.2.2.2.2.2.2.2.2.2.2.1, r1.2.2.2.2.2.2.2.2.2.2.2.2.2.2.2.2.2.2.2.1, r1.2.2.2.2.2.2.2.2.2.2.2.2.2.2.2.2.2.2.2.2)
        else
          none
def g_L_bounds (LS : List Nat) (SE : Nat → SV) (p1_book_cauldrons : Int32) (p1_book_spells : Int32) (p1_book_cookedSoFar : Int32) (p1_book_storesSoFar : Int32) (p1_book_isBroth : Nat → Int32) (p1_refusal_isKept : Int32) (p1_refusal_reason : Int32) (p1_refusal_detail : Int32) (p1_refusal_hasCause : Int32) (p1_book_contents_many : Nat → Int32) (p1_history_next : Int32) (p1_history_changes : Int32) (p1_history_books : Nat → Option Nat) (bk_cauldrons : Int32) (bk_spells : Int32) (bk_cookedSoFar : Int32) (bk_storesSoFar : Int32) (bk_contents_many : Nat → Int32) (bk_contents_much : Nat → UInt32) (p1_book_contents_much : Nat → UInt32) (bk_isBroth : Nat → Int32) (bk_low : Nat → Int32) (p1_book_low : Nat → Int32) (bk_high : Nat → Int32) (p1_book_high : Nat → Int32) (bk_storesIn : Nat → Int32) (p1_book_storesIn : Nat → Int32) (bk_texts : Nat → Option Nat) (p1_book_texts : Nat → Option Nat) (bk_cooked : Nat → Int32) (p1_book_cooked : Nat → Int32) (p1_typing_faultAt : Int32) (p1_typing_stores : Int32) (p1_typing_spoons : Int32) (p1_typing_isBroth : Nat → Int32) (p1_typing_low : Nat → Int64) (p1_typing_high : Nat → Int64) (p1_typing_storeIsBroth : Nat → Int32) (p1_typing_storeLow : Nat → Int64) (p1_typing_storeHigh : Nat → Int64) (p2 : Int32) (p3 : Int32) (p4 : Int32) (a_bk : Nat) : Option (Int32 × Int32 × Int32 × Int32 × Int32 × Int32 × Int32 × Int32 × Int32 × Int32 × Int32 × (Nat → Int32) × (Nat → UInt32) × (Nat → Int32) × (Nat → Int32) × (Nat → Int32) × (Nat → Int32) × (Nat → Int32) × (Nat → Int32) × (Nat → Option Nat) × (Nat → Int32) × Int32 × Int32 × Int32 × (Nat → Int32) × (Nat → Int64) × (Nat → Int64) × (Nat → Int32) × (Nat → Int64) × (Nat → Int64)) :=
  gb (g_X11_bounds LS SE p1_book_cauldrons p1_book_spells p1_book_cookedSoFar p1_book_storesSoFar p1_book_isBroth p1_refusal_isKept p1_refusal_reason p1_refusal_detail p1_refusal_hasCause p1_book_contents_many p1_history_next p1_history_changes p1_history_books bk_cauldrons bk_spells bk_cookedSoFar bk_storesSoFar bk_contents_many bk_contents_much p1_book_contents_much bk_isBroth bk_low p1_book_low bk_high p1_book_high bk_storesIn p1_book_storesIn bk_texts p1_book_texts bk_cooked p1_book_cooked p1_typing_faultAt p1_typing_stores p1_typing_spoons p1_typing_isBroth p1_typing_low p1_typing_high p1_typing_storeIsBroth p1_typing_storeLow p1_typing_storeHigh p2 p3 p4 a_bk) fun r1 =>
  if r1.1 = 0 then
    some (r1.2.1, r1.2.2.1, r1.2.2.2.1, r1.2.2.2.2.1, r1.2.2.2.2.2.1, r1.2.2.2.2.2.2.1, r1.2.2.2.2.2.2.2.1, r1.2.2.2.2.2.2.2.2.1, r1.2.2.2.2.2.2.2.2.2.1, r1.2.2.2.2.2.2.2.2.2.2.1, r1.2.2.2.2.2.2.2.2.2.2.2.1, r1.2.2.2.2.2.2.2.2.2.2.2.2.1, r1.2.2.2.2.2.2.2.2.2.2.2.2.2.1, r1.2.2.2.2.2.2.2.2.2.2.2.2.2.2.1, r1.2.2.2.2.2.2.2.2.2.2.2.2.2.2.2.1, r1.2.2.2.2.2.2.2.2.2.2.2.2.2.2.2.2.1, r1.2.2.2.2.2.2.2.2.2.2.2.2.2.2.2.2.2.1, r1.2.2.2.2.2.2.2.2.2.2.2.2.2.2.2.2.2.2.1, r1.2.2.2.2.2.2.2.2.2.2.2.2.2.2.2.2.2.2.2.1, r1.2.2.2.2.2.2.2.2.2.2.2.2.2.2.2.2.2.2.2.2.1, r1.2.2.2.2.2.2.2.2.2.2.2.2.2.2.2.2.2.2.2.2.2.1, r1.2.2.2.2.2.2.2.2.2.2.2.2.2.2.2.2.2.2.2.2.2.2.1, r1.2.2.2.2.2.2.2.2.2.2.2.2.2.2.2.2.2.2.2.2.2.2.2.1, r1.2.2.2.2.2.2.2.2.2.2.2.2.2.2.2.2.2.2.2.2.2.2.2.2.1, r1.2.2.2.2.2.2.2.2.2.2.2.2.2.2.2.2.2.2.2.2.2.2.2.2.2.1, r1.2.2.2.2.2.2.2.2.2.2.2.2.2.2.2.2.2.2.2.2.2.2.2.2.2.2.1, r1.2.2.2.2.2.2.2.2.2.2.2.2.2.2.2.2.2.2.2.2.2.2.2.2.2.2.2.1, r1.2.2.2.2.2.2.2.2.2.2.2.2.2.2.2.2.2.2.2.2.2.2.2.2.2.2.2.2.1, r1.2.2.2.2.2.2.2.2.2.2.2.2.2.2.2.2.2.2.2.2.2.2.2.2.2.2.2.2.2.1, r1.2.2.2.2.2.2.2.2.2.2.2.2.2.2.2.2.2.2.2.2.2.2.2.2.2.2.2.2.2.2)
  else
    if r1.1 = 1 then
      some ((-1003), r1.2.2.1, r1.2.2.2.1, r1.2.2.2.2.1, r1.2.2.2.2.2.1, r1.2.2.2.2.2.2.1, r1.2.2.2.2.2.2.2.1, r1.2.2.2.2.2.2.2.2.1, r1.2.2.2.2.2.2.2.2.2.1, r1.2.2.2.2.2.2.2.2.2.2.1, r1.2.2.2.2.2.2.2.2.2.2.2.1, r1.2.2.2.2.2.2.2.2.2.2.2.2.1, r1.2.2.2.2.2.2.2.2.2.2.2.2.2.1, r1.2.2.2.2.2.2.2.2.2.2.2.2.2.2.1, r1.2.2.2.2.2.2.2.2.2.2.2.2.2.2.2.1, r1.2.2.2.2.2.2.2.2.2.2.2.2.2.2.2.2.1, r1.2.2.2.2.2.2.2.2.2.2.2.2.2.2.2.2.2.1, r1.2.2.2.2.2.2.2.2.2.2.2.2.2.2.2.2.2.2.1, r1.2.2.2.2.2.2.2.2.2.2.2.2.2.2.2.2.2.2.2.1, r1.2.2.2.2.2.2.2.2.2.2.2.2.2.2.2.2.2.2.2.2.1, r1.2.2.2.2.2.2.2.2.2.2.2.2.2.2.2.2.2.2.2.2.2.1, r1.2.2.2.2.2.2.2.2.2.2.2.2.2.2.2.2.2.2.2.2.2.2.1, r1.2.2.2.2.2.2.2.2.2.2.2.2.2.2.2.2.2.2.2.2.2.2.2.1, r1.2.2.2.2.2.2.2.2.2.2.2.2.2.2.2.2.2.2.2.2.2.2.2.2.1, r1.2.2.2.2.2.2.2.2.2.2.2.2.2.2.2.2.2.2.2.2.2.2.2.2.2.1, r1.2.2.2.2.2.2.2.2.2.2.2.2.2.2.2.2.2.2.2.2.2.2.2.2.2.2.1, r1.2.2.2.2.2.2.2.2.2.2.2.2.2.2.2.2.2.2.2.2.2.2.2.2.2.2.2.1, r1.2.2.2.2.2.2.2.2.2.2.2.2.2.2.2.2.2.2.2.2.2.2.2.2.2.2.2.2.1, r1.2.2.2.2.2.2.2.2.2.2.2.2.2.2.2.2.2.2.2.2.2.2.2.2.2.2.2.2.2.1, r1.2.2.2.2.2.2.2.2.2.2.2.2.2.2.2.2.2.2.2.2.2.2.2.2.2.2.2.2.2.2)
    else
      if r1.1 = 2 then
        some ((-1001), r1.2.2.1, r1.2.2.2.1, r1.2.2.2.2.1, r1.2.2.2.2.2.1, r1.2.2.2.2.2.2.1, r1.2.2.2.2.2.2.2.1, r1.2.2.2.2.2.2.2.2.1, r1.2.2.2.2.2.2.2.2.2.1, r1.2.2.2.2.2.2.2.2.2.2.1, r1.2.2.2.2.2.2.2.2.2.2.2.1, r1.2.2.2.2.2.2.2.2.2.2.2.2.1, r1.2.2.2.2.2.2.2.2.2.2.2.2.2.1, r1.2.2.2.2.2.2.2.2.2.2.2.2.2.2.1, r1.2.2.2.2.2.2.2.2.2.2.2.2.2.2.2.1, r1.2.2.2.2.2.2.2.2.2.2.2.2.2.2.2.2.1, r1.2.2.2.2.2.2.2.2.2.2.2.2.2.2.2.2.2.1, r1.2.2.2.2.2.2.2.2.2.2.2.2.2.2.2.2.2.2.1, r1.2.2.2.2.2.2.2.2.2.2.2.2.2.2.2.2.2.2.2.1, r1.2.2.2.2.2.2.2.2.2.2.2.2.2.2.2.2.2.2.2.2.1, r1.2.2.2.2.2.2.2.2.2.2.2.2.2.2.2.2.2.2.2.2.2.1, r1.2.2.2.2.2.2.2.2.2.2.2.2.2.2.2.2.2.2.2.2.2.2.1, r1.2.2.2.2.2.2.2.2.2.2.2.2.2.2.2.2.2.2.2.2.2.2.2.1, r1.2.2.2.2.2.2.2.2.2.2.2.2.2.2.2.2.2.2.2.2.2.2.2.2.1, r1.2.2.2.2.2.2.2.2.2.2.2.2.2.2.2.2.2.2.2.2.2.2.2.2.2.1, r1.2.2.2.2.2.2.2.2.2.2.2.2.2.2.2.2.2.2.2.2.2.2.2.2.2.2.1, r1.2.2.2.2.2.2.2.2.2.2.2.2.2.2.2.2.2.2.2.2.2.2.2.2.2.2.2.1, r1.2.2.2.2.2.2.2.2.2.2.2.2.2.2.2.2.2.2.2.2.2.2.2.2.2.2.2.2.1, r1.2.2.2.2.2.2.2.2.2.2.2.2.2.2.2.2.2.2.2.2.2.2.2.2.2.2.2.2.2.1, r1.2.2.2.2.2.2.2.2.2.2.2.2.2.2.2.2.2.2.2.2.2.2.2.2.2.2.2.2.2.2)
      else
        if r1.1 = 4 then
          some ((-1002), r1.2.2.1, r1.2.2.2.1, r1.2.2.2.2.1, r1.2.2.2.2.2.1, r1.2.2.2.2.2.2.1, r1.2.2.2.2.2.2.2.1, r1.2.2.2.2.2.2.2.2.1, r1.2.2.2.2.2.2.2.2.2.1, r1.2.2.2.2.2.2.2.2.2.2.1, r1.2.2.2.2.2.2.2.2.2.2.2.1, r1.2.2.2.2.2.2.2.2.2.2.2.2.1, r1.2.2.2.2.2.2.2.2.2.2.2.2.2.1, r1.2.2.2.2.2.2.2.2.2.2.2.2.2.2.1, r1.2.2.2.2.2.2.2.2.2.2.2.2.2.2.2.1, r1.2.2.2.2.2.2.2.2.2.2.2.2.2.2.2.2.1, r1.2.2.2.2.2.2.2.2.2.2.2.2.2.2.2.2.2.1, r1.2.2.2.2.2.2.2.2.2.2.2.2.2.2.2.2.2.2.1, r1.2.2.2.2.2.2.2.2.2.2.2.2.2.2.2.2.2.2.2.1, r1.2.2.2.2.2.2.2.2.2.2.2.2.2.2.2.2.2.2.2.2.1, r1.2.2.2.2.2.2.2.2.2.2.2.2.2.2.2.2.2.2.2.2.2.1, r1.2.2.2.2.2.2.2.2.2.2.2.2.2.2.2.2.2.2.2.2.2.2.1, r1.2.2.2.2.2.2.2.2.2.2.2.2.2.2.2.2.2.2.2.2.2.2.2.1, r1.2.2.2.2.2.2.2.2.2.2.2.2.2.2.2.2.2.2.2.2.2.2.2.2.1, r1.2.2.2.2.2.2.2.2.2.2.2.2.2.2.2.2.2.2.2.2.2.2.2.2.2.1, r1.2.2.2.2.2.2.2.2.2.2.2.2.2.2.2.2.2.2.2.2.2.2.2.2.2.2.1, r1.2.2.2.2.2.2.2.2.2.2.2.2.2.2.2.2.2.2.2.2.2.2.2.2.2.2.2.1, r1.2.2.2.2.2.2.2.2.2.2.2.2.2.2.2.2.2.2.2.2.2.2.2.2.2.2.2.2.1, r1.2.2.2.2.2.2.2.2.2.2.2.2.2.2.2.2.2.2.2.2.2.2.2.2.2.2.2.2.2.1, r1.2.2.2.2.2.2.2.2.2.2.2.2.2.2.2.2.2.2.2.2.2.2.2.2.2.2.2.2.2.2)
        else
          none
def g_L_erase (LS : List Nat) (SE : Nat → SV) (p1_book_cauldrons : Int32) (p1_book_spells : Int32) (p1_book_cookedSoFar : Int32) (p1_book_storesSoFar : Int32) (p1_book_texts : Nat → Option Nat) (p1_history_next : Int32) (p1_history_changes : Int32) (p1_history_books : Nat → Option Nat) (bk_cauldrons : Int32) (bk_spells : Int32) (bk_cookedSoFar : Int32) (bk_storesSoFar : Int32) (bk_contents_many : Nat → Int32) (p1_book_contents_many : Nat → Int32) (bk_contents_much : Nat → UInt32) (p1_book_contents_much : Nat → UInt32) (bk_isBroth : Nat → Int32) (p1_book_isBroth : Nat → Int32) (bk_low : Nat → Int32) (p1_book_low : Nat → Int32) (bk_high : Nat → Int32) (p1_book_high : Nat → Int32) (bk_storesIn : Nat → Int32) (p1_book_storesIn : Nat → Int32) (bk_texts : Nat → Option Nat) (bk_cooked : Nat → Int32) (p1_book_cooked : Nat → Int32) (p2 : Int32) (a_bk : Nat) : Option (Int32 × Int32 × (Nat → Option Nat) × Int32 × Int32 × Int32 × Int32 × Int32 × Int32 × (Nat → Int32) × (Nat → UInt32) × (Nat → Int32) × (Nat → Int32) × (Nat → Int32) × (Nat → Int32) × (Nat → Option Nat) × (Nat → Int32) × (Nat → Int32)) :=
  gb (g_X11_erase LS SE p1_book_cauldrons p1_book_spells p1_book_cookedSoFar p1_book_storesSoFar p1_book_texts p1_history_next p1_history_changes p1_history_books bk_cauldrons bk_spells bk_cookedSoFar bk_storesSoFar bk_contents_many p1_book_contents_many bk_contents_much p1_book_contents_much bk_isBroth p1_book_isBroth bk_low p1_book_low bk_high p1_book_high bk_storesIn p1_book_storesIn bk_texts bk_cooked p1_book_cooked p2 a_bk) fun r1 =>
  if r1.1 = 0 then
    some (r1.2.1, r1.2.2.1, r1.2.2.2.1, r1.2.2.2.2.1, r1.2.2.2.2.2.1, r1.2.2.2.2.2.2.1, r1.2.2.2.2.2.2.2.1, r1.2.2.2.2.2.2.2.2.1, r1.2.2.2.2.2.2.2.2.2.1, r1.2.2.2.2.2.2.2.2.2.2.1, r1.2.2.2.2.2.2.2.2.2.2.2.1, r1.2.2.2.2.2.2.2.2.2.2.2.2.1, r1.2.2.2.2.2.2.2.2.2.2.2.2.2.1, r1.2.2.2.2.2.2.2.2.2.2.2.2.2.2.1, r1.2.2.2.2.2.2.2.2.2.2.2.2.2.2.2.1, r1.2.2.2.2.2.2.2.2.2.2.2.2.2.2.2.2.1, r1.2.2.2.2.2.2.2.2.2.2.2.2.2.2.2.2.2.1, r1.2.2.2.2.2.2.2.2.2.2.2.2.2.2.2.2.2.2)
  else
    if r1.1 = 2 then
      some ((-1), r1.2.2.1, r1.2.2.2.1, r1.2.2.2.2.1, r1.2.2.2.2.2.1, r1.2.2.2.2.2.2.1, r1.2.2.2.2.2.2.2.1, r1.2.2.2.2.2.2.2.2.1, r1.2.2.2.2.2.2.2.2.2.1, r1.2.2.2.2.2.2.2.2.2.2.1, r1.2.2.2.2.2.2.2.2.2.2.2.1, r1.2.2.2.2.2.2.2.2.2.2.2.2.1, r1.2.2.2.2.2.2.2.2.2.2.2.2.2.1, r1.2.2.2.2.2.2.2.2.2.2.2.2.2.2.1, r1.2.2.2.2.2.2.2.2.2.2.2.2.2.2.2.1, r1.2.2.2.2.2.2.2.2.2.2.2.2.2.2.2.2.1, r1.2.2.2.2.2.2.2.2.2.2.2.2.2.2.2.2.2.1, r1.2.2.2.2.2.2.2.2.2.2.2.2.2.2.2.2.2.2)
    else
      none
def g_L_cook (LS : List Nat) (SE : Nat → SV) (p1_boiledOver : Int32) (p1_book_cauldrons : Int32) (p1_book_spells : Int32) (p1_book_cookedSoFar : Int32) (p1_book_storesSoFar : Int32) (p1_book_texts : Nat → Option Nat) (p1_cooking_boilsAt : Int32) (p1_cooking_cause : Int32) (p1_cooking_causeDetail : Int32) (p1_cooking_spoons : Int32) (p1_cooking_now_many : Nat → Int32) (p1_book_contents_many : Nat → Int32) (p1_cooking_now_much : Nat → UInt32) (p1_book_contents_much : Nat → UInt32) (p1_cooking_before_many : Nat → Int32) (p1_cooking_before_much : Nat → UInt32) (p1_cooking_storesIn : Nat → Int32) (p1_book_isBroth : Nat → Int32) (p1_cooking_isBroth : Nat → Int32) (p1_cooking_many : Nat → Int32) (p1_cooking_much : Nat → UInt32) (p1_book_low : Nat → Int32) (p1_book_high : Nat → Int32) (p1_history_next : Int32) (p1_history_changes : Int32) (p1_history_books : Nat → Option Nat) (bk_cauldrons : Int32) (bk_spells : Int32) (bk_cookedSoFar : Int32) (bk_storesSoFar : Int32) (bk_contents_many : Nat → Int32) (bk_contents_much : Nat → UInt32) (bk_isBroth : Nat → Int32) (bk_low : Nat → Int32) (bk_high : Nat → Int32) (bk_storesIn : Nat → Int32) (p1_book_storesIn : Nat → Int32) (bk_texts : Nat → Option Nat) (bk_cooked : Nat → Int32) (p1_book_cooked : Nat → Int32) (p1_refusal_isKept : Int32) (p1_refusal_reason : Int32) (p1_refusal_detail : Int32) (p1_refusal_hasCause : Int32) (p1_refusal_cause : Int32) (p1_refusal_causeDetail : Int32) (p2 : Int32) (a_bk : Nat) : Option (Int32 × Int32 × Int32 × Int32 × Int32 × Int32 × Int32 × Int32 × (Nat → Int32) × (Nat → Int32) × (Nat → UInt32) × (Nat → UInt32) × (Nat → Int32) × (Nat → UInt32) × (Nat → Int32) × (Nat → Int32) × (Nat → Int32) × (Nat → UInt32) × Int32 × Int32 × Int32 × Int32 × Int32 × Int32 × (Nat → Int32) × (Nat → UInt32) × (Nat → Int32) × (Nat → Int32) × (Nat → Int32) × (Nat → Int32) × (Nat → Int32) × (Nat → Option Nat) × (Nat → Int32) × (Nat → Int32) × Int32 × Int32 × Int32 × Int32 × Int32 × Int32) :=
  gb (g_X11_cook LS SE p1_boiledOver p1_book_cauldrons p1_book_spells p1_book_cookedSoFar p1_book_storesSoFar p1_book_texts p1_cooking_boilsAt p1_cooking_cause p1_cooking_causeDetail p1_cooking_spoons p1_cooking_now_many p1_book_contents_many p1_cooking_now_much p1_book_contents_much p1_cooking_before_many p1_cooking_before_much p1_cooking_storesIn p1_book_isBroth p1_cooking_isBroth p1_cooking_many p1_cooking_much p1_book_low p1_book_high p1_history_next p1_history_changes p1_history_books bk_cauldrons bk_spells bk_cookedSoFar bk_storesSoFar bk_contents_many bk_contents_much bk_isBroth bk_low bk_high bk_storesIn p1_book_storesIn bk_texts bk_cooked p1_book_cooked p1_refusal_isKept p1_refusal_reason p1_refusal_detail p1_refusal_hasCause p1_refusal_cause p1_refusal_causeDetail p2 a_bk) fun r1 =>
  if r1.1 = 0 then
    some (r1.2.1, r1.2.2.1, r1.2.2.2.1, r1.2.2.2.2.1, r1.2.2.2.2.2.1, r1.2.2.2.2.2.2.1, r1.2.2.2.2.2.2.2.1, r1.2.2.2.2.2.2.2.2.1, r1.2.2.2.2.2.2.2.2.2.1, r1.2.2.2.2.2.2.2.2.2.2.1, r1.2.2.2.2.2.2.2.2.2.2.2.1, r1.2.2.2.2.2.2.2.2.2.2.2.2.1, r1.2.2.2.2.2.2.2.2.2.2.2.2.2.1, r1.2.2.2.2.2.2.2.2.2.2.2.2.2.2.1, r1.2.2.2.2.2.2.2.2.2.2.2.2.2.2.2.1, r1.2.2.2.2.2.2.2.2.2.2.2.2.2.2.2.2.1, r1.2.2.2.2.2.2.2.2.2.2.2.2.2.2.2.2.2.1, r1.2.2.2.2.2.2.2.2.2.2.2.2.2.2.2.2.2.2.1, r1.2.2.2.2.2.2.2.2.2.2.2.2.2.2.2.2.2.2.2.1, r1.2.2.2.2.2.2.2.2.2.2.2.2.2.2.2.2.2.2.2.2.1, r1.2.2.2.2.2.2.2.2.2.2.2.2.2.2.2.2.2.2.2.2.2.1, r1.2.2.2.2.2.2.2.2.2.2.2.2.2.2.2.2.2.2.2.2.2.2.1, r1.2.2.2.2.2.2.2.2.2.2.2.2.2.2.2.2.2.2.2.2.2.2.2.1, r1.2.2.2.2.2.2.2.2.2.2.2.2.2.2.2.2.2.2.2.2.2.2.2.2.1, r1.2.2.2.2.2.2.2.2.2.2.2.2.2.2.2.2.2.2.2.2.2.2.2.2.2.1, r1.2.2.2.2.2.2.2.2.2.2.2.2.2.2.2.2.2.2.2.2.2.2.2.2.2.2.1, r1.2.2.2.2.2.2.2.2.2.2.2.2.2.2.2.2.2.2.2.2.2.2.2.2.2.2.2.1, r1.2.2.2.2.2.2.2.2.2.2.2.2.2.2.2.2.2.2.2.2.2.2.2.2.2.2.2.2.1, r1.2.2.2.2.2.2.2.2.2.2.2.2.2.2.2.2.2.2.2.2.2.2.2.2.2.2.2.2.2.1, r1.2.2.2.2.2.2.2.2.2.2.2.2.2.2.2.2.2.2.2.2.2.2.2.2.2.2.2.2.2.2.1, r1.2.2.2.2.2.2.2.2.2.2.2.2.2.2.2.2.2.2.2.2.2.2.2.2.2.2.2.2.2.2.2.1, r1.2.2.2.2.2.2.2.2.2.2.2.2.2.2.2.2.2.2.2.2.2.2.2.2.2.2.2.2.2.2.2.2.1, r1.2.2.2.2.2.2.2.2.2.2.2.2.2.2.2.2.2.2.2.2.2.2.2.2.2.2.2.2.2.2.2.2.2.1, r1.2.2.2.2.2.2.2.2.2.2.2.2.2.2.2.2.2.2.2.2.2.2.2.2.2.2.2.2.2.2.2.2.2.2.1, r1.2.2.2.2.2.2.2.2.2.2.2.2.2.2.2.2.2.2.2.2.2.2.2.2.2.2.2.2.2.2.2.2.2.2.2.1, r1.2.2.2.2.2.2.2.2.2.2.2.2.2.2.2.2.2.2.2.2.2.2.2.2.2.2.2.2.2.2.2.2.2.2.2.2.1, r1.2.2.2.2.2.2.2.2.2.2.2.2.2.2.2.2.2.2.2.2.2.2.2.2.2.2.2.2.2.2.2.2.2.2.2.2.2.1, r1.2.2.2.2.2.2.2.2.2.2.2.2.2.2.2.2.2.2.2.2.2.2.2.2.2.2.2.2.2.2.2.2.2.2.2.2.2.2.1, r1.2.2.2.2.2.2.2.2.2.2.2.2.2.2.2.2.2.2.2.2.2.2.2.2.2.2.2.2.2.2.2.2.2.2.2.2.2.2.2.1, r1.2.2.2.2.2.2.2.2.2.2.2.2.2.2.2.2.2.2.2.2.2.2.2.2.2.2.2.2.2.2.2.2.2.2.2.2.2.2.2.2)
  else
    if r1.1 = 2 then
      some ((-1), r1.2.2.1, r1.2.2.2.1, r1.2.2.2.2.1, r1.2.2.2.2.2.1, r1.2.2.2.2.2.2.1, r1.2.2.2.2.2.2.2.1, r1.2.2.2.2.2.2.2.2.1, r1.2.2.2.2.2.2.2.2.2.1, r1.2.2.2.2.2.2.2.2.2.2.1, r1.2.2.2.2.2.2.2.2.2.2.2.1, r1.2.2.2.2.2.2.2.2.2.2.2.2.1, r1.2.2.2.2.2.2.2.2.2.2.2.2.2.1, r1.2.2.2.2.2.2.2.2.2.2.2.2.2.2.1, r1.2.2.2.2.2.2.2.2.2.2.2.2.2.2.2.1, r1.2.2.2.2.2.2.2.2.2.2.2.2.2.2.2.2.1, r1.2.2.2.2.2.2.2.2.2.2.2.2.2.2.2.2.2.1, r1.2.2.2.2.2.2.2.2.2.2.2.2.2.2.2.2.2.2.1, r1.2.2.2.2.2.2.2.2.2.2.2.2.2.2.2.2.2.2.2.1, r1.2.2.2.2.2.2.2.2.2.2.2.2.2.2.2.2.2.2.2.2.1, r1.2.2.2.2.2.2.2.2.2.2.2.2.2.2.2.2.2.2.2.2.2.1, r1.2.2.2.2.2.2.2.2.2.2.2.2.2.2.2.2.2.2.2.2.2.2.1, r1.2.2.2.2.2.2.2.2.2.2.2.2.2.2.2.2.2.2.2.2.2.2.2.1, r1.2.2.2.2.2.2.2.2.2.2.2.2.2.2.2.2.2.2.2.2.2.2.2.2.1, r1.2.2.2.2.2.2.2.2.2.2.2.2.2.2.2.2.2.2.2.2.2.2.2.2.2.1, r1.2.2.2.2.2.2.2.2.2.2.2.2.2.2.2.2.2.2.2.2.2.2.2.2.2.2.1, r1.2.2.2.2.2.2.2.2.2.2.2.2.2.2.2.2.2.2.2.2.2.2.2.2.2.2.2.1, r1.2.2.2.2.2.2.2.2.2.2.2.2.2.2.2.2.2.2.2.2.2.2.2.2.2.2.2.2.1, r1.2.2.2.2.2.2.2.2.2.2.2.2.2.2.2.2.2.2.2.2.2.2.2.2.2.2.2.2.2.1, r1.2.2.2.2.2.2.2.2.2.2.2.2.2.2.2.2.2.2.2.2.2.2.2.2.2.2.2.2.2.2.1, r1.2.2.2.2.2.2.2.2.2.2.2.2.2.2.2.2.2.2.2.2.2.2.2.2.2.2.2.2.2.2.2.1, r1.2.2.2.2.2.2.2.2.2.2.2.2.2.2.2.2.2.2.2.2.2.2.2.2.2.2.2.2.2.2.2.2.1, r1.2.2.2.2.2.2.2.2.2.2.2.2.2.2.2.2.2.2.2.2.2.2.2.2.2.2.2.2.2.2.2.2.2.1, r1.2.2.2.2.2.2.2.2.2.2.2.2.2.2.2.2.2.2.2.2.2.2.2.2.2.2.2.2.2.2.2.2.2.2.1, r1.2.2.2.2.2.2.2.2.2.2.2.2.2.2.2.2.2.2.2.2.2.2.2.2.2.2.2.2.2.2.2.2.2.2.2.1, r1.2.2.2.2.2.2.2.2.2.2.2.2.2.2.2.2.2.2.2.2.2.2.2.2.2.2.2.2.2.2.2.2.2.2.2.2.1, r1.2.2.2.2.2.2.2.2.2.2.2.2.2.2.2.2.2.2.2.2.2.2.2.2.2.2.2.2.2.2.2.2.2.2.2.2.2.1, r1.2.2.2.2.2.2.2.2.2.2.2.2.2.2.2.2.2.2.2.2.2.2.2.2.2.2.2.2.2.2.2.2.2.2.2.2.2.2.1, r1.2.2.2.2.2.2.2.2.2.2.2.2.2.2.2.2.2.2.2.2.2.2.2.2.2.2.2.2.2.2.2.2.2.2.2.2.2.2.2.1, r1.2.2.2.2.2.2.2.2.2.2.2.2.2.2.2.2.2.2.2.2.2.2.2.2.2.2.2.2.2.2.2.2.2.2.2.2.2.2.2.2)
    else
      if r1.1 = 4 then
        some ((-2), r1.2.2.1, r1.2.2.2.1, r1.2.2.2.2.1, r1.2.2.2.2.2.1, r1.2.2.2.2.2.2.1, r1.2.2.2.2.2.2.2.1, r1.2.2.2.2.2.2.2.2.1, r1.2.2.2.2.2.2.2.2.2.1, r1.2.2.2.2.2.2.2.2.2.2.1, r1.2.2.2.2.2.2.2.2.2.2.2.1, r1.2.2.2.2.2.2.2.2.2.2.2.2.1, r1.2.2.2.2.2.2.2.2.2.2.2.2.2.1, r1.2.2.2.2.2.2.2.2.2.2.2.2.2.2.1, r1.2.2.2.2.2.2.2.2.2.2.2.2.2.2.2.1, r1.2.2.2.2.2.2.2.2.2.2.2.2.2.2.2.2.1, r1.2.2.2.2.2.2.2.2.2.2.2.2.2.2.2.2.2.1, r1.2.2.2.2.2.2.2.2.2.2.2.2.2.2.2.2.2.2.1, r1.2.2.2.2.2.2.2.2.2.2.2.2.2.2.2.2.2.2.2.1, r1.2.2.2.2.2.2.2.2.2.2.2.2.2.2.2.2.2.2.2.2.1, r1.2.2.2.2.2.2.2.2.2.2.2.2.2.2.2.2.2.2.2.2.2.1, r1.2.2.2.2.2.2.2.2.2.2.2.2.2.2.2.2.2.2.2.2.2.2.1, r1.2.2.2.2.2.2.2.2.2.2.2.2.2.2.2.2.2.2.2.2.2.2.2.1, r1.2.2.2.2.2.2.2.2.2.2.2.2.2.2.2.2.2.2.2.2.2.2.2.2.1, r1.2.2.2.2.2.2.2.2.2.2.2.2.2.2.2.2.2.2.2.2.2.2.2.2.2.1, r1.2.2.2.2.2.2.2.2.2.2.2.2.2.2.2.2.2.2.2.2.2.2.2.2.2.2.1, r1.2.2.2.2.2.2.2.2.2.2.2.2.2.2.2.2.2.2.2.2.2.2.2.2.2.2.2.1, r1.2.2.2.2.2.2.2.2.2.2.2.2.2.2.2.2.2.2.2.2.2.2.2.2.2.2.2.2.1, r1.2.2.2.2.2.2.2.2.2.2.2.2.2.2.2.2.2.2.2.2.2.2.2.2.2.2.2.2.2.1, r1.2.2.2.2.2.2.2.2.2.2.2.2.2.2.2.2.2.2.2.2.2.2.2.2.2.2.2.2.2.2.1, r1.2.2.2.2.2.2.2.2.2.2.2.2.2.2.2.2.2.2.2.2.2.2.2.2.2.2.2.2.2.2.2.1, r1.2.2.2.2.2.2.2.2.2.2.2.2.2.2.2.2.2.2.2.2.2.2.2.2.2.2.2.2.2.2.2.2.1, r1.2.2.2.2.2.2.2.2.2.2.2.2.2.2.2.2.2.2.2.2.2.2.2.2.2.2.2.2.2.2.2.2.2.1, r1.2.2.2.2.2.2.2.2.2.2.2.2.2.2.2.2.2.2.2.2.2.2.2.2.2.2.2.2.2.2.2.2.2.2.1, r1.2.2.2.2.2.2.2.2.2.2.2.2.2.2.2.2.2.2.2.2.2.2.2.2.2.2.2.2.2.2.2.2.2.2.2.1, r1.2.2.2.2.2.2.2.2.2.2.2.2.2.2.2.2.2.2.2.2.2.2.2.2.2.2.2.2.2.2.2.2.2.2.2.2.1, r1.2.2.2.2.2.2.2.2.2.2.2.2.2.2.2.2.2.2.2.2.2.2.2.2.2.2.2.2.2.2.2.2.2.2.2.2.2.1, r1.2.2.2.2.2.2.2.2.2.2.2.2.2.2.2.2.2.2.2.2.2.2.2.2.2.2.2.2.2.2.2.2.2.2.2.2.2.2.1, r1.2.2.2.2.2.2.2.2.2.2.2.2.2.2.2.2.2.2.2.2.2.2.2.2.2.2.2.2.2.2.2.2.2.2.2.2.2.2.2.1, r1.2.2.2.2.2.2.2.2.2.2.2.2.2.2.2.2.2.2.2.2.2.2.2.2.2.2.2.2.2.2.2.2.2.2.2.2.2.2.2.2)
      else
        none
def g_L_cookAll (LS : List Nat) (SE : Nat → SV) (p1_book_cauldrons : Int32) (p1_book_spells : Int32) (p1_book_cookedSoFar : Int32) (p1_book_storesSoFar : Int32) (p1_book_texts : Nat → Option Nat) (p1_typing_faultAt : Int32) (p1_typing_stores : Int32) (p1_typing_spoons : Int32) (p1_book_isBroth : Nat → Int32) (p1_book_low : Nat → Int32) (p1_book_high : Nat → Int32) (p1_typing_isBroth : Nat → Int32) (p1_typing_low : Nat → Int64) (p1_typing_high : Nat → Int64) (p1_typing_storeIsBroth : Nat → Int32) (p1_typing_storeLow : Nat → Int64) (p1_typing_storeHigh : Nat → Int64) (p1_history_next : Int32) (p1_history_changes : Int32) (p1_history_books : Nat → Option Nat) (bk_cauldrons : Int32) (bk_spells : Int32) (bk_cookedSoFar : Int32) (bk_storesSoFar : Int32) (bk_contents_many : Nat → Int32) (p1_book_contents_many : Nat → Int32) (bk_contents_much : Nat → UInt32) (p1_book_contents_much : Nat → UInt32) (bk_isBroth : Nat → Int32) (bk_low : Nat → Int32) (bk_high : Nat → Int32) (bk_storesIn : Nat → Int32) (p1_book_storesIn : Nat → Int32) (bk_texts : Nat → Option Nat) (bk_cooked : Nat → Int32) (p1_book_cooked : Nat → Int32) (p1_refusal_isKept : Int32) (p1_refusal_reason : Int32) (p1_refusal_detail : Int32) (p1_refusal_hasCause : Int32) (p1_cooking_boilsAt : Int32) (p1_cooking_cause : Int32) (p1_cooking_causeDetail : Int32) (p1_cooking_spoons : Int32) (p1_cooking_now_many : Nat → Int32) (p1_cooking_now_much : Nat → UInt32) (p1_cooking_before_many : Nat → Int32) (p1_cooking_before_much : Nat → UInt32) (p1_cooking_storesIn : Nat → Int32) (p1_cooking_isBroth : Nat → Int32) (p1_cooking_many : Nat → Int32) (p1_cooking_much : Nat → UInt32) (a_bk : Nat) : Option (Int32 × Int32 × Int32 × Int32 × Int32 × Int32 × (Nat → Int32) × (Nat → Int64) × (Nat → Int64) × (Nat → Int32) × (Nat → Int64) × (Nat → Int64) × Int32 × Int32 × Int32 × Int32 × Int32 × Int32 × (Nat → Int32) × (Nat → Int32) × (Nat → UInt32) × (Nat → UInt32) × (Nat → Int32) × (Nat → Int32) × (Nat → Int32) × (Nat → Int32) × (Nat → Int32) × (Nat → Option Nat) × (Nat → Int32) × (Nat → Int32) × Int32 × Int32 × Int32 × Int32 × Int32 × Int32 × Int32 × Int32 × (Nat → Int32) × (Nat → UInt32) × (Nat → Int32) × (Nat → UInt32) × (Nat → Int32) × (Nat → Int32) × (Nat → Int32) × (Nat → UInt32)) :=
  gb (g_X11_cookAll LS SE p1_book_cauldrons p1_book_spells p1_book_cookedSoFar p1_book_storesSoFar p1_book_texts p1_typing_faultAt p1_typing_stores p1_typing_spoons p1_book_isBroth p1_book_low p1_book_high p1_typing_isBroth p1_typing_low p1_typing_high p1_typing_storeIsBroth p1_typing_storeLow p1_typing_storeHigh p1_history_next p1_history_changes p1_history_books bk_cauldrons bk_spells bk_cookedSoFar bk_storesSoFar bk_contents_many p1_book_contents_many bk_contents_much p1_book_contents_much bk_isBroth bk_low bk_high bk_storesIn p1_book_storesIn bk_texts bk_cooked p1_book_cooked p1_refusal_isKept p1_refusal_reason p1_refusal_detail p1_refusal_hasCause p1_cooking_boilsAt p1_cooking_cause p1_cooking_causeDetail p1_cooking_spoons p1_cooking_now_many p1_cooking_now_much p1_cooking_before_many p1_cooking_before_much p1_cooking_storesIn p1_cooking_isBroth p1_cooking_many p1_cooking_much a_bk) fun r1 =>
  if r1.1 = 0 then
    some (r1.2.1, r1.2.2.1, r1.2.2.2.1, r1.2.2.2.2.1, r1.2.2.2.2.2.1, r1.2.2.2.2.2.2.1, r1.2.2.2.2.2.2.2.1, r1.2.2.2.2.2.2.2.2.1, r1.2.2.2.2.2.2.2.2.2.1, r1.2.2.2.2.2.2.2.2.2.2.1, r1.2.2.2.2.2.2.2.2.2.2.2.1, r1.2.2.2.2.2.2.2.2.2.2.2.2.1, r1.2.2.2.2.2.2.2.2.2.2.2.2.2.1, r1.2.2.2.2.2.2.2.2.2.2.2.2.2.2.1, r1.2.2.2.2.2.2.2.2.2.2.2.2.2.2.2.1, r1.2.2.2.2.2.2.2.2.2.2.2.2.2.2.2.2.1, r1.2.2.2.2.2.2.2.2.2.2.2.2.2.2.2.2.2.1, r1.2.2.2.2.2.2.2.2.2.2.2.2.2.2.2.2.2.2.1, r1.2.2.2.2.2.2.2.2.2.2.2.2.2.2.2.2.2.2.2.1, r1.2.2.2.2.2.2.2.2.2.2.2.2.2.2.2.2.2.2.2.2.1, r1.2.2.2.2.2.2.2.2.2.2.2.2.2.2.2.2.2.2.2.2.2.1, r1.2.2.2.2.2.2.2.2.2.2.2.2.2.2.2.2.2.2.2.2.2.2.1, r1.2.2.2.2.2.2.2.2.2.2.2.2.2.2.2.2.2.2.2.2.2.2.2.1, r1.2.2.2.2.2.2.2.2.2.2.2.2.2.2.2.2.2.2.2.2.2.2.2.2.1, r1.2.2.2.2.2.2.2.2.2.2.2.2.2.2.2.2.2.2.2.2.2.2.2.2.2.1, r1.2.2.2.2.2.2.2.2.2.2.2.2.2.2.2.2.2.2.2.2.2.2.2.2.2.2.1, r1.2.2.2.2.2.2.2.2.2.2.2.2.2.2.2.2.2.2.2.2.2.2.2.2.2.2.2.1, r1.2.2.2.2.2.2.2.2.2.2.2.2.2.2.2.2.2.2.2.2.2.2.2.2.2.2.2.2.1, r1.2.2.2.2.2.2.2.2.2.2.2.2.2.2.2.2.2.2.2.2.2.2.2.2.2.2.2.2.2.1, r1.2.2.2.2.2.2.2.2.2.2.2.2.2.2.2.2.2.2.2.2.2.2.2.2.2.2.2.2.2.2.1, r1.2.2.2.2.2.2.2.2.2.2.2.2.2.2.2.2.2.2.2.2.2.2.2.2.2.2.2.2.2.2.2.1, r1.2.2.2.2.2.2.2.2.2.2.2.2.2.2.2.2.2.2.2.2.2.2.2.2.2.2.2.2.2.2.2.2.1, r1.2.2.2.2.2.2.2.2.2.2.2.2.2.2.2.2.2.2.2.2.2.2.2.2.2.2.2.2.2.2.2.2.2.1, r1.2.2.2.2.2.2.2.2.2.2.2.2.2.2.2.2.2.2.2.2.2.2.2.2.2.2.2.2.2.2.2.2.2.2.1, r1.2.2.2.2.2.2.2.2.2.2.2.2.2.2.2.2.2.2.2.2.2.2.2.2.2.2.2.2.2.2.2.2.2.2.2.1, r1.2.2.2.2.2.2.2.2.2.2.2.2.2.2.2.2.2.2.2.2.2.2.2.2.2.2.2.2.2.2.2.2.2.2.2.2.1, r1.2.2.2.2.2.2.2.2.2.2.2.2.2.2.2.2.2.2.2.2.2.2.2.2.2.2.2.2.2.2.2.2.2.2.2.2.2.1, r1.2.2.2.2.2.2.2.2.2.2.2.2.2.2.2.2.2.2.2.2.2.2.2.2.2.2.2.2.2.2.2.2.2.2.2.2.2.2.1, r1.2.2.2.2.2.2.2.2.2.2.2.2.2.2.2.2.2.2.2.2.2.2.2.2.2.2.2.2.2.2.2.2.2.2.2.2.2.2.2.1, r1.2.2.2.2.2.2.2.2.2.2.2.2.2.2.2.2.2.2.2.2.2.2.2.2.2.2.2.2.2.2.2.2.2.2.2.2.2.2.2.2.1, r1.2.2.2.2.2.2.2.2.2.2.2.2.2.2.2.2.2.2.2.2.2.2.2.2.2.2.2.2.2.2.2.2.2.2.2.2.2.2.2.2.2.1, r1.2.2.2.2.2.2.2.2.2.2.2.2.2.2.2.2.2.2.2.2.2.2.2.2.2.2.2.2.2.2.2.2.2.2.2.2.2.2.2.2.2.2.1, r1.2.2.2.2.2.2.2.2.2.2.2.2.2.2.2.2.2.2.2.2.2.2.2.2.2.2.2.2.2.2.2.2.2.2.2.2.2.2.2.2.2.2.2.1, r1.2.2.2.2.2.2.2.2.2.2.2.2.2.2.2.2.2.2.2.2.2.2.2.2.2.2.2.2.2.2.2.2.2.2.2.2.2.2.2.2.2.2.2.2.1, r1.2.2.2.2.2.2.2.2.2.2.2.2.2.2.2.2.2.2.2.2.2.2.2.2.2.2.2.2.2.2.2.2.2.2.2.2.2.2.2.2.2.2.2.2.2.1, r1.2.2.2.2.2.2.2.2.2.2.2.2.2.2.2.2.2.2.2.2.2.2.2.2.2.2.2.2.2.2.2.2.2.2.2.2.2.2.2.2.2.2.2.2.2.2)
  else
    if r1.1 = 4 then
      some ((-2), r1.2.2.1, r1.2.2.2.1, r1.2.2.2.2.1, r1.2.2.2.2.2.1, r1.2.2.2.2.2.2.1, r1.2.2.2.2.2.2.2.1, r1.2.2.2.2.2.2.2.2.1, r1.2.2.2.2.2.2.2.2.2.1, r1.2.2.2.2.2.2.2.2.2.2.1, r1.2.2.2.2.2.2.2.2.2.2.2.1, r1.2.2.2.2.2.2.2.2.2.2.2.2.1, r1.2.2.2.2.2.2.2.2.2.2.2.2.2.1, r1.2.2.2.2.2.2.2.2.2.2.2.2.2.2.1, r1.2.2.2.2.2.2.2.2.2.2.2.2.2.2.2.1, r1.2.2.2.2.2.2.2.2.2.2.2.2.2.2.2.2.1, r1.2.2.2.2.2.2.2.2.2.2.2.2.2.2.2.2.2.1, r1.2.2.2.2.2.2.2.2.2.2.2.2.2.2.2.2.2.2.1, r1.2.2.2.2.2.2.2.2.2.2.2.2.2.2.2.2.2.2.2.1, r1.2.2.2.2.2.2.2.2.2.2.2.2.2.2.2.2.2.2.2.2.1, r1.2.2.2.2.2.2.2.2.2.2.2.2.2.2.2.2.2.2.2.2.2.1, r1.2.2.2.2.2.2.2.2.2.2.2.2.2.2.2.2.2.2.2.2.2.2.1, r1.2.2.2.2.2.2.2.2.2.2.2.2.2.2.2.2.2.2.2.2.2.2.2.1, r1.2.2.2.2.2.2.2.2.2.2.2.2.2.2.2.2.2.2.2.2.2.2.2.2.1, r1.2.2.2.2.2.2.2.2.2.2.2.2.2.2.2.2.2.2.2.2.2.2.2.2.2.1, r1.2.2.2.2.2.2.2.2.2.2.2.2.2.2.2.2.2.2.2.2.2.2.2.2.2.2.1, r1.2.2.2.2.2.2.2.2.2.2.2.2.2.2.2.2.2.2.2.2.2.2.2.2.2.2.2.1, r1.2.2.2.2.2.2.2.2.2.2.2.2.2.2.2.2.2.2.2.2.2.2.2.2.2.2.2.2.1, r1.2.2.2.2.2.2.2.2.2.2.2.2.2.2.2.2.2.2.2.2.2.2.2.2.2.2.2.2.2.1, r1.2.2.2.2.2.2.2.2.2.2.2.2.2.2.2.2.2.2.2.2.2.2.2.2.2.2.2.2.2.2.1, r1.2.2.2.2.2.2.2.2.2.2.2.2.2.2.2.2.2.2.2.2.2.2.2.2.2.2.2.2.2.2.2.1, r1.2.2.2.2.2.2.2.2.2.2.2.2.2.2.2.2.2.2.2.2.2.2.2.2.2.2.2.2.2.2.2.2.1, r1.2.2.2.2.2.2.2.2.2.2.2.2.2.2.2.2.2.2.2.2.2.2.2.2.2.2.2.2.2.2.2.2.2.1, r1.2.2.2.2.2.2.2.2.2.2.2.2.2.2.2.2.2.2.2.2.2.2.2.2.2.2.2.2.2.2.2.2.2.2.1, r1.2.2.2.2.2.2.2.2.2.2.2.2.2.2.2.2.2.2.2.2.2.2.2.2.2.2.2.2.2.2.2.2.2.2.2.1, r1.2.2.2.2.2.2.2.2.2.2.2.2.2.2.2.2.2.2.2.2.2.2.2.2.2.2.2.2.2.2.2.2.2.2.2.2.1, r1.2.2.2.2.2.2.2.2.2.2.2.2.2.2.2.2.2.2.2.2.2.2.2.2.2.2.2.2.2.2.2.2.2.2.2.2.2.1, r1.2.2.2.2.2.2.2.2.2.2.2.2.2.2.2.2.2.2.2.2.2.2.2.2.2.2.2.2.2.2.2.2.2.2.2.2.2.2.1, r1.2.2.2.2.2.2.2.2.2.2.2.2.2.2.2.2.2.2.2.2.2.2.2.2.2.2.2.2.2.2.2.2.2.2.2.2.2.2.2.1, r1.2.2.2.2.2.2.2.2.2.2.2.2.2.2.2.2.2.2.2.2.2.2.2.2.2.2.2.2.2.2.2.2.2.2.2.2.2.2.2.2.1, r1.2.2.2.2.2.2.2.2.2.2.2.2.2.2.2.2.2.2.2.2.2.2.2.2.2.2.2.2.2.2.2.2.2.2.2.2.2.2.2.2.2.1, r1.2.2.2.2.2.2.2.2.2.2.2.2.2.2.2.2.2.2.2.2.2.2.2.2.2.2.2.2.2.2.2.2.2.2.2.2.2.2.2.2.2.2.1, r1.2.2.2.2.2.2.2.2.2.2.2.2.2.2.2.2.2.2.2.2.2.2.2.2.2.2.2.2.2.2.2.2.2.2.2.2.2.2.2.2.2.2.2.1, r1.2.2.2.2.2.2.2.2.2.2.2.2.2.2.2.2.2.2.2.2.2.2.2.2.2.2.2.2.2.2.2.2.2.2.2.2.2.2.2.2.2.2.2.2.1, r1.2.2.2.2.2.2.2.2.2.2.2.2.2.2.2.2.2.2.2.2.2.2.2.2.2.2.2.2.2.2.2.2.2.2.2.2.2.2.2.2.2.2.2.2.2.1, r1.2.2.2.2.2.2.2.2.2.2.2.2.2.2.2.2.2.2.2.2.2.2.2.2.2.2.2.2.2.2.2.2.2.2.2.2.2.2.2.2.2.2.2.2.2.2)
    else
      none
def g_L_of (LS : List Nat) (SE : Nat → SV) (p1_book_cauldrons : Int32) (p1_book_spells : Int32) (p1_book_isBroth : Nat → Int32) (p1_book_low : Nat → Int32) (p1_book_high : Nat → Int32) (p1_book_contents_many : Nat → Int32) (p1_book_contents_much : Nat → UInt32) (p1_book_storesIn : Nat → Int32) (p1_book_texts : Nat → Option Nat) (p2 : Int32) (p3 : Int32) : Option (Int32) :=
  gb (g_X11_cauldronOf LS SE p1_book_cauldrons p1_book_spells p1_book_isBroth p1_book_low p1_book_high p1_book_contents_many p1_book_contents_much p1_book_storesIn p1_book_texts p2 p3) fun r1 =>
  if r1.1 = 0 then
    some (r1.2)
  else
    if r1.1 = 1 then
      some ((-1003))
    else
      if r1.1 = 2 then
        some ((-1001))
      else
        none
def g_L_spellOf (LS : List Nat) (SE : Nat → SV) (p1_book_spells : Int32) (p1_book_texts : Nat → Option Nat) (p1_typing_faultAt : Int32) (p1_typing_stores : Int32) (p1_typing_spoons : Int32) (p1_book_isBroth : Nat → Int32) (p1_book_low : Nat → Int32) (p1_book_high : Nat → Int32) (p1_typing_isBroth : Nat → Int32) (p1_typing_low : Nat → Int64) (p1_typing_high : Nat → Int64) (p1_typing_storeIsBroth : Nat → Int32) (p1_typing_storeLow : Nat → Int64) (p1_typing_storeHigh : Nat → Int64) (p1_book_cooked : Nat → Int32) (p2 : Int32) (p3 : Int32) : Option (Int32 × Int32 × Int32 × Int32 × (Nat → Int32) × (Nat → Int64) × (Nat → Int64) × (Nat → Int32) × (Nat → Int64) × (Nat → Int64)) :=
  gb (g_X11_spellOf LS SE p1_book_spells p1_book_texts p1_typing_faultAt p1_typing_stores p1_typing_spoons p1_book_isBroth p1_book_low p1_book_high p1_typing_isBroth p1_typing_low p1_typing_high p1_typing_storeIsBroth p1_typing_storeLow p1_typing_storeHigh p1_book_cooked p2 p3) fun r1 =>
  if r1.1 = 0 then
    some (r1.2.1, r1.2.2.1, r1.2.2.2.1, r1.2.2.2.2.1, r1.2.2.2.2.2.1, r1.2.2.2.2.2.2.1, r1.2.2.2.2.2.2.2.1, r1.2.2.2.2.2.2.2.2.1, r1.2.2.2.2.2.2.2.2.2.1, r1.2.2.2.2.2.2.2.2.2.2)
  else
    if r1.1 = 1 then
      some ((-12), r1.2.2.1, r1.2.2.2.1, r1.2.2.2.2.1, r1.2.2.2.2.2.1, r1.2.2.2.2.2.2.1, r1.2.2.2.2.2.2.2.1, r1.2.2.2.2.2.2.2.2.1, r1.2.2.2.2.2.2.2.2.2.1, r1.2.2.2.2.2.2.2.2.2.2)
    else
      if r1.1 = 2 then
        some ((-11), r1.2.2.1, r1.2.2.2.1, r1.2.2.2.2.1, r1.2.2.2.2.2.1, r1.2.2.2.2.2.2.1, r1.2.2.2.2.2.2.2.1, r1.2.2.2.2.2.2.2.2.1, r1.2.2.2.2.2.2.2.2.2.1, r1.2.2.2.2.2.2.2.2.2.2)
      else
        none
def g_L_token (LS : List Nat) (SE : Nat → SV) (p1_book_spells : Int32) (p1_book_texts : Nat → Option Nat) (p2 : Int32) (p3 : Int32) : Option (Int32) :=
  gb (g_X11_token LS SE p1_book_spells p1_book_texts p2 p3) fun r1 =>
  if r1.1 = 0 then
    some (r1.2)
  else
    if r1.1 = 2 then
      some ((-11))
    else
      if r1.1 = 3 then
        some ((-14))
      else
        none
def g_L_types (LS : List Nat) (SE : Nat → SV) (p1_book_spells : Int32) (p1_book_texts : Nat → Option Nat) (p1_typing_faultAt : Int32) (p1_typing_stores : Int32) (p1_typing_spoons : Int32) (p1_book_isBroth : Nat → Int32) (p1_book_low : Nat → Int32) (p1_book_high : Nat → Int32) (p1_typing_isBroth : Nat → Int32) (p1_typing_low : Nat → Int64) (p1_typing_high : Nat → Int64) (p1_typing_storeIsBroth : Nat → Int32) (p1_typing_storeLow : Nat → Int64) (p1_typing_storeHigh : Nat → Int64) (p2 : Int32) : Option (Int32 × Int32 × Int32 × Int32 × (Nat → Int32) × (Nat → Int64) × (Nat → Int64) × (Nat → Int32) × (Nat → Int64) × (Nat → Int64)) :=
  gb (g_X11_types LS SE p1_book_spells p1_book_texts p1_typing_faultAt p1_typing_stores p1_typing_spoons p1_book_isBroth p1_book_low p1_book_high p1_typing_isBroth p1_typing_low p1_typing_high p1_typing_storeIsBroth p1_typing_storeLow p1_typing_storeHigh p2) fun r1 =>
  if r1.1 = 0 then
    if r1.2.1 = 0 then
      some (0, r1.2.2.1, r1.2.2.2.1, r1.2.2.2.2.1, r1.2.2.2.2.2.1, r1.2.2.2.2.2.2.1, r1.2.2.2.2.2.2.2.1, r1.2.2.2.2.2.2.2.2.1, r1.2.2.2.2.2.2.2.2.2.1, r1.2.2.2.2.2.2.2.2.2.2)
    else
      some (1, r1.2.2.1, r1.2.2.2.1, r1.2.2.2.2.1, r1.2.2.2.2.2.1, r1.2.2.2.2.2.2.1, r1.2.2.2.2.2.2.2.1, r1.2.2.2.2.2.2.2.2.1, r1.2.2.2.2.2.2.2.2.2.1, r1.2.2.2.2.2.2.2.2.2.2)
  else
    if r1.1 = 2 then
      some ((-11), r1.2.2.1, r1.2.2.2.1, r1.2.2.2.2.1, r1.2.2.2.2.2.1, r1.2.2.2.2.2.2.1, r1.2.2.2.2.2.2.2.1, r1.2.2.2.2.2.2.2.2.1, r1.2.2.2.2.2.2.2.2.2.1, r1.2.2.2.2.2.2.2.2.2.2)
    else
      none
def g_L_typesAgain (LS : List Nat) (SE : Nat → SV) (p1_book_spells : Int32) (p1_book_texts : Nat → Option Nat) (p1_typingByStores_isBroth : Nat → Int32) (p1_typingByStores_low : Nat → Int64) (p1_typingByStores_high : Nat → Int64) (p1_book_isBroth : Nat → Int32) (p1_book_low : Nat → Int32) (p1_book_high : Nat → Int32) (p2 : Int32) : Option (Int32 × (Nat → Int32) × (Nat → Int64) × (Nat → Int64)) :=
  gb (g_X11_typesAgain LS SE p1_book_spells p1_book_texts p1_typingByStores_isBroth p1_typingByStores_low p1_typingByStores_high p1_book_isBroth p1_book_low p1_book_high p2) fun r1 =>
  if r1.1 = 0 then
    if r1.2.1 = 0 then
      some (0, r1.2.2.1, r1.2.2.2.1, r1.2.2.2.2)
    else
      some (1, r1.2.2.1, r1.2.2.2.1, r1.2.2.2.2)
  else
    if r1.1 = 2 then
      some ((-11), r1.2.2.1, r1.2.2.2.1, r1.2.2.2.2)
    else
      none
def g_L_fault (LS : List Nat) (SE : Nat → SV) (p1_book_spells : Int32) (p1_book_texts : Nat → Option Nat) (p1_typing_faultAt : Int32) (p1_typing_stores : Int32) (p1_typing_spoons : Int32) (p1_book_isBroth : Nat → Int32) (p1_book_low : Nat → Int32) (p1_book_high : Nat → Int32) (p1_typing_isBroth : Nat → Int32) (p1_typing_low : Nat → Int64) (p1_typing_high : Nat → Int64) (p1_typing_storeIsBroth : Nat → Int32) (p1_typing_storeLow : Nat → Int64) (p1_typing_storeHigh : Nat → Int64) (p2 : Int32) : Option (Int32 × Int32 × Int32 × Int32 × (Nat → Int32) × (Nat → Int64) × (Nat → Int64) × (Nat → Int32) × (Nat → Int64) × (Nat → Int64)) :=
  gb (g_X11_fault LS SE p1_book_spells p1_book_texts p1_typing_faultAt p1_typing_stores p1_typing_spoons p1_book_isBroth p1_book_low p1_book_high p1_typing_isBroth p1_typing_low p1_typing_high p1_typing_storeIsBroth p1_typing_storeLow p1_typing_storeHigh p2) fun r1 =>
  if r1.1 = 0 then
    some (r1.2.1, r1.2.2.1, r1.2.2.2.1, r1.2.2.2.2.1, r1.2.2.2.2.2.1, r1.2.2.2.2.2.2.1, r1.2.2.2.2.2.2.2.1, r1.2.2.2.2.2.2.2.2.1, r1.2.2.2.2.2.2.2.2.2.1, r1.2.2.2.2.2.2.2.2.2.2)
  else
    if r1.1 = 2 then
      some ((-11), r1.2.2.1, r1.2.2.2.1, r1.2.2.2.2.1, r1.2.2.2.2.2.1, r1.2.2.2.2.2.2.1, r1.2.2.2.2.2.2.2.1, r1.2.2.2.2.2.2.2.2.1, r1.2.2.2.2.2.2.2.2.2.1, r1.2.2.2.2.2.2.2.2.2.2)
    else
      if r1.1 = 3 then
        some ((-14), r1.2.2.1, r1.2.2.2.1, r1.2.2.2.2.1, r1.2.2.2.2.2.1, r1.2.2.2.2.2.2.1, r1.2.2.2.2.2.2.2.1, r1.2.2.2.2.2.2.2.2.1, r1.2.2.2.2.2.2.2.2.2.1, r1.2.2.2.2.2.2.2.2.2.2)
      else
        none
def g_L_bound (LS : List Nat) (SE : Nat → SV) (p1_book_spells : Int32) (p1_book_texts : Nat → Option Nat) (p1_typing_faultAt : Int32) (p1_typing_stores : Int32) (p1_typing_spoons : Int32) (p1_book_isBroth : Nat → Int32) (p1_book_low : Nat → Int32) (p1_book_high : Nat → Int32) (p1_typing_isBroth : Nat → Int32) (p1_typing_low : Nat → Int64) (p1_typing_high : Nat → Int64) (p1_typing_storeIsBroth : Nat → Int32) (p1_typing_storeLow : Nat → Int64) (p1_typing_storeHigh : Nat → Int64) (p2 : Int32) (p3 : Int32) (p4 : Int32) : Option (Int32 × Int32 × Int32 × Int32 × (Nat → Int32) × (Nat → Int64) × (Nat → Int64) × (Nat → Int32) × (Nat → Int64) × (Nat → Int64)) :=
  gb (g_X11_bound LS SE p1_book_spells p1_book_texts p1_typing_faultAt p1_typing_stores p1_typing_spoons p1_book_isBroth p1_book_low p1_book_high p1_typing_isBroth p1_typing_low p1_typing_high p1_typing_storeIsBroth p1_typing_storeLow p1_typing_storeHigh p2 p3 p4) fun r1 =>
  if r1.1 = 0 then
    some (r1.2.1, r1.2.2.1, r1.2.2.2.1, r1.2.2.2.2.1, r1.2.2.2.2.2.1, r1.2.2.2.2.2.2.1, r1.2.2.2.2.2.2.2.1, r1.2.2.2.2.2.2.2.2.1, r1.2.2.2.2.2.2.2.2.2.1, r1.2.2.2.2.2.2.2.2.2.2)
  else
    if r1.1 = 2 then
      some ((-1001), r1.2.2.1, r1.2.2.2.1, r1.2.2.2.2.1, r1.2.2.2.2.2.1, r1.2.2.2.2.2.2.1, r1.2.2.2.2.2.2.2.1, r1.2.2.2.2.2.2.2.2.1, r1.2.2.2.2.2.2.2.2.2.1, r1.2.2.2.2.2.2.2.2.2.2)
    else
      if r1.1 = 3 then
        some ((-1004), r1.2.2.1, r1.2.2.2.1, r1.2.2.2.2.1, r1.2.2.2.2.2.1, r1.2.2.2.2.2.2.1, r1.2.2.2.2.2.2.2.1, r1.2.2.2.2.2.2.2.2.1, r1.2.2.2.2.2.2.2.2.2.1, r1.2.2.2.2.2.2.2.2.2.2)
      else
        none
def g_L_would (LS : List Nat) (SE : Nat → SV) (p1_book_cauldrons : Int32) (p1_book_spells : Int32) (p1_book_texts : Nat → Option Nat) (p1_cooking_boilsAt : Int32) (p1_cooking_cause : Int32) (p1_cooking_causeDetail : Int32) (p1_cooking_spoons : Int32) (p1_cooking_now_many : Nat → Int32) (p1_book_contents_many : Nat → Int32) (p1_cooking_now_much : Nat → UInt32) (p1_book_contents_much : Nat → UInt32) (p1_cooking_before_many : Nat → Int32) (p1_cooking_before_much : Nat → UInt32) (p1_cooking_storesIn : Nat → Int32) (p1_book_isBroth : Nat → Int32) (p1_cooking_isBroth : Nat → Int32) (p1_cooking_many : Nat → Int32) (p1_cooking_much : Nat → UInt32) (p1_book_low : Nat → Int32) (p1_book_high : Nat → Int32) (p2 : Int32) (p3 : Int32) : Option (Int32 × Int32 × Int32 × Int32 × Int32 × (Nat → Int32) × (Nat → UInt32) × (Nat → Int32) × (Nat → UInt32) × (Nat → Int32) × (Nat → Int32) × (Nat → Int32) × (Nat → UInt32)) :=
  gb (g_X11_would LS SE p1_book_cauldrons p1_book_spells p1_book_texts p1_cooking_boilsAt p1_cooking_cause p1_cooking_causeDetail p1_cooking_spoons p1_cooking_now_many p1_book_contents_many p1_cooking_now_much p1_book_contents_much p1_cooking_before_many p1_cooking_before_much p1_cooking_storesIn p1_book_isBroth p1_cooking_isBroth p1_cooking_many p1_cooking_much p1_book_low p1_book_high p2 p3) fun r1 =>
  if r1.1 = 0 then
    some (r1.2.1, r1.2.2.1, r1.2.2.2.1, r1.2.2.2.2.1, r1.2.2.2.2.2.1, r1.2.2.2.2.2.2.1, r1.2.2.2.2.2.2.2.1, r1.2.2.2.2.2.2.2.2.1, r1.2.2.2.2.2.2.2.2.2.1, r1.2.2.2.2.2.2.2.2.2.2.1, r1.2.2.2.2.2.2.2.2.2.2.2.1, r1.2.2.2.2.2.2.2.2.2.2.2.2.1, r1.2.2.2.2.2.2.2.2.2.2.2.2.2)
  else
    if r1.1 = 2 then
      gl (-100001 : Int32) fun v2 =>
      some (v2, r1.2.2.1, r1.2.2.2.1, r1.2.2.2.2.1, r1.2.2.2.2.2.1, r1.2.2.2.2.2.2.1, r1.2.2.2.2.2.2.2.1, r1.2.2.2.2.2.2.2.2.1, r1.2.2.2.2.2.2.2.2.2.1, r1.2.2.2.2.2.2.2.2.2.2.1, r1.2.2.2.2.2.2.2.2.2.2.2.1, r1.2.2.2.2.2.2.2.2.2.2.2.2.1, r1.2.2.2.2.2.2.2.2.2.2.2.2.2)
    else
      if r1.1 = 3 then
        gl (-100004 : Int32) fun v3 =>
        some (v3, r1.2.2.1, r1.2.2.2.1, r1.2.2.2.2.1, r1.2.2.2.2.2.1, r1.2.2.2.2.2.2.1, r1.2.2.2.2.2.2.2.1, r1.2.2.2.2.2.2.2.2.1, r1.2.2.2.2.2.2.2.2.2.1, r1.2.2.2.2.2.2.2.2.2.2.1, r1.2.2.2.2.2.2.2.2.2.2.2.1, r1.2.2.2.2.2.2.2.2.2.2.2.2.1, r1.2.2.2.2.2.2.2.2.2.2.2.2.2)
      else
        none
def g_L_wouldAgain (LS : List Nat) (SE : Nat → SV) (p1_book_cauldrons : Int32) (p1_book_spells : Int32) (p1_book_texts : Nat → Option Nat) (p1_cookingByStores_isBroth : Nat → Int32) (p1_cookingByStores_much : Nat → UInt32) (p1_cookingByStores_many : Nat → Int32) (p1_book_isBroth : Nat → Int32) (p1_book_contents_many : Nat → Int32) (p1_book_contents_much : Nat → UInt32) (p1_book_low : Nat → Int32) (p1_book_high : Nat → Int32) (p2 : Int32) (p3 : Int32) : Option (Int32 × (Nat → Int32) × (Nat → UInt32) × (Nat → Int32)) :=
  gb (g_X11_wouldAgain LS SE p1_book_cauldrons p1_book_spells p1_book_texts p1_cookingByStores_isBroth p1_cookingByStores_much p1_cookingByStores_many p1_book_isBroth p1_book_contents_many p1_book_contents_much p1_book_low p1_book_high p2 p3) fun r1 =>
  if r1.1 = 0 then
    some (r1.2.1, r1.2.2.1, r1.2.2.2.1, r1.2.2.2.2)
  else
    if r1.1 = 2 then
      gl (-100001 : Int32) fun v2 =>
      some (v2, r1.2.2.1, r1.2.2.2.1, r1.2.2.2.2)
    else
      if r1.1 = 3 then
        gl (-100004 : Int32) fun v3 =>
        some (v3, r1.2.2.1, r1.2.2.2.1, r1.2.2.2.2)
      else
        none
def g_L_boils (LS : List Nat) (SE : Nat → SV) (p1_book_spells : Int32) (p1_book_texts : Nat → Option Nat) (p1_cooking_boilsAt : Int32) (p1_cooking_cause : Int32) (p1_cooking_causeDetail : Int32) (p1_cooking_spoons : Int32) (p1_cooking_now_many : Nat → Int32) (p1_book_contents_many : Nat → Int32) (p1_cooking_now_much : Nat → UInt32) (p1_book_contents_much : Nat → UInt32) (p1_cooking_before_many : Nat → Int32) (p1_cooking_before_much : Nat → UInt32) (p1_cooking_storesIn : Nat → Int32) (p1_book_isBroth : Nat → Int32) (p1_cooking_isBroth : Nat → Int32) (p1_cooking_many : Nat → Int32) (p1_cooking_much : Nat → UInt32) (p1_book_low : Nat → Int32) (p1_book_high : Nat → Int32) (p2 : Int32) : Option (Int32 × Int32 × Int32 × Int32 × Int32 × (Nat → Int32) × (Nat → UInt32) × (Nat → Int32) × (Nat → UInt32) × (Nat → Int32) × (Nat → Int32) × (Nat → Int32) × (Nat → UInt32)) :=
  gb (g_X11_boils LS SE p1_book_spells p1_book_texts p1_cooking_boilsAt p1_cooking_cause p1_cooking_causeDetail p1_cooking_spoons p1_cooking_now_many p1_book_contents_many p1_cooking_now_much p1_book_contents_much p1_cooking_before_many p1_cooking_before_much p1_cooking_storesIn p1_book_isBroth p1_cooking_isBroth p1_cooking_many p1_cooking_much p1_book_low p1_book_high p2) fun r1 =>
  if r1.1 = 0 then
    some (r1.2.1, r1.2.2.1, r1.2.2.2.1, r1.2.2.2.2.1, r1.2.2.2.2.2.1, r1.2.2.2.2.2.2.1, r1.2.2.2.2.2.2.2.1, r1.2.2.2.2.2.2.2.2.1, r1.2.2.2.2.2.2.2.2.2.1, r1.2.2.2.2.2.2.2.2.2.2.1, r1.2.2.2.2.2.2.2.2.2.2.2.1, r1.2.2.2.2.2.2.2.2.2.2.2.2.1, r1.2.2.2.2.2.2.2.2.2.2.2.2.2)
  else
    if r1.1 = 2 then
      some ((-11), r1.2.2.1, r1.2.2.2.1, r1.2.2.2.2.1, r1.2.2.2.2.2.1, r1.2.2.2.2.2.2.1, r1.2.2.2.2.2.2.2.1, r1.2.2.2.2.2.2.2.2.1, r1.2.2.2.2.2.2.2.2.2.1, r1.2.2.2.2.2.2.2.2.2.2.1, r1.2.2.2.2.2.2.2.2.2.2.2.1, r1.2.2.2.2.2.2.2.2.2.2.2.2.1, r1.2.2.2.2.2.2.2.2.2.2.2.2.2)
    else
      if r1.1 = 3 then
        some ((-14), r1.2.2.1, r1.2.2.2.1, r1.2.2.2.2.1, r1.2.2.2.2.2.1, r1.2.2.2.2.2.2.1, r1.2.2.2.2.2.2.2.1, r1.2.2.2.2.2.2.2.2.1, r1.2.2.2.2.2.2.2.2.2.1, r1.2.2.2.2.2.2.2.2.2.2.1, r1.2.2.2.2.2.2.2.2.2.2.2.1, r1.2.2.2.2.2.2.2.2.2.2.2.2.1, r1.2.2.2.2.2.2.2.2.2.2.2.2.2)
      else
        none
def g_L_lasts (LS : List Nat) (SE : Nat → SV) (p1_book_spells : Int32) (p1_book_texts : Nat → Option Nat) (p1_cooking_boilsAt : Int32) (p1_cooking_cause : Int32) (p1_cooking_causeDetail : Int32) (p1_cooking_spoons : Int32) (p1_cooking_now_many : Nat → Int32) (p1_book_contents_many : Nat → Int32) (p1_cooking_now_much : Nat → UInt32) (p1_book_contents_much : Nat → UInt32) (p1_cooking_before_many : Nat → Int32) (p1_cooking_before_much : Nat → UInt32) (p1_cooking_storesIn : Nat → Int32) (p1_book_isBroth : Nat → Int32) (p1_cooking_isBroth : Nat → Int32) (p1_cooking_many : Nat → Int32) (p1_cooking_much : Nat → UInt32) (p1_book_low : Nat → Int32) (p1_book_high : Nat → Int32) (p2 : Int32) : Option (Int32 × Int32 × Int32 × Int32 × Int32 × (Nat → Int32) × (Nat → UInt32) × (Nat → Int32) × (Nat → UInt32) × (Nat → Int32) × (Nat → Int32) × (Nat → Int32) × (Nat → UInt32)) :=
  gb (g_X11_lasts LS SE p1_book_spells p1_book_texts p1_cooking_boilsAt p1_cooking_cause p1_cooking_causeDetail p1_cooking_spoons p1_cooking_now_many p1_book_contents_many p1_cooking_now_much p1_book_contents_much p1_cooking_before_many p1_cooking_before_much p1_cooking_storesIn p1_book_isBroth p1_cooking_isBroth p1_cooking_many p1_cooking_much p1_book_low p1_book_high p2) fun r1 =>
  if r1.1 = 0 then
    some (r1.2.1, r1.2.2.1, r1.2.2.2.1, r1.2.2.2.2.1, r1.2.2.2.2.2.1, r1.2.2.2.2.2.2.1, r1.2.2.2.2.2.2.2.1, r1.2.2.2.2.2.2.2.2.1, r1.2.2.2.2.2.2.2.2.2.1, r1.2.2.2.2.2.2.2.2.2.2.1, r1.2.2.2.2.2.2.2.2.2.2.2.1, r1.2.2.2.2.2.2.2.2.2.2.2.2.1, r1.2.2.2.2.2.2.2.2.2.2.2.2.2)
  else
    if r1.1 = 2 then
      some ((-11), r1.2.2.1, r1.2.2.2.1, r1.2.2.2.2.1, r1.2.2.2.2.2.1, r1.2.2.2.2.2.2.1, r1.2.2.2.2.2.2.2.1, r1.2.2.2.2.2.2.2.2.1, r1.2.2.2.2.2.2.2.2.2.1, r1.2.2.2.2.2.2.2.2.2.2.1, r1.2.2.2.2.2.2.2.2.2.2.2.1, r1.2.2.2.2.2.2.2.2.2.2.2.2.1, r1.2.2.2.2.2.2.2.2.2.2.2.2.2)
    else
      none
def g_L_ranked (LS : List Nat) (SE : Nat → SV) (p1_book_spells : Int32) (p1_book_texts : Nat → Option Nat) (p2 : Int32) : Option (Int32) :=
  gb (g_X11_ranked LS SE p1_book_spells p1_book_texts p2) fun r1 =>
  if r1.1 = 0 then
    some (r1.2)
  else
    if r1.1 = 3 then
      some ((-14))
    else
      none
def g_L_widest (p1_book_cauldrons : Int32) (p1_book_high : Nat → Int32) (p1_book_low : Nat → Int32) (p1_book_isBroth : Nat → Int32) : Option (Int32) :=
  gb (g_X11_widest p1_book_cauldrons p1_book_high p1_book_low p1_book_isBroth) fun r1 =>
  if r1.1 = 0 then
    some (r1.2)
  else
    if r1.1 = 3 then
      some ((-14))
    else
      none
def g_L_append (p1_inputLength : Int32) (p1_input : Nat → Int32) (p2 : Int32) : Option (Int32 × Int32 × (Nat → Int32)) :=
  gb (g_X11_append p1_inputLength p1_input p2) fun r1 =>
  if r1.1 = 0 then
    some (r1.2.1, r1.2.2.1, r1.2.2.2)
  else
    if r1.1 = 1 then
      some ((-12), r1.2.2.1, r1.2.2.2)
    else
      if r1.1 = 5 then
        some ((-13), r1.2.2.1, r1.2.2.2)
      else
        none
def g_L_reason (p1_refusal_isKept : Int32) (p1_refusal_reason : Int32) (p1_refusal_detail : Int32) (p1_refusal_hasCause : Int32) (p1_refusal_cause : Int32) (p1_refusal_causeDetail : Int32) (p2 : Int32) (p3 : Int32) : Option (Int32) :=
  gb (g_X11_reason p1_refusal_isKept p1_refusal_reason p1_refusal_detail p1_refusal_hasCause p1_refusal_cause p1_refusal_causeDetail p2 p3) fun r1 =>
  if r1.1 = 0 then
    some (r1.2)
  else
    if r1.1 = 3 then
      gl (-2000014 : Int32) fun v2 =>
      some (v2)
    else
      none
def g_L_undo (LS : List Nat) (SE : Nat → SV) (p1_history_next : Int32) (p1_history_changes : Int32) (p1_book_cauldrons : Int32) (p1_book_spells : Int32) (p1_book_cookedSoFar : Int32) (p1_book_storesSoFar : Int32) (p1_history_books : Nat → Option Nat) (bk_cauldrons : Int32) (bk_spells : Int32) (bk_cookedSoFar : Int32) (bk_storesSoFar : Int32) (p1_book_contents_many : Nat → Int32) (bk_contents_many : Nat → Int32) (p1_book_contents_much : Nat → UInt32) (bk_contents_much : Nat → UInt32) (p1_book_isBroth : Nat → Int32) (bk_isBroth : Nat → Int32) (p1_book_low : Nat → Int32) (bk_low : Nat → Int32) (p1_book_high : Nat → Int32) (bk_high : Nat → Int32) (p1_book_storesIn : Nat → Int32) (bk_storesIn : Nat → Int32) (p1_book_texts : Nat → Option Nat) (bk_texts : Nat → Option Nat) (p1_book_cooked : Nat → Int32) (bk_cooked : Nat → Int32) (a_bk : Nat) : Option (Int32 × Int32 × Int32 × Int32 × Int32 × Int32 × Int32 × (Nat → Int32) × (Nat → UInt32) × (Nat → Int32) × (Nat → Int32) × (Nat → Int32) × (Nat → Int32) × (Nat → Option Nat) × (Nat → Int32)) :=
  gb (g_X11_undo LS SE p1_history_next p1_history_changes p1_book_cauldrons p1_book_spells p1_book_cookedSoFar p1_book_storesSoFar p1_history_books bk_cauldrons bk_spells bk_cookedSoFar bk_storesSoFar p1_book_contents_many bk_contents_many p1_book_contents_much bk_contents_much p1_book_isBroth bk_isBroth p1_book_low bk_low p1_book_high bk_high p1_book_storesIn bk_storesIn p1_book_texts bk_texts p1_book_cooked bk_cooked a_bk) fun r1 =>
  if r1.1 = 0 then
    some (r1.2.1, r1.2.2.1, r1.2.2.2.1, r1.2.2.2.2.1, r1.2.2.2.2.2.1, r1.2.2.2.2.2.2.1, r1.2.2.2.2.2.2.2.1, r1.2.2.2.2.2.2.2.2.1, r1.2.2.2.2.2.2.2.2.2.1, r1.2.2.2.2.2.2.2.2.2.2.1, r1.2.2.2.2.2.2.2.2.2.2.2.1, r1.2.2.2.2.2.2.2.2.2.2.2.2.1, r1.2.2.2.2.2.2.2.2.2.2.2.2.2.1, r1.2.2.2.2.2.2.2.2.2.2.2.2.2.2.1, r1.2.2.2.2.2.2.2.2.2.2.2.2.2.2.2)
  else
    if r1.1 = 3 then
      some ((-14), r1.2.2.1, r1.2.2.2.1, r1.2.2.2.2.1, r1.2.2.2.2.2.1, r1.2.2.2.2.2.2.1, r1.2.2.2.2.2.2.2.1, r1.2.2.2.2.2.2.2.2.1, r1.2.2.2.2.2.2.2.2.2.1, r1.2.2.2.2.2.2.2.2.2.2.1, r1.2.2.2.2.2.2.2.2.2.2.2.1, r1.2.2.2.2.2.2.2.2.2.2.2.2.1, r1.2.2.2.2.2.2.2.2.2.2.2.2.2.1, r1.2.2.2.2.2.2.2.2.2.2.2.2.2.2.1, r1.2.2.2.2.2.2.2.2.2.2.2.2.2.2.2)
    else
      none
def g_L_isDigit (p1 : Int32) : Option (Int32) :=
  if p1 < 48 then
    some (0)
  else
    if 57 < p1 then
      some (0)
    else
      some (1)
def g_L_unlike_b25 (n_p1 : Nat) (n_p2 : Nat) (p1 : Nat → Int32) (p2 : Nat → Int32) (k4 : Int32 → Int32 → Option (Int32)) (x3_25 : Int32) (s0_25 : Int32) (s1_25 : Int32) : Option (Int32) :=
  gl (s0_25 + s1_25) fun v1 =>
  gl (x3_25 + 1) fun v2 =>
  k4 v1 v2
def g_L_unlike_b4 (n_p1 : Nat) (n_p2 : Nat) (p1 : Nat → Int32) (p2 : Nat → Int32) : Nat → Int32 → Int32 → Option (Int32)
  | 0, _, _ => none
  | n + 1, x2_4, x3_4 =>
    if (nI n_p1) ≤ x3_4 then
      some (x2_4)
    else
      gc (inb x3_4 n_p1) <|
      gc (inb x3_4 n_p2) <|
      if (p1 x3_4.toNatClampNeg) = (p2 x3_4.toNatClampNeg) then
        g_L_unlike_b25 n_p1 n_p2 p1 p2 (g_L_unlike_b4 n_p1 n_p2 p1 p2 n) x3_4 x2_4 0
      else
        g_L_unlike_b25 n_p1 n_p2 p1 p2 (g_L_unlike_b4 n_p1 n_p2 p1 p2 n) x3_4 x2_4 1
def g_L_unlike (n_p1 : Nat) (n_p2 : Nat) (p1 : Nat → Int32) (p2 : Nat → Int32) : Option (Int32) :=
  g_L_unlike_b4 n_p1 n_p2 p1 p2 100 0 0
