def g_X5_isNegative (p1 : UInt64) : Option (Int32) :=
  if (Op.cmpValue (FP.dcmp p1 FP.dconst0) .g) < 0 then
    some (1)
  else
    if (Op.cmpValue (FP.dcmp p1 FP.dconst0) .l) = 0 then
      gc (n64 (FP.ddiv FP.dconst1 p1)) <|
      if 0 ≤ (Op.cmpValue (FP.dcmp (FP.ddiv FP.dconst1 p1) FP.dconst0) .g) then
        some (0)
      else
        some (1)
    else
      some (0)
def g_X5_differ (p1 : UInt32) (p2 : UInt32) : Option (Int32) :=
  if (Op.cmpValue (FP.fcmp p1 p2) .l) = 0 then
    gc (n64 (FP.f2d p1)) <|
    gb (g_X5_isNegative (FP.f2d p1)) fun r1 =>
    gc (n64 (FP.f2d p2)) <|
    gb (g_X5_isNegative (FP.f2d p2)) fun r2 =>
    if r1 = r2 then
      some (0)
    else
      some (1)
  else
    some (1)
def g_X5_held (p1 : UInt32) : Option (UInt32) :=
  if 0 ≤ (Op.cmpValue (FP.fcmp p1 (3323739136 : UInt32)) .g) then
    if (Op.cmpValue (FP.fcmp p1 (1176255488 : UInt32)) .l) ≤ 0 then
      some (p1)
    else
      gl (1176255488 : UInt32) fun v1 =>
      some (v1)
  else
    gl (3323739136 : UInt32) fun v2 =>
    some (v2)
def g_X5_toBroth (p1 : Int32) : Option (UInt32) :=
  gb (g_X5_held (FP.i2f p1)) fun r1 =>
  some (r1)
def g_X5_toDrams (p1 : UInt32) : Option (Int32) :=
  gl (if ((-99) : Int32) < (if (FP.f2i p1) < (99 : Int32) then (FP.f2i p1) else (99 : Int32)) then (if (FP.f2i p1) < (99 : Int32) then (FP.f2i p1) else (99 : Int32)) else ((-99) : Int32)) fun v1 =>
  some (v1)
def g_X5_ofBroth_b26 (s0_26 : UInt32) : Option (UInt32) :=
  gb (g_X5_held s0_26) fun r2 =>
  some (r2)
def g_X5_ofBroth (p1 : Int32) (p2 : UInt32) (p3 : UInt32) : Option (UInt32) :=
  if p1 = 2 then
    gc (n32 (FP.fadd p2 p3)) <|
    gb (g_X5_held (FP.fadd p2 p3)) fun r1 =>
    some (r1)
  else
    if p1 = 3 then
      gc (n32 (FP.fsub p2 p3)) <|
      g_X5_ofBroth_b26 (FP.fsub p2 p3)
    else
      gc (n32 (FP.fmul p2 p3)) <|
      g_X5_ofBroth_b26 (FP.fmul p2 p3)
def g_X5_ofDrams (p1 : Int32) (p2 : Int64) (p3 : Int64) : Option (Int64) :=
  if p1 = 2 then
    gl (p2 + p3) fun v3 =>
    some (v3)
  else
    if p1 = 3 then
      gl (p2 - p3) fun v2 =>
      some (v2)
    else
      gl (p2 * p3) fun v1 =>
      some (v1)
def g_X5_excess (p1 : Int64) : Option (Int32) :=
  if 0 ≤ (lg_cmp p1 (-1000000 : Int64)) then
    if (lg_cmp p1 (1000000 : Int64)) ≤ 0 then
      some (0)
    else
      some (1)
  else
    some ((-1))
def g_X5_lowest (p1 : Int32) (p2 : Int64) (p3 : Int64) (p4 : Int64) (p5 : Int64) : Option (Int64) :=
  if p1 = 2 then
    gl (p2 + p4) fun v3 =>
    some (v3)
  else
    if p1 = 3 then
      gl (p2 - p5) fun v2 =>
      some (v2)
    else
      gl (if (if (p3 * p5) < (p3 * p4) then (p3 * p5) else (p3 * p4)) < (if (p2 * p5) < (p2 * p4) then (p2 * p5) else (p2 * p4)) then (if (p3 * p5) < (p3 * p4) then (p3 * p5) else (p3 * p4)) else (if (p2 * p5) < (p2 * p4) then (p2 * p5) else (p2 * p4))) fun v1 =>
      some (v1)
def g_X5_highest (p1 : Int32) (p2 : Int64) (p3 : Int64) (p4 : Int64) (p5 : Int64) : Option (Int64) :=
  if p1 = 2 then
    gl (p3 + p5) fun v3 =>
    some (v3)
  else
    if p1 = 3 then
      gl (p3 - p4) fun v2 =>
      some (v2)
    else
      gl (if (if (p3 * p5) < (p3 * p4) then (p3 * p4) else (p3 * p5)) < (if (p2 * p5) < (p2 * p4) then (p2 * p4) else (p2 * p5)) then (if (p2 * p5) < (p2 * p4) then (p2 * p4) else (p2 * p5)) else (if (p3 * p5) < (p3 * p4) then (p3 * p4) else (p3 * p5))) fun v1 =>
      some (v1)
def g_X5_exponentOf_b35 (p2 : Int32) : Nat → Int32 → UInt64 → Option (Int32)
  | 0, _, _ => none
  | n + 1, x3_35, x4_35 =>
    if 0 ≤ (Op.cmpValue (FP.dcmp x4_35 FP.dconst1) .g) then
      some (x3_35)
    else
      if x3_35 ≤ p2 then
        some (x3_35)
      else
        gc (n64 (FP.dmul x4_35 (4611686018427387904 : UInt64))) <|
        gl (FP.dmul x4_35 (4611686018427387904 : UInt64)) fun v1 =>
        gl (x3_35 + (-1)) fun v2 =>
        (g_X5_exponentOf_b35 p2 n) v2 v1
def g_X5_exponentOf_b5 (p2 : Int32) : Nat → Int32 → UInt64 → Option (Int32)
  | 0, _, _ => none
  | n + 1, x3_5, x4_5 =>
    if (Op.cmpValue (FP.dcmp x4_5 (4611686018427387904 : UInt64)) .l) < 0 then
      g_X5_exponentOf_b35 p2 2200 x3_5 x4_5
    else
      if 1023 ≤ x3_5 then
        g_X5_exponentOf_b35 p2 2200 x3_5 x4_5
      else
        gc (n64 (FP.ddiv x4_5 (4611686018427387904 : UInt64))) <|
        gl (FP.ddiv x4_5 (4611686018427387904 : UInt64)) fun v3 =>
        gl (x3_5 + 1) fun v4 =>
        (g_X5_exponentOf_b5 p2 n) v4 v3
def g_X5_exponentOf (p1 : UInt64) (p2 : Int32) : Option (Int32) :=
  g_X5_exponentOf_b5 p2 2200 0 p1
def g_X5_scale_b25 : Nat → UInt64 → Int32 → Option (UInt64)
  | 0, _, _ => none
  | n + 1, x3_25, x5_25 =>
    if 0 ≤ x5_25 then
      some (x3_25)
    else
      gc (n64 (FP.dmul x3_25 (4611686018427387904 : UInt64))) <|
      gl (FP.dmul x3_25 (4611686018427387904 : UInt64)) fun v1 =>
      gl (x5_25 + 1) fun v2 =>
      (g_X5_scale_b25 n) v1 v2
def g_X5_scale_b5 (p2 : Int32) : Nat → UInt64 → Int32 → Option (UInt64)
  | 0, _, _ => none
  | n + 1, x3_5, x5_5 =>
    if x5_5 ≤ 0 then
      g_X5_scale_b25 1200 x3_5 p2
    else
      gc (n64 (FP.ddiv x3_5 (4611686018427387904 : UInt64))) <|
      gl (FP.ddiv x3_5 (4611686018427387904 : UInt64)) fun v3 =>
      gl (x5_5 + (-1)) fun v4 =>
      (g_X5_scale_b5 p2 n) v3 v4
def g_X5_scale (p1 : UInt64) (p2 : Int32) : Option (UInt64) :=
  g_X5_scale_b5 p2 1200 p1 p2
def g_X5_bitsOf_b29 (x2_29 : UInt64) (s0_29 : Int32) : Option (Int32) :=
  if (Op.cmpValue (FP.dcmp x2_29 FP.dconst0) .l) = 0 then
    some (s0_29)
  else
    gb (g_X5_exponentOf x2_29 (-126 : Int32)) fun r2 =>
    gb (g_X5_scale x2_29 r2) fun r3 =>
    if 0 ≤ (Op.cmpValue (FP.dcmp r3 FP.dconst1) .g) then
      gc (n64 (FP.dsub r3 FP.dconst1)) <|
      gc (n64 (FP.dmul (FP.dsub r3 FP.dconst1) (4710765210229538816 : UInt64))) <|
      gl ((s0_29 ||| ((r2 + 127) <<< (23 &&& 31))) ||| (FP.d2i (FP.dmul (FP.dsub r3 FP.dconst1) (4710765210229538816 : UInt64)))) fun v4 =>
      some (v4)
    else
      gc (n64 (FP.dmul r3 (4710765210229538816 : UInt64))) <|
      gl (s0_29 ||| (FP.d2i (FP.dmul r3 (4710765210229538816 : UInt64)))) fun v5 =>
      some (v5)
def g_X5_bitsOf_b18 (x1_18 : Int32) (s0_18 : UInt64) : Option (Int32) :=
  if x1_18 = 0 then
    g_X5_bitsOf_b29 s0_18 0
  else
    g_X5_bitsOf_b29 s0_18 (-2147483648 : Int32)
def g_X5_bitsOf (p1 : UInt32) : Option (Int32) :=
  gc (n64 (FP.f2d p1)) <|
  gb (g_X5_isNegative (FP.f2d p1)) fun r1 =>
  if r1 = 0 then
    gc (n64 (FP.f2d p1)) <|
    g_X5_bitsOf_b18 r1 (FP.f2d p1)
  else
    gc (n64 (FP.f2d p1)) <|
    g_X5_bitsOf_b18 r1 (FP.dneg (FP.f2d p1))
def g_X5_longBitsOf_b27 (x3_27 : UInt64) (s0_27 : Int64) : Option (Int64) :=
  if (Op.cmpValue (FP.dcmp x3_27 FP.dconst0) .l) = 0 then
    some (s0_27)
  else
    gb (g_X5_exponentOf x3_27 (-1022 : Int32)) fun r2 =>
    gb (g_X5_scale x3_27 r2) fun r3 =>
    if 0 ≤ (Op.cmpValue (FP.dcmp r3 FP.dconst1) .g) then
      gc (n64 (FP.dsub r3 FP.dconst1)) <|
      gc (n64 (FP.dmul (FP.dsub r3 FP.dconst1) (4841369599423283200 : UInt64))) <|
      gl ((s0_27 ||| (((r2 + 1023).toInt64) <<< ((52 : Int32).toInt64 &&& 63))) ||| (FP.d2l (FP.dmul (FP.dsub r3 FP.dconst1) (4841369599423283200 : UInt64)))) fun v4 =>
      some (v4)
    else
      gc (n64 (FP.dmul r3 (4841369599423283200 : UInt64))) <|
      gl (s0_27 ||| (FP.d2l (FP.dmul r3 (4841369599423283200 : UInt64)))) fun v5 =>
      some (v5)
def g_X5_longBitsOf_b15 (x2_15 : Int32) (s0_15 : UInt64) : Option (Int64) :=
  if x2_15 = 0 then
    g_X5_longBitsOf_b27 s0_15 0
  else
    g_X5_longBitsOf_b27 s0_15 (-9223372036854775808 : Int64)
def g_X5_longBitsOf (p1 : UInt64) : Option (Int64) :=
  gb (g_X5_isNegative p1) fun r1 =>
  if r1 = 0 then
    g_X5_longBitsOf_b15 r1 p1
  else
    g_X5_longBitsOf_b15 r1 (FP.dneg p1)
def g_X1_copy_b2 (p1_many : Nat → Int32) (p1_much : Nat → UInt32) : Nat → (Nat → Int32) → (Nat → UInt32) → Int32 → Option ((Nat → Int32) × (Nat → UInt32))
  | 0, _, _, _ => none
  | n + 1, t_many_2, t_much_2, x2_2 =>
    if 6 ≤ x2_2 then
      some (t_many_2, t_much_2)
    else
      gc (inb x2_2 6) <|
      gc (inb x2_2 6) <|
      gc (inb x2_2 6) <|
      gc (inb x2_2 6) <|
      gl (x2_2 + 1) fun v1 =>
      (g_X1_copy_b2 p1_many p1_much n) (upd t_many_2 x2_2.toNatClampNeg (p1_many x2_2.toNatClampNeg)) (vf_upd t_much_2 x2_2.toNatClampNeg (p1_much x2_2.toNatClampNeg)) v1
def g_X1_copy (t_many : Nat → Int32) (p1_many : Nat → Int32) (t_much : Nat → UInt32) (p1_much : Nat → UInt32) : Option ((Nat → Int32) × (Nat → UInt32)) :=
  g_X1_copy_b2 p1_many p1_much 100 t_many t_much 0
def g_X0_setUp (t_cauldrons : Int32) (t_isBroth : Nat → Int32) (t_low : Nat → Int32) (t_high : Nat → Int32) (t_contents_many : Nat → Int32) (t_contents_much : Nat → UInt32) (t_storesIn : Nat → Int32) (p1 : Int32) (p2 : Int32) (p3 : Int32) : Option (Int32 × Int32 × (Nat → Int32) × (Nat → Int32) × (Nat → Int32) × (Nat → Int32) × (Nat → UInt32) × (Nat → Int32)) :=
  if t_cauldrons < 0 then
    some ((-1), t_cauldrons, t_isBroth, t_low, t_high, t_contents_many, t_contents_much, t_storesIn)
  else
    if t_cauldrons < 6 then
      gl (t_cauldrons + 1) fun v1 =>
      gc (inb t_cauldrons 6) <|
      gc (inb t_cauldrons 6) <|
      gc (inb t_cauldrons 6) <|
      gc (inb t_cauldrons 6) <|
      gc (inb t_cauldrons 6) <|
      gc (inb t_cauldrons 6) <|
      some (t_cauldrons, v1, (upd t_isBroth t_cauldrons.toNatClampNeg (vp_nar .boolean p1)), (upd t_low t_cauldrons.toNatClampNeg p2), (upd t_high t_cauldrons.toNatClampNeg p3), (upd t_contents_many t_cauldrons.toNatClampNeg (if p2 < (if 0 < p3 then 0 else p3) then (if 0 < p3 then 0 else p3) else p2)), (vf_upd t_contents_much t_cauldrons.toNatClampNeg FP.fconst0), (upd t_storesIn t_cauldrons.toNatClampNeg 0))
    else
      some ((-1), t_cauldrons, t_isBroth, t_low, t_high, t_contents_many, t_contents_much, t_storesIn)
def g_X0_holds (t_low : Nat → Int32) (t_high : Nat → Int32) (p1 : Int32) (p2 : Int64) : Option (Int32) :=
  gc (inb p1 6) <|
  if (lg_cmp p2 ((t_low p1.toNatClampNeg).toInt64)) < 0 then
    some (0)
  else
    gc (inb p1 6) <|
    if 0 < (lg_cmp p2 ((t_high p1.toNatClampNeg).toInt64)) then
      some (0)
    else
      some (1)
def g_X1_cut (t_many : Nat → Int32) (t_much : Nat → UInt32) (p1 : Int32) (p2 : Int32) : Option (Int32) :=
  if p1 = 0 then
    gc (inb p2 6) <|
    gl (t_many p2.toNatClampNeg) fun v1 =>
    some (v1)
  else
    gc (inb p2 6) <|
    gl (FP.f2i (t_much p2.toNatClampNeg)) fun v2 =>
    some (v2)
def g_X0_cutContent (t_isBroth : Nat → Int32) (t_contents_many : Nat → Int32) (t_contents_much : Nat → UInt32) (p1 : Int32) : Option (Int32) :=
  gc (inb p1 6) <|
  gb (g_X1_cut t_contents_many t_contents_much (t_isBroth p1.toNatClampNeg) p1) fun r1 =>
  some (r1)
def g_X0_cauldronsOfBroth_b24 (t_cauldrons : Int32) (t_isBroth : Nat → Int32) (k4 : Int32 → Int32 → Option (Int32)) (x1_24 : Int32) (x2_24 : Int32) : Option (Int32) :=
  gl (x2_24 + 1) fun v1 =>
  k4 x1_24 v1
def g_X0_cauldronsOfBroth_b4 (t_cauldrons : Int32) (t_isBroth : Nat → Int32) : Nat → Int32 → Int32 → Option (Int32)
  | 0, _, _ => none
  | n + 1, x1_4, x2_4 =>
    if t_cauldrons ≤ x2_4 then
      some (x1_4)
    else
      gc (inb x2_4 6) <|
      if (t_isBroth x2_4.toNatClampNeg) = 0 then
        g_X0_cauldronsOfBroth_b24 t_cauldrons t_isBroth (g_X0_cauldronsOfBroth_b4 t_cauldrons t_isBroth n) x1_4 x2_4
      else
        gl (x1_4 + 1) fun v2 =>
        g_X0_cauldronsOfBroth_b24 t_cauldrons t_isBroth (g_X0_cauldronsOfBroth_b4 t_cauldrons t_isBroth n) v2 x2_4
def g_X0_cauldronsOfBroth (t_cauldrons : Int32) (t_isBroth : Nat → Int32) : Option (Int32) :=
  g_X0_cauldronsOfBroth_b4 t_cauldrons t_isBroth 100 0 0
def g_X0_allDrams_b33 (t_cauldrons : Int32) (t_isBroth : Nat → Int32) (t_contents_many : Nat → Int32) (k4 : Int32 → Int32 → Option (Int32)) (x1_33 : Int32) (x2_33 : Int32) : Option (Int32) :=
  gl (x2_33 + 1) fun v1 =>
  k4 x1_33 v1
def g_X0_allDrams_b4 (t_cauldrons : Int32) (t_isBroth : Nat → Int32) (t_contents_many : Nat → Int32) : Nat → Int32 → Int32 → Option (Int32)
  | 0, _, _ => none
  | n + 1, x1_4, x2_4 =>
    if t_cauldrons ≤ x2_4 then
      some (x1_4)
    else
      gc (inb x2_4 6) <|
      if (t_isBroth x2_4.toNatClampNeg) = 0 then
        gc (inb x2_4 6) <|
        gl (x1_4 + (t_contents_many x2_4.toNatClampNeg)) fun v2 =>
        g_X0_allDrams_b33 t_cauldrons t_isBroth t_contents_many (g_X0_allDrams_b4 t_cauldrons t_isBroth t_contents_many n) v2 x2_4
      else
        g_X0_allDrams_b33 t_cauldrons t_isBroth t_contents_many (g_X0_allDrams_b4 t_cauldrons t_isBroth t_contents_many n) x1_4 x2_4
def g_X0_allDrams (t_cauldrons : Int32) (t_isBroth : Nat → Int32) (t_contents_many : Nat → Int32) : Option (Int32) :=
  g_X0_allDrams_b4 t_cauldrons t_isBroth t_contents_many 100 0 0
def g_X8_lastAhead_b42 (t_kinds : Nat → Int32) (t_values : Nat → Int32) (p1 : Int32) (p2 : Int32) (k12 : Int32 → Option (Int32)) (x4_42 : Int32) : Option (Int32) :=
  gl (x4_42 + (-1)) fun v2 =>
  k12 v2
def g_X8_lastAhead_b12 (t_kinds : Nat → Int32) (t_values : Nat → Int32) (p1 : Int32) (p2 : Int32) : Nat → Int32 → Option (Int32)
  | 0, _ => none
  | n + 1, x4_12 =>
    if x4_12 < 0 then
      some ((-1))
    else
      gc (inb x4_12 24) <|
      if (t_kinds x4_12.toNatClampNeg) = p1 then
        gc (inb x4_12 24) <|
        if (t_values x4_12.toNatClampNeg) = p2 then
          some (x4_12)
        else
          g_X8_lastAhead_b42 t_kinds t_values p1 p2 (g_X8_lastAhead_b12 t_kinds t_values p1 p2 n) x4_12
      else
        g_X8_lastAhead_b42 t_kinds t_values p1 p2 (g_X8_lastAhead_b12 t_kinds t_values p1 p2 n) x4_12
def g_X8_lastAhead (t_tokens : Int32) (t_kinds : Nat → Int32) (t_values : Nat → Int32) (p1 : Int32) (p2 : Int32) (p3 : Int32) : Option (Int32) :=
  gl ((if t_tokens < p3 then t_tokens else p3) - 1) fun v1 =>
  g_X8_lastAhead_b12 t_kinds t_values p1 p2 100 v1
def g_X1_differences_b46 (t_many : Nat → Int32) (p1_many : Nat → Int32) (t_much : Nat → UInt32) (p1_much : Nat → UInt32) (k4 : Int32 → Int32 → Option (Int32)) (x2_46 : Int32) (x3_46 : Int32) : Option (Int32) :=
  gl (x3_46 + 1) fun v1 =>
  k4 x2_46 v1
def g_X1_differences_b43 (t_many : Nat → Int32) (p1_many : Nat → Int32) (t_much : Nat → UInt32) (p1_much : Nat → UInt32) (k4 : Int32 → Int32 → Option (Int32)) (x2_43 : Int32) (x3_43 : Int32) : Option (Int32) :=
  gl (x2_43 + 1) fun v2 =>
  g_X1_differences_b46 t_many p1_many t_much p1_much k4 v2 x3_43
def g_X1_differences_b4 (t_many : Nat → Int32) (p1_many : Nat → Int32) (t_much : Nat → UInt32) (p1_much : Nat → UInt32) : Nat → Int32 → Int32 → Option (Int32)
  | 0, _, _ => none
  | n + 1, x2_4, x3_4 =>
    if 6 ≤ x3_4 then
      some (x2_4)
    else
      gc (inb x3_4 6) <|
      gc (inb x3_4 6) <|
      if (t_many x3_4.toNatClampNeg) = (p1_many x3_4.toNatClampNeg) then
        gc (inb x3_4 6) <|
        gc (inb x3_4 6) <|
        gb (g_X5_differ (t_much x3_4.toNatClampNeg) (p1_much x3_4.toNatClampNeg)) fun r3 =>
        if r3 = 0 then
          g_X1_differences_b46 t_many p1_many t_much p1_much (g_X1_differences_b4 t_many p1_many t_much p1_much n) x2_4 x3_4
        else
          g_X1_differences_b43 t_many p1_many t_much p1_much (g_X1_differences_b4 t_many p1_many t_much p1_much n) x2_4 x3_4
      else
        g_X1_differences_b43 t_many p1_many t_much p1_much (g_X1_differences_b4 t_many p1_many t_much p1_much n) x2_4 x3_4
def g_X1_differences (t_many : Nat → Int32) (p1_many : Nat → Int32) (t_much : Nat → UInt32) (p1_much : Nat → UInt32) : Option (Int32) :=
  g_X1_differences_b4 t_many p1_many t_much p1_much 100 0 0
def g_X7_keep (t_isKept : Int32) (t_reason : Int32) (t_detail : Int32) (t_hasCause : Int32) (p1 : Int32) (p2 : Int32) : Option (Int32 × Int32 × Int32 × Int32) :=
  some (1, p1, p2, 0)
def g_X7_keepWithCause (t_isKept : Int32) (t_reason : Int32) (t_detail : Int32) (t_hasCause : Int32) (t_cause : Int32) (t_causeDetail : Int32) (p1 : Int32) (p2 : Int32) (p3 : Int32) (p4 : Int32) : Option (Int32 × Int32 × Int32 × Int32 × Int32 × Int32) :=
  gb (g_X7_keep t_isKept t_reason t_detail t_hasCause p1 p2) fun r1 =>
  some (r1.1, r1.2.1, r1.2.2.1, 1, p3, p4)
def g_X6_isLetter (p1 : Int32) : Option (Int32) :=
  if p1 < 97 then
    some (0)
  else
    if 103 ≤ p1 then
      some (0)
    else
      some (1)
def g_X6_fitsToken_b151 (t_tokens : Int32) (t_mostSpoons : Int32) (t_firsts_151 : Nat → Int32) (t_kinds_151 : Nat → Int32) (t_lastParts_151 : Nat → Int32) (t_parts_151 : Nat → Int32) (t_spoonPlaces_151 : Nat → Int32) (t_values_151 : Nat → Int32) (x6_151 : Int32) : Option (Int32 × Int32 × Int32 × Int32 × (Nat → Int32) × (Nat → Int32) × (Nat → Int32) × (Nat → Int32) × (Nat → Int32) × (Nat → Int32)) :=
  gl (if t_mostSpoons < x6_151 then x6_151 else t_mostSpoons) fun v2 =>
  gl (t_tokens + 1) fun v3 =>
  some (1, v3, v2, x6_151, t_firsts_151, t_kinds_151, t_values_151, t_parts_151, t_spoonPlaces_151, t_lastParts_151)
def g_X6_fitsToken_b132 (t_tokens : Int32) (t_mostSpoons : Int32) (t_spoonPlaces : Nat → Int32) (t_lastParts : Nat → Int32) (p5 : Int32) (t_firsts_132 : Nat → Int32) (t_kinds_132 : Nat → Int32) (t_parts_132 : Nat → Int32) (t_values_132 : Nat → Int32) (x6_132 : Int32) (s2_132 : Int32) : Option (Int32 × Int32 × Int32 × Int32 × (Nat → Int32) × (Nat → Int32) × (Nat → Int32) × (Nat → Int32) × (Nat → Int32) × (Nat → Int32)) :=
  gc (inb t_tokens 24) <|
  if p5 ≤ 0 then
    g_X6_fitsToken_b151 t_tokens t_mostSpoons t_firsts_132 t_kinds_132 (upd t_lastParts t_tokens.toNatClampNeg s2_132) t_parts_132 t_spoonPlaces t_values_132 x6_132
  else
    gc (inb (x6_132 - 1) 5) <|
    g_X6_fitsToken_b151 t_tokens t_mostSpoons t_firsts_132 t_kinds_132 (upd t_lastParts t_tokens.toNatClampNeg s2_132) t_parts_132 (upd t_spoonPlaces (x6_132 - 1).toNatClampNeg t_tokens) t_values_132 x6_132
def g_X6_fitsToken_b102 (t_tokens : Int32) (t_mostSpoons : Int32) (t_spoons : Int32) (t_parts : Nat → Int32) (t_spoonPlaces : Nat → Int32) (t_lastParts : Nat → Int32) (p4 : Int32) (p5 : Int32) (t_firsts_102 : Nat → Int32) (t_kinds_102 : Nat → Int32) (t_values_102 : Nat → Int32) (x6_102 : Int32) (s2_102 : Int32) : Option (Int32 × Int32 × Int32 × Int32 × (Nat → Int32) × (Nat → Int32) × (Nat → Int32) × (Nat → Int32) × (Nat → Int32) × (Nat → Int32)) :=
  gc (inb t_tokens 24) <|
  if p4 ≤ 1 then
    g_X6_fitsToken_b132 t_tokens t_mostSpoons t_spoonPlaces t_lastParts p5 t_firsts_102 t_kinds_102 (upd t_parts t_tokens.toNatClampNeg s2_102) t_values_102 x6_102 (-1)
  else
    gc (inb (t_spoons - 1) 5) <|
    g_X6_fitsToken_b132 t_tokens t_mostSpoons t_spoonPlaces t_lastParts p5 t_firsts_102 t_kinds_102 (upd t_parts t_tokens.toNatClampNeg s2_102) t_values_102 x6_102 (t_spoonPlaces (t_spoons - 1).toNatClampNeg)
def g_X6_fitsToken (t_tokens : Int32) (t_mostSpoons : Int32) (t_spoons : Int32) (t_firsts : Nat → Int32) (t_kinds : Nat → Int32) (t_values : Nat → Int32) (t_parts : Nat → Int32) (t_spoonPlaces : Nat → Int32) (t_lastParts : Nat → Int32) (p1 : Int32) (p2 : Int32) (p3 : Int32) (p4 : Int32) (p5 : Int32) : Option (Int32 × Int32 × Int32 × Int32 × (Nat → Int32) × (Nat → Int32) × (Nat → Int32) × (Nat → Int32) × (Nat → Int32) × (Nat → Int32)) :=
  gl ((t_spoons - p4) + p5) fun v1 =>
  if t_spoons < p4 then
    some (0, t_tokens, t_mostSpoons, t_spoons, t_firsts, t_kinds, t_values, t_parts, t_spoonPlaces, t_lastParts)
  else
    if 5 < v1 then
      some (0, t_tokens, t_mostSpoons, t_spoons, t_firsts, t_kinds, t_values, t_parts, t_spoonPlaces, t_lastParts)
    else
      if ((t_tokens + 1) + v1) ≤ 24 then
        gc (inb t_tokens 24) <|
        gc (inb t_tokens 24) <|
        gc (inb t_tokens 24) <|
        if p4 ≤ 0 then
          g_X6_fitsToken_b102 t_tokens t_mostSpoons t_spoons t_parts t_spoonPlaces t_lastParts p4 p5 (upd t_firsts t_tokens.toNatClampNeg (vp_nar .char p2)) (upd t_kinds t_tokens.toNatClampNeg p1) (upd t_values t_tokens.toNatClampNeg p3) v1 (-1)
        else
          gc (inb (t_spoons - p4) 5) <|
          g_X6_fitsToken_b102 t_tokens t_mostSpoons t_spoons t_parts t_spoonPlaces t_lastParts p4 p5 (upd t_firsts t_tokens.toNatClampNeg (vp_nar .char p2)) (upd t_kinds t_tokens.toNatClampNeg p1) (upd t_values t_tokens.toNatClampNeg p3) v1 (t_spoonPlaces (t_spoons - p4).toNatClampNeg)
      else
        some (0, t_tokens, t_mostSpoons, t_spoons, t_firsts, t_kinds, t_values, t_parts, t_spoonPlaces, t_lastParts)
def g_X6_fitsStore (t_tokens : Int32) (t_stores : Int32) (t_mostSpoons : Int32) (t_spoons : Int32) (t_firsts : Nat → Int32) (t_kinds : Nat → Int32) (t_values : Nat → Int32) (t_parts : Nat → Int32) (t_spoonPlaces : Nat → Int32) (t_lastParts : Nat → Int32) (p1 : Int32) : Option (Int32 × Int32 × Int32 × Int32 × Int32 × (Nat → Int32) × (Nat → Int32) × (Nat → Int32) × (Nat → Int32) × (Nat → Int32) × (Nat → Int32)) :=
  gl (t_stores + 1) fun v1 =>
  gb (g_X6_fitsToken t_tokens t_mostSpoons t_spoons t_firsts t_kinds t_values t_parts t_spoonPlaces t_lastParts (7 : Int32) (61 : Int32) p1 (1 : Int32) (0 : Int32)) fun r2 =>
  gc (bo r2.1) <|
  some (r2.1, r2.2.1, v1, r2.2.2.1, r2.2.2.2.1, r2.2.2.2.2.1, r2.2.2.2.2.2.1, r2.2.2.2.2.2.2.1, r2.2.2.2.2.2.2.2.1, r2.2.2.2.2.2.2.2.2.1, r2.2.2.2.2.2.2.2.2.2)
def g_X6_fitsDigit_b53 (t_tokens : Int32) (t_mostSpoons : Int32) (t_spoons : Int32) (t_values : Nat → Int32) (t_firsts : Nat → Int32) (t_kinds : Nat → Int32) (t_parts : Nat → Int32) (t_spoonPlaces : Nat → Int32) (t_lastParts : Nat → Int32) (p1 : Int32) (x2_53 : Int32) : Option (Int32 × Int32 × Int32 × Int32 × Int32 × (Nat → Int32) × (Nat → Int32) × (Nat → Int32) × (Nat → Int32) × (Nat → Int32) × (Nat → Int32)) :=
  gb (g_X6_fitsToken t_tokens t_mostSpoons t_spoons t_firsts t_kinds t_values t_parts t_spoonPlaces t_lastParts (1 : Int32) p1 x2_53 (0 : Int32) (1 : Int32)) fun r3 =>
  gc (bo r3.1) <|
  some (r3.1, r3.2.1, r3.2.2.1, r3.2.2.2.1, 1, r3.2.2.2.2.2.2.1, r3.2.2.2.2.1, r3.2.2.2.2.2.1, r3.2.2.2.2.2.2.2.1, r3.2.2.2.2.2.2.2.2.1, r3.2.2.2.2.2.2.2.2.2)
def g_X6_fitsDigit (t_tokens : Int32) (t_mostSpoons : Int32) (t_spoons : Int32) (t_awaitsDigit : Int32) (t_values : Nat → Int32) (t_firsts : Nat → Int32) (t_kinds : Nat → Int32) (t_parts : Nat → Int32) (t_spoonPlaces : Nat → Int32) (t_lastParts : Nat → Int32) (p1 : Int32) : Option (Int32 × Int32 × Int32 × Int32 × Int32 × (Nat → Int32) × (Nat → Int32) × (Nat → Int32) × (Nat → Int32) × (Nat → Int32) × (Nat → Int32)) :=
  gl (p1 - 48) fun v1 =>
  gl (t_tokens - 1) fun v2 =>
  if t_awaitsDigit = 0 then
    g_X6_fitsDigit_b53 t_tokens t_mostSpoons t_spoons t_values t_firsts t_kinds t_parts t_spoonPlaces t_lastParts p1 v1
  else
    if v2 < 0 then
      g_X6_fitsDigit_b53 t_tokens t_mostSpoons t_spoons t_values t_firsts t_kinds t_parts t_spoonPlaces t_lastParts p1 v1
    else
      if 24 ≤ v2 then
        g_X6_fitsDigit_b53 t_tokens t_mostSpoons t_spoons t_values t_firsts t_kinds t_parts t_spoonPlaces t_lastParts p1 v1
      else
        gc (inb v2 24) <|
        gc (inb v2 24) <|
        some (1, t_tokens, t_mostSpoons, t_spoons, 0, (upd t_values v2.toNatClampNeg (((t_values v2.toNatClampNeg) * 10) + v1)), t_firsts, t_kinds, t_parts, t_spoonPlaces, t_lastParts)
def g_X6_fits_b55 (t_tokens : Int32) (t_stores : Int32) (t_mostSpoons : Int32) (t_spoons : Int32) (t_awaitsLetter : Int32) (t_values : Nat → Int32) (t_firsts : Nat → Int32) (t_kinds : Nat → Int32) (t_parts : Nat → Int32) (t_spoonPlaces : Nat → Int32) (t_lastParts : Nat → Int32) (p1 : Int32) : Option (Int32 × Int32 × Int32 × Int32 × Int32 × Int32 × Int32 × (Nat → Int32) × (Nat → Int32) × (Nat → Int32) × (Nat → Int32) × (Nat → Int32) × (Nat → Int32)) :=
  gb (g_X6_isLetter p1) fun r4 =>
  if r4 = 0 then
    if p1 = 33 then
      gb (g_X6_fitsToken t_tokens t_mostSpoons t_spoons t_firsts t_kinds t_values t_parts t_spoonPlaces t_lastParts (6 : Int32) p1 (0 : Int32) (1 : Int32) (1 : Int32)) fun r5 =>
      gc (bo r5.1) <|
      some (r5.1, r5.2.1, t_stores, r5.2.2.1, r5.2.2.2.1, t_awaitsLetter, 0, r5.2.2.2.2.2.2.1, r5.2.2.2.2.1, r5.2.2.2.2.2.1, r5.2.2.2.2.2.2.2.1, r5.2.2.2.2.2.2.2.2.1, r5.2.2.2.2.2.2.2.2.2)
    else
      if p1 = 42 then
        gb (g_X6_fitsToken t_tokens t_mostSpoons t_spoons t_firsts t_kinds t_values t_parts t_spoonPlaces t_lastParts (4 : Int32) p1 (0 : Int32) (2 : Int32) (1 : Int32)) fun r6 =>
        gc (bo r6.1) <|
        some (r6.1, r6.2.1, t_stores, r6.2.2.1, r6.2.2.2.1, t_awaitsLetter, 0, r6.2.2.2.2.2.2.1, r6.2.2.2.2.1, r6.2.2.2.2.2.1, r6.2.2.2.2.2.2.2.1, r6.2.2.2.2.2.2.2.2.1, r6.2.2.2.2.2.2.2.2.2)
      else
        if p1 = 43 then
          gb (g_X6_fitsToken t_tokens t_mostSpoons t_spoons t_firsts t_kinds t_values t_parts t_spoonPlaces t_lastParts (2 : Int32) p1 (0 : Int32) (2 : Int32) (1 : Int32)) fun r7 =>
          gc (bo r7.1) <|
          some (r7.1, r7.2.1, t_stores, r7.2.2.1, r7.2.2.2.1, t_awaitsLetter, 0, r7.2.2.2.2.2.2.1, r7.2.2.2.2.1, r7.2.2.2.2.2.1, r7.2.2.2.2.2.2.2.1, r7.2.2.2.2.2.2.2.2.1, r7.2.2.2.2.2.2.2.2.2)
        else
          if p1 = 45 then
            gb (g_X6_fitsToken t_tokens t_mostSpoons t_spoons t_firsts t_kinds t_values t_parts t_spoonPlaces t_lastParts (3 : Int32) p1 (0 : Int32) (2 : Int32) (1 : Int32)) fun r8 =>
            gc (bo r8.1) <|
            some (r8.1, r8.2.1, t_stores, r8.2.2.1, r8.2.2.2.1, t_awaitsLetter, 0, r8.2.2.2.2.2.2.1, r8.2.2.2.2.1, r8.2.2.2.2.2.1, r8.2.2.2.2.2.2.2.1, r8.2.2.2.2.2.2.2.2.1, r8.2.2.2.2.2.2.2.2.2)
          else
            if p1 = 61 then
              if t_spoons ≤ 0 then
                some (0, t_tokens, t_stores, t_mostSpoons, t_spoons, 1, 0, t_values, t_firsts, t_kinds, t_parts, t_spoonPlaces, t_lastParts)
              else
                some (1, t_tokens, t_stores, t_mostSpoons, t_spoons, 1, 0, t_values, t_firsts, t_kinds, t_parts, t_spoonPlaces, t_lastParts)
            else
              if p1 = 126 then
                gb (g_X6_fitsToken t_tokens t_mostSpoons t_spoons t_firsts t_kinds t_values t_parts t_spoonPlaces t_lastParts (5 : Int32) p1 (0 : Int32) (1 : Int32) (1 : Int32)) fun r9 =>
                gc (bo r9.1) <|
                some (r9.1, r9.2.1, t_stores, r9.2.2.1, r9.2.2.2.1, t_awaitsLetter, 0, r9.2.2.2.2.2.2.1, r9.2.2.2.2.1, r9.2.2.2.2.2.1, r9.2.2.2.2.2.2.2.1, r9.2.2.2.2.2.2.2.2.1, r9.2.2.2.2.2.2.2.2.2)
              else
                some (0, t_tokens, t_stores, t_mostSpoons, t_spoons, t_awaitsLetter, 0, t_values, t_firsts, t_kinds, t_parts, t_spoonPlaces, t_lastParts)
  else
    gb (g_X6_fitsToken t_tokens t_mostSpoons t_spoons t_firsts t_kinds t_values t_parts t_spoonPlaces t_lastParts (0 : Int32) p1 (p1 - 97) (0 : Int32) (1 : Int32)) fun r10 =>
    gc (bo r10.1) <|
    some (r10.1, r10.2.1, t_stores, r10.2.2.1, r10.2.2.2.1, t_awaitsLetter, 0, r10.2.2.2.2.2.2.1, r10.2.2.2.2.1, r10.2.2.2.2.2.1, r10.2.2.2.2.2.2.2.1, r10.2.2.2.2.2.2.2.2.1, r10.2.2.2.2.2.2.2.2.2)
def g_X6_fits (t_tokens : Int32) (t_stores : Int32) (t_mostSpoons : Int32) (t_spoons : Int32) (t_awaitsLetter : Int32) (t_awaitsDigit : Int32) (t_values : Nat → Int32) (t_firsts : Nat → Int32) (t_kinds : Nat → Int32) (t_parts : Nat → Int32) (t_spoonPlaces : Nat → Int32) (t_lastParts : Nat → Int32) (p1 : Int32) : Option (Int32 × Int32 × Int32 × Int32 × Int32 × Int32 × Int32 × (Nat → Int32) × (Nat → Int32) × (Nat → Int32) × (Nat → Int32) × (Nat → Int32) × (Nat → Int32)) :=
  if t_awaitsLetter = 0 then
    if p1 < 48 then
      g_X6_fits_b55 t_tokens t_stores t_mostSpoons t_spoons t_awaitsLetter t_values t_firsts t_kinds t_parts t_spoonPlaces t_lastParts p1
    else
      if 57 < p1 then
        g_X6_fits_b55 t_tokens t_stores t_mostSpoons t_spoons t_awaitsLetter t_values t_firsts t_kinds t_parts t_spoonPlaces t_lastParts p1
      else
        gb (g_X6_fitsDigit t_tokens t_mostSpoons t_spoons t_awaitsDigit t_values t_firsts t_kinds t_parts t_spoonPlaces t_lastParts p1) fun r1 =>
        gc (bo r1.1) <|
        some (r1.1, r1.2.1, t_stores, r1.2.2.1, r1.2.2.2.1, t_awaitsLetter, r1.2.2.2.2.1, r1.2.2.2.2.2.1, r1.2.2.2.2.2.2.1, r1.2.2.2.2.2.2.2.1, r1.2.2.2.2.2.2.2.2.1, r1.2.2.2.2.2.2.2.2.2.1, r1.2.2.2.2.2.2.2.2.2.2)
  else
    gb (g_X6_isLetter p1) fun r2 =>
    if r2 = 0 then
      some (0, t_tokens, t_stores, t_mostSpoons, t_spoons, 0, t_awaitsDigit, t_values, t_firsts, t_kinds, t_parts, t_spoonPlaces, t_lastParts)
    else
      gb (g_X6_fitsStore t_tokens t_stores t_mostSpoons t_spoons t_firsts t_kinds t_values t_parts t_spoonPlaces t_lastParts (p1 - 97)) fun r3 =>
      if r3.1 = 0 then
        some (0, r3.2.1, r3.2.2.1, r3.2.2.2.1, r3.2.2.2.2.1, 0, t_awaitsDigit, r3.2.2.2.2.2.2.2.1, r3.2.2.2.2.2.1, r3.2.2.2.2.2.2.1, r3.2.2.2.2.2.2.2.2.1, r3.2.2.2.2.2.2.2.2.2.1, r3.2.2.2.2.2.2.2.2.2.2)
      else
        some (1, r3.2.1, r3.2.2.1, r3.2.2.2.1, r3.2.2.2.2.1, 0, t_awaitsDigit, r3.2.2.2.2.2.2.2.1, r3.2.2.2.2.2.1, r3.2.2.2.2.2.2.1, r3.2.2.2.2.2.2.2.2.1, r3.2.2.2.2.2.2.2.2.2.1, r3.2.2.2.2.2.2.2.2.2.2)
def g_X6_errorIn_b40 (n_p1 : Nat) (p1 : Nat → Int32) : Nat → (Nat → Int32) → (Nat → Int32) → (Nat → Int32) → (Nat → Int32) → (Nat → Int32) → (Nat → Int32) → Int32 → Int32 → Int32 → Int32 → Int32 → Int32 → Int32 → Int32 → Option (Int32 × Int32 × Int32 × Int32 × Int32 × Int32 × Int32 × (Nat → Int32) × (Nat → Int32) × (Nat → Int32) × (Nat → Int32) × (Nat → Int32) × (Nat → Int32))
  | 0, _, _, _, _, _, _, _, _, _, _, _, _, _, _ => none
  | n + 1, t_firsts_40, t_kinds_40, t_lastParts_40, t_parts_40, t_spoonPlaces_40, t_values_40, t_tokens_40, t_stores_40, t_awaitsLetter_40, t_awaitsDigit_40, t_mostSpoons_40, t_spoons_40, x3_40, x4_40 =>
    if x3_40 ≤ x4_40 then
      if t_stores_40 ≤ 0 then
        some (x3_40, t_tokens_40, t_stores_40, t_mostSpoons_40, t_spoons_40, t_awaitsLetter_40, t_awaitsDigit_40, t_values_40, t_firsts_40, t_kinds_40, t_parts_40, t_spoonPlaces_40, t_lastParts_40)
      else
        if t_spoons_40 = 0 then
          if t_awaitsLetter_40 = 0 then
            some ((-1), t_tokens_40, t_stores_40, t_mostSpoons_40, t_spoons_40, t_awaitsLetter_40, t_awaitsDigit_40, t_values_40, t_firsts_40, t_kinds_40, t_parts_40, t_spoonPlaces_40, t_lastParts_40)
          else
            some (x3_40, t_tokens_40, t_stores_40, t_mostSpoons_40, t_spoons_40, t_awaitsLetter_40, t_awaitsDigit_40, t_values_40, t_firsts_40, t_kinds_40, t_parts_40, t_spoonPlaces_40, t_lastParts_40)
        else
          some (x3_40, t_tokens_40, t_stores_40, t_mostSpoons_40, t_spoons_40, t_awaitsLetter_40, t_awaitsDigit_40, t_values_40, t_firsts_40, t_kinds_40, t_parts_40, t_spoonPlaces_40, t_lastParts_40)
    else
      gc (inb x4_40 n_p1) <|
      gb (g_X6_fits t_tokens_40 t_stores_40 t_mostSpoons_40 t_spoons_40 t_awaitsLetter_40 t_awaitsDigit_40 t_values_40 t_firsts_40 t_kinds_40 t_parts_40 t_spoonPlaces_40 t_lastParts_40 (p1 x4_40.toNatClampNeg)) fun r2 =>
      if r2.1 = 0 then
        some (x4_40, r2.2.1, r2.2.2.1, r2.2.2.2.1, r2.2.2.2.2.1, r2.2.2.2.2.2.1, r2.2.2.2.2.2.2.1, r2.2.2.2.2.2.2.2.1, r2.2.2.2.2.2.2.2.2.1, r2.2.2.2.2.2.2.2.2.2.1, r2.2.2.2.2.2.2.2.2.2.2.1, r2.2.2.2.2.2.2.2.2.2.2.2.1, r2.2.2.2.2.2.2.2.2.2.2.2.2)
      else
        gl (x4_40 + 1) fun v3 =>
        (g_X6_errorIn_b40 n_p1 p1 n) r2.2.2.2.2.2.2.2.2.1 r2.2.2.2.2.2.2.2.2.2.1 r2.2.2.2.2.2.2.2.2.2.2.2.2 r2.2.2.2.2.2.2.2.2.2.2.1 r2.2.2.2.2.2.2.2.2.2.2.2.1 r2.2.2.2.2.2.2.2.1 r2.2.1 r2.2.2.1 r2.2.2.2.2.2.1 r2.2.2.2.2.2.2.1 r2.2.2.2.1 r2.2.2.2.2.1 x3_40 v3
def g_X6_errorIn (n_p1 : Nat) (t_tokens : Int32) (t_stores : Int32) (t_mostSpoons : Int32) (t_spoons : Int32) (t_awaitsLetter : Int32) (t_awaitsDigit : Int32) (p1 : Nat → Int32) (t_values : Nat → Int32) (t_firsts : Nat → Int32) (t_kinds : Nat → Int32) (t_parts : Nat → Int32) (t_spoonPlaces : Nat → Int32) (t_lastParts : Nat → Int32) (p2 : Int32) : Option (Int32 × Int32 × Int32 × Int32 × Int32 × Int32 × Int32 × (Nat → Int32) × (Nat → Int32) × (Nat → Int32) × (Nat → Int32) × (Nat → Int32) × (Nat → Int32)) :=
  gl (if (nI n_p1) < p2 then (nI n_p1) else p2) fun v1 =>
  g_X6_errorIn_b40 n_p1 p1 100 t_firsts t_kinds t_lastParts t_parts t_spoonPlaces t_values 0 0 0 0 0 0 v1 0
def g_X6_placeBeyond_b48 (t_tokens : Int32) (t_kinds : Nat → Int32) (t_values : Nat → Int32) (p1 : Int32) (k2 : Int32 → Option (Int32)) (x2_48 : Int32) : Option (Int32) :=
  gl (x2_48 + 1) fun v1 =>
  k2 v1
def g_X6_placeBeyond_b36 (t_tokens : Int32) (t_kinds : Nat → Int32) (t_values : Nat → Int32) (p1 : Int32) (k2 : Int32 → Option (Int32)) (x2_36 : Int32) : Option (Int32) :=
  gc (inb x2_36 24) <|
  if (t_values x2_36.toNatClampNeg) < p1 then
    g_X6_placeBeyond_b48 t_tokens t_kinds t_values p1 k2 x2_36
  else
    some (x2_36)
def g_X6_placeBeyond_b2 (t_tokens : Int32) (t_kinds : Nat → Int32) (t_values : Nat → Int32) (p1 : Int32) : Nat → Int32 → Option (Int32)
  | 0, _ => none
  | n + 1, x2_2 =>
    if t_tokens ≤ x2_2 then
      some ((-1))
    else
      if 24 ≤ x2_2 then
        some ((-1))
      else
        gc (inb x2_2 24) <|
        if (t_kinds x2_2.toNatClampNeg) = 0 then
          g_X6_placeBeyond_b36 t_tokens t_kinds t_values p1 (g_X6_placeBeyond_b2 t_tokens t_kinds t_values p1 n) x2_2
        else
          gc (inb x2_2 24) <|
          if (t_kinds x2_2.toNatClampNeg) = 7 then
            g_X6_placeBeyond_b36 t_tokens t_kinds t_values p1 (g_X6_placeBeyond_b2 t_tokens t_kinds t_values p1 n) x2_2
          else
            g_X6_placeBeyond_b48 t_tokens t_kinds t_values p1 (g_X6_placeBeyond_b2 t_tokens t_kinds t_values p1 n) x2_2
def g_X6_placeBeyond (t_tokens : Int32) (t_kinds : Nat → Int32) (t_values : Nat → Int32) (p1 : Int32) : Option (Int32) :=
  g_X6_placeBeyond_b2 t_tokens t_kinds t_values p1 100 0
def g_X9_lay (t_spoons : Int32) (t_isBroth : Nat → Int32) (t_low : Nat → Int64) (t_high : Nat → Int64) (p1 : Int32) (p2 : Int64) (p3 : Int64) : Option (Int32 × Int32 × (Nat → Int32) × (Nat → Int64) × (Nat → Int64)) :=
  if t_spoons < 0 then
    some (0, t_spoons, t_isBroth, t_low, t_high)
  else
    if t_spoons < 5 then
      gc (inb t_spoons 5) <|
      gc (inb t_spoons 5) <|
      gc (inb t_spoons 5) <|
      gl (t_spoons + 1) fun v1 =>
      some (1, v1, (upd t_isBroth t_spoons.toNatClampNeg (vp_nar .boolean p1)), (vp_updL t_low t_spoons.toNatClampNeg p2), (vp_updL t_high t_spoons.toNatClampNeg p3))
    else
      some (0, t_spoons, t_isBroth, t_low, t_high)
def g_X9_passesCast (t_spoons : Int32) (t_isBroth : Nat → Int32) (t_low : Nat → Int64) (t_high : Nat → Int64) (p1 : Int32) : Option (Int32 × (Nat → Int32) × (Nat → Int64) × (Nat → Int64)) :=
  gl (t_spoons - 1) fun v1 =>
  if v1 < 0 then
    some (0, t_isBroth, t_low, t_high)
  else
    if 5 ≤ v1 then
      some (0, t_isBroth, t_low, t_high)
    else
      gc (inb v1 5) <|
      if (t_isBroth v1.toNatClampNeg) = p1 then
        some (0, t_isBroth, t_low, t_high)
      else
        gc (inb v1 5) <|
        gc (inb v1 5) <|
        gc (inb v1 5) <|
        some (1, (upd t_isBroth v1.toNatClampNeg (vp_nar .boolean p1)), (vp_updL t_low v1.toNatClampNeg (-99 : Int64)), (vp_updL t_high v1.toNatClampNeg (99 : Int64)))
def g_X9_passesStore (t_stores : Int32) (t_spoons : Int32) (t_storeIsBroth : Nat → Int32) (t_isBroth : Nat → Int32) (t_storeLow : Nat → Int64) (t_low : Nat → Int64) (t_storeHigh : Nat → Int64) (t_high : Nat → Int64) (p2_isBroth : Nat → Int32) (p2_low : Nat → Int32) (p2_high : Nat → Int32) (p1 : Int32) : Option (Int32 × Int32 × Int32 × (Nat → Int32) × (Nat → Int64) × (Nat → Int64)) :=
  gl (t_spoons - 1) fun v1 =>
  if v1 < 0 then
    some (0, t_stores, t_spoons, t_storeIsBroth, t_storeLow, t_storeHigh)
  else
    if 5 ≤ v1 then
      some (0, t_stores, t_spoons, t_storeIsBroth, t_storeLow, t_storeHigh)
    else
      if t_stores < 0 then
        some (0, t_stores, t_spoons, t_storeIsBroth, t_storeLow, t_storeHigh)
      else
        if t_stores < 24 then
          gl (t_spoons - 1) fun v2 =>
          gc (inb v1 5) <|
          gc (inb t_stores 24) <|
          gc (inb v1 5) <|
          gc (inb t_stores 24) <|
          gc (inb v1 5) <|
          gc (inb t_stores 24) <|
          gl (t_stores + 1) fun v3 =>
          gc (inb v1 5) <|
          gc (inb p1 6) <|
          if (t_isBroth v1.toNatClampNeg) = (p2_isBroth p1.toNatClampNeg) then
            gc (inb v1 5) <|
            if (t_isBroth v1.toNatClampNeg) = 0 then
              gc (inb v1 5) <|
              gb (g_X0_holds p2_low p2_high p1 (t_low v1.toNatClampNeg)) fun r4 =>
              if r4 = 0 then
                some (0, v3, v2, (upd t_storeIsBroth t_stores.toNatClampNeg (vp_nar .boolean (t_isBroth v1.toNatClampNeg))), (vp_updL t_storeLow t_stores.toNatClampNeg (t_low v1.toNatClampNeg)), (vp_updL t_storeHigh t_stores.toNatClampNeg (t_high v1.toNatClampNeg)))
              else
                gc (inb v1 5) <|
                gb (g_X0_holds p2_low p2_high p1 (t_high v1.toNatClampNeg)) fun r5 =>
                if r5 = 0 then
                  some (0, v3, v2, (upd t_storeIsBroth t_stores.toNatClampNeg (vp_nar .boolean (t_isBroth v1.toNatClampNeg))), (vp_updL t_storeLow t_stores.toNatClampNeg (t_low v1.toNatClampNeg)), (vp_updL t_storeHigh t_stores.toNatClampNeg (t_high v1.toNatClampNeg)))
                else
                  some (1, v3, v2, (upd t_storeIsBroth t_stores.toNatClampNeg (vp_nar .boolean (t_isBroth v1.toNatClampNeg))), (vp_updL t_storeLow t_stores.toNatClampNeg (t_low v1.toNatClampNeg)), (vp_updL t_storeHigh t_stores.toNatClampNeg (t_high v1.toNatClampNeg)))
            else
              some (1, v3, v2, (upd t_storeIsBroth t_stores.toNatClampNeg (vp_nar .boolean (t_isBroth v1.toNatClampNeg))), (vp_updL t_storeLow t_stores.toNatClampNeg (t_low v1.toNatClampNeg)), (vp_updL t_storeHigh t_stores.toNatClampNeg (t_high v1.toNatClampNeg)))
          else
            some (0, v3, v2, (upd t_storeIsBroth t_stores.toNatClampNeg (vp_nar .boolean (t_isBroth v1.toNatClampNeg))), (vp_updL t_storeLow t_stores.toNatClampNeg (t_low v1.toNatClampNeg)), (vp_updL t_storeHigh t_stores.toNatClampNeg (t_high v1.toNatClampNeg)))
        else
          some (0, t_stores, t_spoons, t_storeIsBroth, t_storeLow, t_storeHigh)
def g_X9_passesReckoning (t_spoons : Int32) (t_isBroth : Nat → Int32) (t_low : Nat → Int64) (t_high : Nat → Int64) (p1 : Int32) : Option (Int32 × Int32 × (Nat → Int64) × (Nat → Int64)) :=
  gl (t_spoons - 1) fun v1 =>
  gl (t_spoons - 2) fun v2 =>
  if v2 < 0 then
    some (0, t_spoons, t_low, t_high)
  else
    if 5 ≤ v1 then
      some (0, t_spoons, t_low, t_high)
    else
      gc (inb v2 5) <|
      gc (inb v1 5) <|
      if (t_isBroth v2.toNatClampNeg) = (t_isBroth v1.toNatClampNeg) then
        gl (t_spoons - 1) fun v3 =>
        gc (inb v2 5) <|
        if (t_isBroth v2.toNatClampNeg) = 0 then
          gc (inb v2 5) <|
          gc (inb v2 5) <|
          gc (inb v1 5) <|
          gc (inb v1 5) <|
          gb (g_X5_lowest p1 (t_low v2.toNatClampNeg) (t_high v2.toNatClampNeg) (t_low v1.toNatClampNeg) (t_high v1.toNatClampNeg)) fun r4 =>
          gc (inb v2 5) <|
          gc (inb v2 5) <|
          gc (inb v1 5) <|
          gc (inb v1 5) <|
          gb (g_X5_highest p1 (t_low v2.toNatClampNeg) (t_high v2.toNatClampNeg) (t_low v1.toNatClampNeg) (t_high v1.toNatClampNeg)) fun r5 =>
          gc (inb v2 5) <|
          gc (inb v2 5) <|
          gb (g_X5_excess r4) fun r6 =>
          if r6 = 0 then
            gb (g_X5_excess r5) fun r7 =>
            if r7 = 0 then
              some (1, v3, (vp_updL t_low v2.toNatClampNeg r4), (vp_updL t_high v2.toNatClampNeg r5))
            else
              some (0, v3, (vp_updL t_low v2.toNatClampNeg r4), (vp_updL t_high v2.toNatClampNeg r5))
          else
            some (0, v3, (vp_updL t_low v2.toNatClampNeg r4), (vp_updL t_high v2.toNatClampNeg r5))
        else
          some (1, v3, t_low, t_high)
      else
        some (0, t_spoons, t_low, t_high)
def g_X9_passesToken_b138 (t_stores : Int32) (t_spoons : Int32) (t_isBroth : Nat → Int32) (t_low : Nat → Int64) (t_high : Nat → Int64) (t_storeIsBroth : Nat → Int32) (t_storeLow : Nat → Int64) (t_storeHigh : Nat → Int64) (p1 : Int32) : Option (Int32 × Int32 × Int32 × (Nat → Int32) × (Nat → Int64) × (Nat → Int64) × (Nat → Int32) × (Nat → Int64) × (Nat → Int64)) :=
  gb (g_X9_passesReckoning t_spoons t_isBroth t_low t_high p1) fun r6 =>
  gc (bo r6.1) <|
  some (r6.1, t_stores, r6.2.1, t_isBroth, r6.2.2.1, r6.2.2.2, t_storeIsBroth, t_storeLow, t_storeHigh)
def g_X9_passesToken (t_stores : Int32) (t_spoons : Int32) (p3_isBroth : Nat → Int32) (p3_low : Nat → Int32) (p3_high : Nat → Int32) (t_isBroth : Nat → Int32) (t_low : Nat → Int64) (t_high : Nat → Int64) (t_storeIsBroth : Nat → Int32) (t_storeLow : Nat → Int64) (t_storeHigh : Nat → Int64) (p1 : Int32) (p2 : Int32) : Option (Int32 × Int32 × Int32 × (Nat → Int32) × (Nat → Int64) × (Nat → Int64) × (Nat → Int32) × (Nat → Int64) × (Nat → Int64)) :=
  if p1 = 0 then
    if p2 < 0 then
      some (0, t_stores, t_spoons, t_isBroth, t_low, t_high, t_storeIsBroth, t_storeLow, t_storeHigh)
    else
      if 6 ≤ p2 then
        some (0, t_stores, t_spoons, t_isBroth, t_low, t_high, t_storeIsBroth, t_storeLow, t_storeHigh)
      else
        gc (inb p2 6) <|
        gc (inb p2 6) <|
        gc (inb p2 6) <|
        gb (g_X9_lay t_spoons t_isBroth t_low t_high (p3_isBroth p2.toNatClampNeg) ((p3_low p2.toNatClampNeg).toInt64) ((p3_high p2.toNatClampNeg).toInt64)) fun r1 =>
        if r1.1 = 0 then
          some (0, t_stores, r1.2.1, r1.2.2.1, r1.2.2.2.1, r1.2.2.2.2, t_storeIsBroth, t_storeLow, t_storeHigh)
        else
          some (1, t_stores, r1.2.1, r1.2.2.1, r1.2.2.2.1, r1.2.2.2.2, t_storeIsBroth, t_storeLow, t_storeHigh)
  else
    if p1 = 1 then
      gb (g_X9_lay t_spoons t_isBroth t_low t_high (0 : Int32) p2.toInt64 p2.toInt64) fun r2 =>
      gc (bo r2.1) <|
      some (r2.1, t_stores, r2.2.1, r2.2.2.1, r2.2.2.2.1, r2.2.2.2.2, t_storeIsBroth, t_storeLow, t_storeHigh)
    else
      if p1 = 2 then
        g_X9_passesToken_b138 t_stores t_spoons t_isBroth t_low t_high t_storeIsBroth t_storeLow t_storeHigh p1
      else
        if p1 = 3 then
          g_X9_passesToken_b138 t_stores t_spoons t_isBroth t_low t_high t_storeIsBroth t_storeLow t_storeHigh p1
        else
          if p1 = 4 then
            g_X9_passesToken_b138 t_stores t_spoons t_isBroth t_low t_high t_storeIsBroth t_storeLow t_storeHigh p1
          else
            if p1 = 5 then
              gb (g_X9_passesCast t_spoons t_isBroth t_low t_high (1 : Int32)) fun r3 =>
              gc (bo r3.1) <|
              some (r3.1, t_stores, t_spoons, r3.2.1, r3.2.2.1, r3.2.2.2, t_storeIsBroth, t_storeLow, t_storeHigh)
            else
              if p1 = 6 then
                gb (g_X9_passesCast t_spoons t_isBroth t_low t_high (0 : Int32)) fun r4 =>
                gc (bo r4.1) <|
                some (r4.1, t_stores, t_spoons, r4.2.1, r4.2.2.1, r4.2.2.2, t_storeIsBroth, t_storeLow, t_storeHigh)
              else
                if p1 = 7 then
                  if p2 < 0 then
                    some (0, t_stores, t_spoons, t_isBroth, t_low, t_high, t_storeIsBroth, t_storeLow, t_storeHigh)
                  else
                    if 6 ≤ p2 then
                      some (0, t_stores, t_spoons, t_isBroth, t_low, t_high, t_storeIsBroth, t_storeLow, t_storeHigh)
                    else
                      gb (g_X9_passesStore t_stores t_spoons t_storeIsBroth t_isBroth t_storeLow t_low t_storeHigh t_high p3_isBroth p3_low p3_high p2) fun r5 =>
                      if r5.1 = 0 then
                        some (0, r5.2.1, r5.2.2.1, t_isBroth, t_low, t_high, r5.2.2.2.1, r5.2.2.2.2.1, r5.2.2.2.2.2)
                      else
                        some (1, r5.2.1, r5.2.2.1, t_isBroth, t_low, t_high, r5.2.2.2.1, r5.2.2.2.2.1, r5.2.2.2.2.2)
                else
                  g_X9_passesToken_b138 t_stores t_spoons t_isBroth t_low t_high t_storeIsBroth t_storeLow t_storeHigh p1
def g_X9_passes_b17 (p1_tokens : Int32) (p1_kinds : Nat → Int32) (p1_values : Nat → Int32) (p2_isBroth : Nat → Int32) (p2_low : Nat → Int32) (p2_high : Nat → Int32) : Nat → (Nat → Int64) → (Nat → Int32) → (Nat → Int64) → (Nat → Int64) → (Nat → Int32) → (Nat → Int64) → Int32 → Int32 → Int32 → Option (Int32 × Int32 × Int32 × Int32 × (Nat → Int32) × (Nat → Int64) × (Nat → Int64) × (Nat → Int32) × (Nat → Int64) × (Nat → Int64))
  | 0, _, _, _, _, _, _, _, _, _ => none
  | n + 1, t_high_17, t_isBroth_17, t_low_17, t_storeHigh_17, t_storeIsBroth_17, t_storeLow_17, t_stores_17, t_spoons_17, x3_17 =>
    if p1_tokens ≤ x3_17 then
      some (1, (-1), t_stores_17, t_spoons_17, t_isBroth_17, t_low_17, t_high_17, t_storeIsBroth_17, t_storeLow_17, t_storeHigh_17)
    else
      gc (inb x3_17 24) <|
      gc (inb x3_17 24) <|
      gb (g_X9_passesToken t_stores_17 t_spoons_17 p2_isBroth p2_low p2_high t_isBroth_17 t_low_17 t_high_17 t_storeIsBroth_17 t_storeLow_17 t_storeHigh_17 (p1_kinds x3_17.toNatClampNeg) (p1_values x3_17.toNatClampNeg)) fun r1 =>
      if r1.1 = 0 then
        some (0, x3_17, r1.2.1, r1.2.2.1, r1.2.2.2.1, r1.2.2.2.2.1, r1.2.2.2.2.2.1, r1.2.2.2.2.2.2.1, r1.2.2.2.2.2.2.2.1, r1.2.2.2.2.2.2.2.2)
      else
        gl (x3_17 + 1) fun v2 =>
        (g_X9_passes_b17 p1_tokens p1_kinds p1_values p2_isBroth p2_low p2_high n) r1.2.2.2.2.2.1 r1.2.2.2.1 r1.2.2.2.2.1 r1.2.2.2.2.2.2.2.2 r1.2.2.2.2.2.2.1 r1.2.2.2.2.2.2.2.1 r1.2.1 r1.2.2.1 v2
def g_X9_passes (t_faultAt : Int32) (t_stores : Int32) (t_spoons : Int32) (p1_tokens : Int32) (p1_kinds : Nat → Int32) (p1_values : Nat → Int32) (p2_isBroth : Nat → Int32) (p2_low : Nat → Int32) (p2_high : Nat → Int32) (t_isBroth : Nat → Int32) (t_low : Nat → Int64) (t_high : Nat → Int64) (t_storeIsBroth : Nat → Int32) (t_storeLow : Nat → Int64) (t_storeHigh : Nat → Int64) : Option (Int32 × Int32 × Int32 × Int32 × (Nat → Int32) × (Nat → Int64) × (Nat → Int64) × (Nat → Int32) × (Nat → Int64) × (Nat → Int64)) :=
  g_X9_passes_b17 p1_tokens p1_kinds p1_values p2_isBroth p2_low p2_high 100 t_high t_isBroth t_low t_storeHigh t_storeIsBroth t_storeLow 0 0 0
def g_X0_copy_b91 (LS : List Nat) (p1_cauldrons : Int32) (p1_spells : Int32) (p1_cookedSoFar : Int32) (p1_storesSoFar : Int32) (p1_texts : Nat → Option Nat) (p1_cooked : Nat → Int32) : Nat → (Nat → Int32) → (Nat → UInt32) → (Nat → Int32) → (Nat → Int32) → (Nat → Int32) → (Nat → Int32) → (Nat → Int32) → (Nat → Option Nat) → Int32 → Option (Int32 × Int32 × Int32 × Int32 × (Nat → Int32) × (Nat → UInt32) × (Nat → Int32) × (Nat → Int32) × (Nat → Int32) × (Nat → Int32) × (Nat → Option Nat) × (Nat → Int32))
  | 0, _, _, _, _, _, _, _, _, _ => none
  | n + 1, t_contents_many_91, t_contents_much_91, t_cooked_91, t_high_91, t_isBroth_91, t_low_91, t_storesIn_91, t_texts_91, x2_91 =>
    if 4 ≤ x2_91 then
      some (p1_cauldrons, p1_spells, p1_cookedSoFar, p1_storesSoFar, t_contents_many_91, t_contents_much_91, t_isBroth_91, t_low_91, t_high_91, t_storesIn_91, t_texts_91, t_cooked_91)
    else
      gc (inb x2_91 4) <|
      gc (inb x2_91 4) <|
      gc (oin9 LS (p1_texts x2_91.toNatClampNeg)) <|
      gc (inb x2_91 4) <|
      gc (inb x2_91 4) <|
      gl (x2_91 + 1) fun v1 =>
      (g_X0_copy_b91 LS p1_cauldrons p1_spells p1_cookedSoFar p1_storesSoFar p1_texts p1_cooked n) t_contents_many_91 t_contents_much_91 (upd t_cooked_91 x2_91.toNatClampNeg (p1_cooked x2_91.toNatClampNeg)) t_high_91 t_isBroth_91 t_low_91 t_storesIn_91 (va_up t_texts_91 x2_91.toNatClampNeg (p1_texts x2_91.toNatClampNeg)) v1
def g_X0_copy_b10 (LS : List Nat) (p1_cauldrons : Int32) (p1_spells : Int32) (p1_cookedSoFar : Int32) (p1_storesSoFar : Int32) (t_contents_many : Nat → Int32) (p1_contents_many : Nat → Int32) (t_contents_much : Nat → UInt32) (p1_contents_much : Nat → UInt32) (p1_isBroth : Nat → Int32) (p1_low : Nat → Int32) (p1_high : Nat → Int32) (p1_storesIn : Nat → Int32) (t_texts : Nat → Option Nat) (p1_texts : Nat → Option Nat) (t_cooked : Nat → Int32) (p1_cooked : Nat → Int32) : Nat → (Nat → Int32) → (Nat → Int32) → (Nat → Int32) → (Nat → Int32) → Int32 → Option (Int32 × Int32 × Int32 × Int32 × (Nat → Int32) × (Nat → UInt32) × (Nat → Int32) × (Nat → Int32) × (Nat → Int32) × (Nat → Int32) × (Nat → Option Nat) × (Nat → Int32))
  | 0, _, _, _, _, _ => none
  | n + 1, t_high_10, t_isBroth_10, t_low_10, t_storesIn_10, x2_10 =>
    if 6 ≤ x2_10 then
      gb (g_X1_copy t_contents_many p1_contents_many t_contents_much p1_contents_much) fun r2 =>
      g_X0_copy_b91 LS p1_cauldrons p1_spells p1_cookedSoFar p1_storesSoFar p1_texts p1_cooked 100 r2.1 r2.2 t_cooked t_high_10 t_isBroth_10 t_low_10 t_storesIn_10 t_texts 0
    else
      gc (inb x2_10 6) <|
      gc (inb x2_10 6) <|
      gc (inb x2_10 6) <|
      gc (inb x2_10 6) <|
      gc (inb x2_10 6) <|
      gc (inb x2_10 6) <|
      gc (inb x2_10 6) <|
      gc (inb x2_10 6) <|
      gl (x2_10 + 1) fun v3 =>
      (g_X0_copy_b10 LS p1_cauldrons p1_spells p1_cookedSoFar p1_storesSoFar t_contents_many p1_contents_many t_contents_much p1_contents_much p1_isBroth p1_low p1_high p1_storesIn t_texts p1_texts t_cooked p1_cooked n) (upd t_high_10 x2_10.toNatClampNeg (p1_high x2_10.toNatClampNeg)) (upd t_isBroth_10 x2_10.toNatClampNeg (vp_nar .boolean (p1_isBroth x2_10.toNatClampNeg))) (upd t_low_10 x2_10.toNatClampNeg (p1_low x2_10.toNatClampNeg)) (upd t_storesIn_10 x2_10.toNatClampNeg (p1_storesIn x2_10.toNatClampNeg)) v3
def g_X0_copy (LS : List Nat) (SE : Nat → SV) (t_cauldrons : Int32) (t_spells : Int32) (t_cookedSoFar : Int32) (t_storesSoFar : Int32) (p1_cauldrons : Int32) (p1_spells : Int32) (p1_cookedSoFar : Int32) (p1_storesSoFar : Int32) (t_contents_many : Nat → Int32) (p1_contents_many : Nat → Int32) (t_contents_much : Nat → UInt32) (p1_contents_much : Nat → UInt32) (t_isBroth : Nat → Int32) (p1_isBroth : Nat → Int32) (t_low : Nat → Int32) (p1_low : Nat → Int32) (t_high : Nat → Int32) (p1_high : Nat → Int32) (t_storesIn : Nat → Int32) (p1_storesIn : Nat → Int32) (t_texts : Nat → Option Nat) (p1_texts : Nat → Option Nat) (t_cooked : Nat → Int32) (p1_cooked : Nat → Int32) : Option (Int32 × Int32 × Int32 × Int32 × (Nat → Int32) × (Nat → UInt32) × (Nat → Int32) × (Nat → Int32) × (Nat → Int32) × (Nat → Int32) × (Nat → Option Nat) × (Nat → Int32)) :=
  g_X0_copy_b10 LS p1_cauldrons p1_spells p1_cookedSoFar p1_storesSoFar t_contents_many p1_contents_many t_contents_much p1_contents_much p1_isBroth p1_low p1_high p1_storesIn t_texts p1_texts t_cooked p1_cooked 100 t_high t_isBroth t_low t_storesIn 0
def g_X0_spellAt (t_spells : Int32) (t_texts : Nat → Option Nat) (p1 : Int32) : Option (Option Nat) :=
  if p1 < 0 then
    some (none)
  else
    if t_spells ≤ p1 then
      some (none)
    else
      if 4 ≤ p1 then
        some (none)
      else
        gc (inb p1 4) <|
        some ((t_texts p1.toNatClampNeg))
def g_X0_putDown (t_spells : Int32) (t_texts : Nat → Option Nat) (t_cooked : Nat → Int32) (a_p1 : Nat) : Option (Int32 × Int32 × (Nat → Option Nat) × (Nat → Int32)) :=
  if t_spells < 0 then
    some ((-1), t_spells, t_texts, t_cooked)
  else
    if t_spells < 4 then
      gl (t_spells + 1) fun v1 =>
      gc (inb t_spells 4) <|
      gc (inb t_spells 4) <|
      some (t_spells, v1, (va_up t_texts t_spells.toNatClampNeg (some a_p1)), (upd t_cooked t_spells.toNatClampNeg 0))
    else
      some ((-1), t_spells, t_texts, t_cooked)
def g_X0_strikeOut_b6 (LS : List Nat) (t_spells : Int32) : Nat → (Nat → Int32) → (Nat → Option Nat) → Int32 → Option (Int32 × (Nat → Option Nat) × (Nat → Int32))
  | 0, _, _, _ => none
  | n + 1, t_cooked_6, t_texts_6, x2_6 =>
    if 3 ≤ x2_6 then
      gl (t_spells - 1) fun v2 =>
      some (v2, t_texts_6, t_cooked_6)
    else
      gc (inb (x2_6 + 1) 4) <|
      gc (inb x2_6 4) <|
      gc (oin9 LS (t_texts_6 (x2_6 + 1).toNatClampNeg)) <|
      gc (inb (x2_6 + 1) 4) <|
      gc (inb x2_6 4) <|
      gl (x2_6 + 1) fun v3 =>
      (g_X0_strikeOut_b6 LS t_spells n) (upd t_cooked_6 x2_6.toNatClampNeg (t_cooked_6 (x2_6 + 1).toNatClampNeg)) (va_up t_texts_6 x2_6.toNatClampNeg (t_texts_6 (x2_6 + 1).toNatClampNeg)) v3
def g_X0_strikeOut (LS : List Nat) (SE : Nat → SV) (t_spells : Int32) (t_texts : Nat → Option Nat) (t_cooked : Nat → Int32) (p1 : Int32) : Option (Int32 × (Nat → Option Nat) × (Nat → Int32)) :=
  gl (if p1 < 0 then 0 else p1) fun v1 =>
  g_X0_strikeOut_b6 LS t_spells 100 t_cooked t_texts v1
def g_X0_settle_b13 (t_cookedSoFar : Int32) (t_cooked : Nat → Int32) (p2_storesIn : Nat → Int32) (p1 : Int32) : Nat → (Nat → Int32) → (Nat → UInt32) → (Nat → Int32) → Int32 → Int32 → Option (Int32 × Int32 × (Nat → Int32) × (Nat → UInt32) × (Nat → Int32) × (Nat → Int32))
  | 0, _, _, _, _, _ => none
  | n + 1, t_contents_many_13, t_contents_much_13, t_storesIn_13, t_storesSoFar_13, x3_13 =>
    if 6 ≤ x3_13 then
      gc (inb p1 4) <|
      gc (inb p1 4) <|
      gl (t_cookedSoFar + 1) fun v2 =>
      some (v2, t_storesSoFar_13, t_contents_many_13, t_contents_much_13, (upd t_cooked p1.toNatClampNeg ((t_cooked p1.toNatClampNeg) + 1)), t_storesIn_13)
    else
      gc (inb x3_13 6) <|
      gc (inb x3_13 6) <|
      gc (inb x3_13 6) <|
      gc (inb x3_13 6) <|
      gl (t_storesSoFar_13 + (p2_storesIn x3_13.toNatClampNeg)) fun v3 =>
      gl (x3_13 + 1) fun v4 =>
      (g_X0_settle_b13 t_cookedSoFar t_cooked p2_storesIn p1 n) t_contents_many_13 t_contents_much_13 (upd t_storesIn_13 x3_13.toNatClampNeg ((t_storesIn_13 x3_13.toNatClampNeg) + (p2_storesIn x3_13.toNatClampNeg))) v3 v4
def g_X0_settle (t_cookedSoFar : Int32) (t_storesSoFar : Int32) (t_contents_many : Nat → Int32) (p2_now_many : Nat → Int32) (t_contents_much : Nat → UInt32) (p2_now_much : Nat → UInt32) (t_cooked : Nat → Int32) (t_storesIn : Nat → Int32) (p2_storesIn : Nat → Int32) (p1 : Int32) : Option (Int32 × Int32 × (Nat → Int32) × (Nat → UInt32) × (Nat → Int32) × (Nat → Int32)) :=
  gb (g_X1_copy t_contents_many p2_now_many t_contents_much p2_now_much) fun r1 =>
  g_X0_settle_b13 t_cookedSoFar t_cooked p2_storesIn p1 100 r1.1 r1.2 t_storesIn t_storesSoFar 0
def g_X0_spellsThat_b46 (LS : List Nat) (SE : Nat → SV) (t_spells : Int32) (t_texts : Nat → Option Nat) (p1 : Int32) (p2 : Int32) (k5 : Int32 → Int32 → Option (Int32)) (x3_46 : Int32) (x4_46 : Int32) : Option (Int32) :=
  gl (x4_46 + 1) fun v1 =>
  k5 x3_46 v1
def g_X0_spellsThat_b5 (LS : List Nat) (SE : Nat → SV) (t_spells : Int32) (t_texts : Nat → Option Nat) (p1 : Int32) (p2 : Int32) : Nat → Int32 → Int32 → Option (Int32)
  | 0, _, _ => none
  | n + 1, x3_5, x4_5 =>
    if t_spells ≤ x4_5 then
      some (x3_5)
    else
      gb (g_X0_spellAt t_spells t_texts x4_5) fun r2 =>
      go r2 (
        g_X0_spellsThat_b46 LS SE t_spells t_texts p1 p2 (g_X0_spellsThat_b5 LS SE t_spells t_texts p1 p2 n) x3_5 x4_5) fun a_y17 =>
      gc (inl9 LS a_y17) <|
      gb (g_X8_lastAhead ((SE a_y17).2.2.1) ((SE a_y17).2.2.2.2.2.2.1) ((SE a_y17).2.2.2.2.2.2.2.1) p1 p2 ((SE a_y17).2.2.1)) fun r3 =>
      if r3 = (-1) then
        g_X0_spellsThat_b46 LS SE t_spells t_texts p1 p2 (g_X0_spellsThat_b5 LS SE t_spells t_texts p1 p2 n) x3_5 x4_5
      else
        gl (x3_5 + 1) fun v4 =>
        g_X0_spellsThat_b46 LS SE t_spells t_texts p1 p2 (g_X0_spellsThat_b5 LS SE t_spells t_texts p1 p2 n) v4 x4_5
def g_X0_spellsThat (LS : List Nat) (SE : Nat → SV) (t_spells : Int32) (t_texts : Nat → Option Nat) (p1 : Int32) (p2 : Int32) : Option (Int32) :=
  g_X0_spellsThat_b5 LS SE t_spells t_texts p1 p2 100 0 0
def g_X0_comesAhead (LS : List Nat) (SE : Nat → SV) (t_spells : Int32) (t_texts : Nat → Option Nat) (p1 : Int32) (p2 : Int32) : Option (Int32) :=
  gb (g_X0_spellAt t_spells t_texts p1) fun r1 =>
  go r1 (
    gb (g_X0_spellAt t_spells t_texts p2) fun r2 =>
    go r2 (
      some (0)) fun a_y8 =>
    gc (inl9 LS a_y8) <|
    some (0)) fun a_y2 =>
  gc (inl9 LS a_y2) <|
  gb (g_X0_spellAt t_spells t_texts p2) fun r3 =>
  go r3 (
    some (0)) fun a_y8 =>
  gc (inl9 LS a_y8) <|
  if (SE a_y2).2.2.1 = (SE a_y8).2.2.1 then
    if (SE a_y2).2.2.2.1 = (SE a_y8).2.2.2.1 then
      if p2 ≤ p1 then
        some (0)
      else
        some (1)
    else
      if (SE a_y2).2.2.2.1 ≤ (SE a_y8).2.2.2.1 then
        some (0)
      else
        some (1)
  else
    if (SE a_y8).2.2.1 ≤ (SE a_y2).2.2.1 then
      some (0)
    else
      some (1)
def g_X0_spellsAhead_b24 (LS : List Nat) (SE : Nat → SV) (t_spells : Int32) (t_texts : Nat → Option Nat) (p1 : Int32) (k4 : Int32 → Int32 → Option (Int32)) (x2_24 : Int32) (x3_24 : Int32) : Option (Int32) :=
  gl (x3_24 + 1) fun v1 =>
  k4 x2_24 v1
def g_X0_spellsAhead_b4 (LS : List Nat) (SE : Nat → SV) (t_spells : Int32) (t_texts : Nat → Option Nat) (p1 : Int32) : Nat → Int32 → Int32 → Option (Int32)
  | 0, _, _ => none
  | n + 1, x2_4, x3_4 =>
    if t_spells ≤ x3_4 then
      some (x2_4)
    else
      gb (g_X0_comesAhead LS SE t_spells t_texts x3_4 p1) fun r2 =>
      if r2 = 0 then
        g_X0_spellsAhead_b24 LS SE t_spells t_texts p1 (g_X0_spellsAhead_b4 LS SE t_spells t_texts p1 n) x2_4 x3_4
      else
        gl (x2_4 + 1) fun v3 =>
        g_X0_spellsAhead_b24 LS SE t_spells t_texts p1 (g_X0_spellsAhead_b4 LS SE t_spells t_texts p1 n) v3 x3_4
def g_X0_spellsAhead (LS : List Nat) (SE : Nat → SV) (t_spells : Int32) (t_texts : Nat → Option Nat) (p1 : Int32) : Option (Int32) :=
  g_X0_spellsAhead_b4 LS SE t_spells t_texts p1 100 0 0
def g_X4_remember_b35 (t_changes : Int32) (bk_contents_many_35 : Nat → Int32) (bk_contents_much_35 : Nat → UInt32) (bk_cooked_35 : Nat → Int32) (bk_high_35 : Nat → Int32) (bk_isBroth_35 : Nat → Int32) (bk_low_35 : Nat → Int32) (bk_storesIn_35 : Nat → Int32) (bk_texts_35 : Nat → Option Nat) (bk_cauldrons_35 : Int32) (bk_storesSoFar_35 : Int32) (bk_spells_35 : Int32) (bk_cookedSoFar_35 : Int32) (s1_35 : Int32) : Option (Int32 × Int32 × Int32 × Int32 × Int32 × Int32 × (Nat → Int32) × (Nat → UInt32) × (Nat → Int32) × (Nat → Int32) × (Nat → Int32) × (Nat → Int32) × (Nat → Option Nat) × (Nat → Int32)) :=
  gl (if 6 < (t_changes + 1) then 6 else (t_changes + 1)) fun v2 =>
  some (s1_35, v2, bk_cauldrons_35, bk_spells_35, bk_cookedSoFar_35, bk_storesSoFar_35, bk_contents_many_35, bk_contents_much_35, bk_isBroth_35, bk_low_35, bk_high_35, bk_storesIn_35, bk_texts_35, bk_cooked_35)
def g_X4_remember (LS : List Nat) (SE : Nat → SV) (t_next : Int32) (t_changes : Int32) (p1_cauldrons : Int32) (p1_spells : Int32) (p1_cookedSoFar : Int32) (p1_storesSoFar : Int32) (t_books : Nat → Option Nat) (bk_cauldrons : Int32) (bk_spells : Int32) (bk_cookedSoFar : Int32) (bk_storesSoFar : Int32) (bk_contents_many : Nat → Int32) (p1_contents_many : Nat → Int32) (bk_contents_much : Nat → UInt32) (p1_contents_much : Nat → UInt32) (bk_isBroth : Nat → Int32) (p1_isBroth : Nat → Int32) (bk_low : Nat → Int32) (p1_low : Nat → Int32) (bk_high : Nat → Int32) (p1_high : Nat → Int32) (bk_storesIn : Nat → Int32) (p1_storesIn : Nat → Int32) (bk_texts : Nat → Option Nat) (p1_texts : Nat → Option Nat) (bk_cooked : Nat → Int32) (p1_cooked : Nat → Int32) (a_bk : Nat) : Option (Int32 × Int32 × Int32 × Int32 × Int32 × Int32 × (Nat → Int32) × (Nat → UInt32) × (Nat → Int32) × (Nat → Int32) × (Nat → Int32) × (Nat → Int32) × (Nat → Option Nat) × (Nat → Int32)) :=
  gc (inb t_next 6) <|
  gc (decide ((t_books t_next.toNatClampNeg) = some a_bk)) <|
  gb (g_X0_copy LS SE bk_cauldrons bk_spells bk_cookedSoFar bk_storesSoFar p1_cauldrons p1_spells p1_cookedSoFar p1_storesSoFar bk_contents_many p1_contents_many bk_contents_much p1_contents_much bk_isBroth p1_isBroth bk_low p1_low bk_high p1_high bk_storesIn p1_storesIn bk_texts p1_texts bk_cooked p1_cooked) fun r1 =>
  if 6 ≤ (t_next + 1) then
    g_X4_remember_b35 t_changes r1.2.2.2.2.1 r1.2.2.2.2.2.1 r1.2.2.2.2.2.2.2.2.2.2.2 r1.2.2.2.2.2.2.2.2.1 r1.2.2.2.2.2.2.1 r1.2.2.2.2.2.2.2.1 r1.2.2.2.2.2.2.2.2.2.1 r1.2.2.2.2.2.2.2.2.2.2.1 r1.1 r1.2.2.2.1 r1.2.1 r1.2.2.1 0
  else
    g_X4_remember_b35 t_changes r1.2.2.2.2.1 r1.2.2.2.2.2.1 r1.2.2.2.2.2.2.2.2.2.2.2 r1.2.2.2.2.2.2.2.2.1 r1.2.2.2.2.2.2.1 r1.2.2.2.2.2.2.2.1 r1.2.2.2.2.2.2.2.2.2.1 r1.2.2.2.2.2.2.2.2.2.2.1 r1.1 r1.2.2.2.1 r1.2.1 r1.2.2.1 (t_next + 1)
def g_X4_giveBack_b18 (LS : List Nat) (SE : Nat → SV) (t_changes : Int32) (p1_cauldrons : Int32) (p1_spells : Int32) (p1_cookedSoFar : Int32) (p1_storesSoFar : Int32) (t_books : Nat → Option Nat) (bk_cauldrons : Int32) (bk_spells : Int32) (bk_cookedSoFar : Int32) (bk_storesSoFar : Int32) (p1_contents_many : Nat → Int32) (bk_contents_many : Nat → Int32) (p1_contents_much : Nat → UInt32) (bk_contents_much : Nat → UInt32) (p1_isBroth : Nat → Int32) (bk_isBroth : Nat → Int32) (p1_low : Nat → Int32) (bk_low : Nat → Int32) (p1_high : Nat → Int32) (bk_high : Nat → Int32) (p1_storesIn : Nat → Int32) (bk_storesIn : Nat → Int32) (p1_texts : Nat → Option Nat) (bk_texts : Nat → Option Nat) (p1_cooked : Nat → Int32) (bk_cooked : Nat → Int32) (a_bk : Nat) (s1_18 : Int32) : Option (Int32 × Int32 × Int32 × Int32 × Int32 × Int32 × (Nat → Int32) × (Nat → UInt32) × (Nat → Int32) × (Nat → Int32) × (Nat → Int32) × (Nat → Int32) × (Nat → Option Nat) × (Nat → Int32)) :=
  gc (inb s1_18 6) <|
  gc (decide ((t_books s1_18.toNatClampNeg) = some a_bk)) <|
  gb (g_X0_copy LS SE p1_cauldrons p1_spells p1_cookedSoFar p1_storesSoFar bk_cauldrons bk_spells bk_cookedSoFar bk_storesSoFar p1_contents_many bk_contents_many p1_contents_much bk_contents_much p1_isBroth bk_isBroth p1_low bk_low p1_high bk_high p1_storesIn bk_storesIn p1_texts bk_texts p1_cooked bk_cooked) fun r1 =>
  gl (t_changes - 1) fun v2 =>
  some (s1_18, v2, r1.1, r1.2.1, r1.2.2.1, r1.2.2.2.1, r1.2.2.2.2.1, r1.2.2.2.2.2.1, r1.2.2.2.2.2.2.1, r1.2.2.2.2.2.2.2.1, r1.2.2.2.2.2.2.2.2.1, r1.2.2.2.2.2.2.2.2.2.1, r1.2.2.2.2.2.2.2.2.2.2.1, r1.2.2.2.2.2.2.2.2.2.2.2)
def g_X4_giveBack (LS : List Nat) (SE : Nat → SV) (t_next : Int32) (t_changes : Int32) (p1_cauldrons : Int32) (p1_spells : Int32) (p1_cookedSoFar : Int32) (p1_storesSoFar : Int32) (t_books : Nat → Option Nat) (bk_cauldrons : Int32) (bk_spells : Int32) (bk_cookedSoFar : Int32) (bk_storesSoFar : Int32) (p1_contents_many : Nat → Int32) (bk_contents_many : Nat → Int32) (p1_contents_much : Nat → UInt32) (bk_contents_much : Nat → UInt32) (p1_isBroth : Nat → Int32) (bk_isBroth : Nat → Int32) (p1_low : Nat → Int32) (bk_low : Nat → Int32) (p1_high : Nat → Int32) (bk_high : Nat → Int32) (p1_storesIn : Nat → Int32) (bk_storesIn : Nat → Int32) (p1_texts : Nat → Option Nat) (bk_texts : Nat → Option Nat) (p1_cooked : Nat → Int32) (bk_cooked : Nat → Int32) (a_bk : Nat) : Option (Int32 × Int32 × Int32 × Int32 × Int32 × Int32 × (Nat → Int32) × (Nat → UInt32) × (Nat → Int32) × (Nat → Int32) × (Nat → Int32) × (Nat → Int32) × (Nat → Option Nat) × (Nat → Int32)) :=
  if t_next ≤ 0 then
    g_X4_giveBack_b18 LS SE t_changes p1_cauldrons p1_spells p1_cookedSoFar p1_storesSoFar t_books bk_cauldrons bk_spells bk_cookedSoFar bk_storesSoFar p1_contents_many bk_contents_many p1_contents_much bk_contents_much p1_isBroth bk_isBroth p1_low bk_low p1_high bk_high p1_storesIn bk_storesIn p1_texts bk_texts p1_cooked bk_cooked a_bk 5
  else
    g_X4_giveBack_b18 LS SE t_changes p1_cauldrons p1_spells p1_cookedSoFar p1_storesSoFar t_books bk_cauldrons bk_spells bk_cookedSoFar bk_storesSoFar p1_contents_many bk_contents_many p1_contents_much bk_contents_much p1_isBroth bk_isBroth p1_low bk_low p1_high bk_high p1_storesIn bk_storesIn p1_texts bk_texts p1_cooked bk_cooked a_bk (t_next - 1)
def g_X4_forget (t_changes : Int32) : Option (Int32) :=
  some (0)
def g_X2_begin (t_now_many : Nat → Int32) (p1_contents_many : Nat → Int32) (t_now_much : Nat → UInt32) (p1_contents_much : Nat → UInt32) : Option ((Nat → Int32) × (Nat → UInt32)) :=
  gb (g_X1_copy t_now_many p1_contents_many t_now_much p1_contents_much) fun r1 =>
  some (r1.1, r1.2)
def g_X2_lay (t_spoons : Int32) (t_isBroth : Nat → Int32) (t_many : Nat → Int32) (t_much : Nat → UInt32) (p1 : Int32) (p2 : Int32) (p3 : UInt32) : Option (Int32 × Int32 × (Nat → Int32) × (Nat → Int32) × (Nat → UInt32)) :=
  if t_spoons < 0 then
    some (0, t_spoons, t_isBroth, t_many, t_much)
  else
    if t_spoons < 5 then
      gc (inb t_spoons 5) <|
      gc (inb t_spoons 5) <|
      gc (inb t_spoons 5) <|
      gl (t_spoons + 1) fun v1 =>
      some (1, v1, (upd t_isBroth t_spoons.toNatClampNeg (vp_nar .boolean p1)), (upd t_many t_spoons.toNatClampNeg p2), (vf_upd t_much t_spoons.toNatClampNeg p3))
    else
      some (0, t_spoons, t_isBroth, t_many, t_much)
def g_X2_boil (t_cause : Int32) (t_causeDetail : Int32) (p1 : Int32) (p2 : Int32) : Option (Int32 × Int32 × Int32) :=
  some (0, p1, p2)
def g_X2_goesCast (t_cause : Int32) (t_causeDetail : Int32) (t_spoons : Int32) (t_isBroth : Nat → Int32) (t_many : Nat → Int32) (t_much : Nat → UInt32) (p1 : Int32) : Option (Int32 × Int32 × Int32 × (Nat → Int32) × (Nat → Int32) × (Nat → UInt32)) :=
  gl (t_spoons - 1) fun v1 =>
  if v1 < 0 then
    some (0, t_cause, t_causeDetail, t_isBroth, t_many, t_much)
  else
    if v1 < 5 then
      gc (inb v1 5) <|
      if (t_isBroth v1.toNatClampNeg) = p1 then
        gb (g_X2_boil t_cause t_causeDetail (7 : Int32) (-1 : Int32)) fun r4 =>
        gc (bo r4.1) <|
        some (r4.1, r4.2.1, r4.2.2, t_isBroth, t_many, t_much)
      else
        gc (inb v1 5) <|
        if p1 = 0 then
          gc (inb v1 5) <|
          gb (g_X5_toDrams (t_much v1.toNatClampNeg)) fun r2 =>
          gc (inb v1 5) <|
          some (1, t_cause, t_causeDetail, (upd t_isBroth v1.toNatClampNeg (vp_nar .boolean p1)), (upd t_many v1.toNatClampNeg r2), t_much)
        else
          gc (inb v1 5) <|
          gb (g_X5_toBroth (t_many v1.toNatClampNeg)) fun r3 =>
          gc (inb v1 5) <|
          some (1, t_cause, t_causeDetail, (upd t_isBroth v1.toNatClampNeg (vp_nar .boolean p1)), t_many, (vf_upd t_much v1.toNatClampNeg r3))
    else
      some (0, t_cause, t_causeDetail, t_isBroth, t_many, t_much)
def g_X2_goesStore_b113 (t_cause : Int32) (t_causeDetail : Int32) (t_spoons : Int32) (t_storesIn : Nat → Int32) (p1 : Int32) (t_now_many_113 : Nat → Int32) (t_now_much_113 : Nat → UInt32) : Option (Int32 × Int32 × Int32 × Int32 × (Nat → Int32) × (Nat → UInt32) × (Nat → Int32)) :=
  gc (inb p1 6) <|
  gc (inb p1 6) <|
  gl (t_spoons - 1) fun v5 =>
  some (1, t_cause, t_causeDetail, v5, t_now_many_113, t_now_much_113, (upd t_storesIn p1.toNatClampNeg ((t_storesIn p1.toNatClampNeg) + 1)))
def g_X2_goesStore (t_cause : Int32) (t_causeDetail : Int32) (t_spoons : Int32) (t_isBroth : Nat → Int32) (p2_isBroth : Nat → Int32) (t_many : Nat → Int32) (p2_low : Nat → Int32) (p2_high : Nat → Int32) (t_now_many : Nat → Int32) (t_now_much : Nat → UInt32) (t_much : Nat → UInt32) (t_storesIn : Nat → Int32) (p1 : Int32) : Option (Int32 × Int32 × Int32 × Int32 × (Nat → Int32) × (Nat → UInt32) × (Nat → Int32)) :=
  gl (t_spoons - 1) fun v1 =>
  if v1 < 0 then
    some (0, t_cause, t_causeDetail, t_spoons, t_now_many, t_now_much, t_storesIn)
  else
    if v1 < 5 then
      gc (inb v1 5) <|
      gc (inb p1 6) <|
      if (t_isBroth v1.toNatClampNeg) = (p2_isBroth p1.toNatClampNeg) then
        gc (inb v1 5) <|
        if (t_isBroth v1.toNatClampNeg) = 0 then
          gc (inb v1 5) <|
          gb (g_X0_holds p2_low p2_high p1 ((t_many v1.toNatClampNeg).toInt64)) fun r2 =>
          if r2 = 0 then
            gc (inb v1 5) <|
            gb (g_X2_boil t_cause t_causeDetail (3 : Int32) (t_many v1.toNatClampNeg)) fun r3 =>
            gc (bo r3.1) <|
            some (r3.1, r3.2.1, r3.2.2, t_spoons, t_now_many, t_now_much, t_storesIn)
          else
            gc (inb v1 5) <|
            gc (inb p1 6) <|
            g_X2_goesStore_b113 t_cause t_causeDetail t_spoons t_storesIn p1 (upd t_now_many p1.toNatClampNeg (t_many v1.toNatClampNeg)) t_now_much
        else
          gc (inb v1 5) <|
          gc (inb p1 6) <|
          g_X2_goesStore_b113 t_cause t_causeDetail t_spoons t_storesIn p1 t_now_many (vf_upd t_now_much p1.toNatClampNeg (t_much v1.toNatClampNeg))
      else
        gb (g_X2_boil t_cause t_causeDetail (7 : Int32) p1) fun r4 =>
        gc (bo r4.1) <|
        some (r4.1, r4.2.1, r4.2.2, t_spoons, t_now_many, t_now_much, t_storesIn)
    else
      some (0, t_cause, t_causeDetail, t_spoons, t_now_many, t_now_much, t_storesIn)
def g_X2_goesReckoning (t_cause : Int32) (t_causeDetail : Int32) (t_spoons : Int32) (t_isBroth : Nat → Int32) (t_many : Nat → Int32) (t_much : Nat → UInt32) (p1 : Int32) : Option (Int32 × Int32 × Int32 × Int32 × (Nat → Int32) × (Nat → UInt32)) :=
  gl (t_spoons - 1) fun v1 =>
  gl (t_spoons - 2) fun v2 =>
  if v2 < 0 then
    some (0, t_cause, t_causeDetail, t_spoons, t_many, t_much)
  else
    if v1 < 5 then
      gc (inb v2 5) <|
      gc (inb v1 5) <|
      if (t_isBroth v2.toNatClampNeg) = (t_isBroth v1.toNatClampNeg) then
        gl (t_spoons - 1) fun v3 =>
        gc (inb v2 5) <|
        if (t_isBroth v2.toNatClampNeg) = 0 then
          gc (inb v2 5) <|
          gc (inb v1 5) <|
          gb (g_X5_ofDrams p1 ((t_many v2.toNatClampNeg).toInt64) ((t_many v1.toNatClampNeg).toInt64)) fun r4 =>
          gb (g_X5_excess r4) fun r5 =>
          if r5 = 0 then
            gc (inb v2 5) <|
            some (1, t_cause, t_causeDetail, v3, (upd t_many v2.toNatClampNeg r4.toInt32), t_much)
          else
            gb (g_X5_excess r4) fun r6 =>
            gb (g_X2_boil t_cause t_causeDetail (8 : Int32) r6) fun r7 =>
            gc (bo r7.1) <|
            some (r7.1, r7.2.1, r7.2.2, v3, t_many, t_much)
        else
          gc (inb v2 5) <|
          gc (inb v1 5) <|
          gb (g_X5_ofBroth p1 (t_much v2.toNatClampNeg) (t_much v1.toNatClampNeg)) fun r8 =>
          gc (inb v2 5) <|
          some (1, t_cause, t_causeDetail, v3, t_many, (vf_upd t_much v2.toNatClampNeg r8))
      else
        gb (g_X2_boil t_cause t_causeDetail (7 : Int32) (-1 : Int32)) fun r9 =>
        gc (bo r9.1) <|
        some (r9.1, r9.2.1, r9.2.2, t_spoons, t_many, t_much)
    else
      some (0, t_cause, t_causeDetail, t_spoons, t_many, t_much)
def g_X2_goesToken_b140 (t_cause : Int32) (t_causeDetail : Int32) (t_spoons : Int32) (t_now_many : Nat → Int32) (t_now_much : Nat → UInt32) (t_isBroth : Nat → Int32) (t_many : Nat → Int32) (t_much : Nat → UInt32) (t_storesIn : Nat → Int32) (p1 : Int32) : Option (Int32 × Int32 × Int32 × Int32 × (Nat → Int32) × (Nat → UInt32) × (Nat → Int32) × (Nat → Int32) × (Nat → UInt32) × (Nat → Int32)) :=
  gb (g_X2_goesReckoning t_cause t_causeDetail t_spoons t_isBroth t_many t_much p1) fun r6 =>
  gc (bo r6.1) <|
  some (r6.1, r6.2.1, r6.2.2.1, r6.2.2.2.1, t_now_many, t_now_much, t_isBroth, r6.2.2.2.2.1, r6.2.2.2.2.2, t_storesIn)
def g_X2_goesToken (t_cause : Int32) (t_causeDetail : Int32) (t_spoons : Int32) (p3_isBroth : Nat → Int32) (t_now_many : Nat → Int32) (t_now_much : Nat → UInt32) (t_isBroth : Nat → Int32) (t_many : Nat → Int32) (t_much : Nat → UInt32) (p3_low : Nat → Int32) (p3_high : Nat → Int32) (t_storesIn : Nat → Int32) (p1 : Int32) (p2 : Int32) : Option (Int32 × Int32 × Int32 × Int32 × (Nat → Int32) × (Nat → UInt32) × (Nat → Int32) × (Nat → Int32) × (Nat → UInt32) × (Nat → Int32)) :=
  if p1 = 0 then
    if p2 < 0 then
      some (0, t_cause, t_causeDetail, t_spoons, t_now_many, t_now_much, t_isBroth, t_many, t_much, t_storesIn)
    else
      if 6 ≤ p2 then
        some (0, t_cause, t_causeDetail, t_spoons, t_now_many, t_now_much, t_isBroth, t_many, t_much, t_storesIn)
      else
        gc (inb p2 6) <|
        gc (inb p2 6) <|
        gc (inb p2 6) <|
        gb (g_X2_lay t_spoons t_isBroth t_many t_much (p3_isBroth p2.toNatClampNeg) (t_now_many p2.toNatClampNeg) (t_now_much p2.toNatClampNeg)) fun r1 =>
        if r1.1 = 0 then
          some (0, t_cause, t_causeDetail, r1.2.1, t_now_many, t_now_much, r1.2.2.1, r1.2.2.2.1, r1.2.2.2.2, t_storesIn)
        else
          some (1, t_cause, t_causeDetail, r1.2.1, t_now_many, t_now_much, r1.2.2.1, r1.2.2.2.1, r1.2.2.2.2, t_storesIn)
  else
    if p1 = 1 then
      gb (g_X2_lay t_spoons t_isBroth t_many t_much (0 : Int32) p2 FP.fconst0) fun r2 =>
      gc (bo r2.1) <|
      some (r2.1, t_cause, t_causeDetail, r2.2.1, t_now_many, t_now_much, r2.2.2.1, r2.2.2.2.1, r2.2.2.2.2, t_storesIn)
    else
      if p1 = 2 then
        g_X2_goesToken_b140 t_cause t_causeDetail t_spoons t_now_many t_now_much t_isBroth t_many t_much t_storesIn p1
      else
        if p1 = 3 then
          g_X2_goesToken_b140 t_cause t_causeDetail t_spoons t_now_many t_now_much t_isBroth t_many t_much t_storesIn p1
        else
          if p1 = 4 then
            g_X2_goesToken_b140 t_cause t_causeDetail t_spoons t_now_many t_now_much t_isBroth t_many t_much t_storesIn p1
          else
            if p1 = 5 then
              gb (g_X2_goesCast t_cause t_causeDetail t_spoons t_isBroth t_many t_much (1 : Int32)) fun r3 =>
              gc (bo r3.1) <|
              some (r3.1, r3.2.1, r3.2.2.1, t_spoons, t_now_many, t_now_much, r3.2.2.2.1, r3.2.2.2.2.1, r3.2.2.2.2.2, t_storesIn)
            else
              if p1 = 6 then
                gb (g_X2_goesCast t_cause t_causeDetail t_spoons t_isBroth t_many t_much (0 : Int32)) fun r4 =>
                gc (bo r4.1) <|
                some (r4.1, r4.2.1, r4.2.2.1, t_spoons, t_now_many, t_now_much, r4.2.2.2.1, r4.2.2.2.2.1, r4.2.2.2.2.2, t_storesIn)
              else
                if p1 = 7 then
                  if p2 < 0 then
                    some (0, t_cause, t_causeDetail, t_spoons, t_now_many, t_now_much, t_isBroth, t_many, t_much, t_storesIn)
                  else
                    if 6 ≤ p2 then
                      some (0, t_cause, t_causeDetail, t_spoons, t_now_many, t_now_much, t_isBroth, t_many, t_much, t_storesIn)
                    else
                      gb (g_X2_goesStore t_cause t_causeDetail t_spoons t_isBroth p3_isBroth t_many p3_low p3_high t_now_many t_now_much t_much t_storesIn p2) fun r5 =>
                      if r5.1 = 0 then
                        some (0, r5.2.1, r5.2.2.1, r5.2.2.2.1, r5.2.2.2.2.1, r5.2.2.2.2.2.1, t_isBroth, t_many, t_much, r5.2.2.2.2.2.2)
                      else
                        some (1, r5.2.1, r5.2.2.1, r5.2.2.2.1, r5.2.2.2.2.1, r5.2.2.2.2.2.1, t_isBroth, t_many, t_much, r5.2.2.2.2.2.2)
                else
                  g_X2_goesToken_b140 t_cause t_causeDetail t_spoons t_now_many t_now_much t_isBroth t_many t_much t_storesIn p1
def g_X2_goesOn_b44 (p1_tokens : Int32) (p1_kinds : Nat → Int32) (p1_values : Nat → Int32) (p2_isBroth : Nat → Int32) (p2_low : Nat → Int32) (p2_high : Nat → Int32) : Nat → (Nat → Int32) → (Nat → UInt32) → (Nat → Int32) → (Nat → Int32) → (Nat → UInt32) → (Nat → Int32) → (Nat → UInt32) → (Nat → Int32) → Int32 → Int32 → Int32 → Int32 → Option (Int32 × Int32 × Int32 × Int32 × Int32 × (Nat → Int32) × (Nat → Int32) × (Nat → UInt32) × (Nat → UInt32) × (Nat → Int32) × (Nat → Int32) × (Nat → Int32) × (Nat → UInt32))
  | 0, _, _, _, _, _, _, _, _, _, _, _, _ => none
  | n + 1, t_before_many_44, t_before_much_44, t_isBroth_44, t_many_44, t_much_44, t_now_many_44, t_now_much_44, t_storesIn_44, t_cause_44, t_causeDetail_44, t_spoons_44, x3_44 =>
    if p1_tokens ≤ x3_44 then
      some (1, (-1), t_cause_44, t_causeDetail_44, t_spoons_44, t_before_many_44, t_now_many_44, t_before_much_44, t_now_much_44, t_storesIn_44, t_isBroth_44, t_many_44, t_much_44)
    else
      gc (inb x3_44 24) <|
      gc (inb x3_44 24) <|
      gb (g_X2_goesToken t_cause_44 t_causeDetail_44 t_spoons_44 p2_isBroth t_now_many_44 t_now_much_44 t_isBroth_44 t_many_44 t_much_44 p2_low p2_high t_storesIn_44 (p1_kinds x3_44.toNatClampNeg) (p1_values x3_44.toNatClampNeg)) fun r2 =>
      if r2.1 = 0 then
        some (0, x3_44, r2.2.1, r2.2.2.1, r2.2.2.2.1, t_before_many_44, r2.2.2.2.2.1, t_before_much_44, r2.2.2.2.2.2.1, r2.2.2.2.2.2.2.2.2.2, r2.2.2.2.2.2.2.1, r2.2.2.2.2.2.2.2.1, r2.2.2.2.2.2.2.2.2.1)
      else
        gl (x3_44 + 1) fun v3 =>
        (g_X2_goesOn_b44 p1_tokens p1_kinds p1_values p2_isBroth p2_low p2_high n) t_before_many_44 t_before_much_44 r2.2.2.2.2.2.2.1 r2.2.2.2.2.2.2.2.1 r2.2.2.2.2.2.2.2.2.1 r2.2.2.2.2.1 r2.2.2.2.2.2.1 r2.2.2.2.2.2.2.2.2.2 r2.2.1 r2.2.2.1 r2.2.2.2.1 v3
def g_X2_goesOn_b13 (t_cause : Int32) (t_causeDetail : Int32) (p1_tokens : Int32) (t_now_many : Nat → Int32) (t_now_much : Nat → UInt32) (p1_kinds : Nat → Int32) (p1_values : Nat → Int32) (p2_isBroth : Nat → Int32) (t_isBroth : Nat → Int32) (t_many : Nat → Int32) (t_much : Nat → UInt32) (p2_low : Nat → Int32) (p2_high : Nat → Int32) : Nat → (Nat → Int32) → (Nat → UInt32) → (Nat → Int32) → Int32 → Option (Int32 × Int32 × Int32 × Int32 × Int32 × (Nat → Int32) × (Nat → Int32) × (Nat → UInt32) × (Nat → UInt32) × (Nat → Int32) × (Nat → Int32) × (Nat → Int32) × (Nat → UInt32))
  | 0, _, _, _, _ => none
  | n + 1, t_before_many_13, t_before_much_13, t_storesIn_13, x3_13 =>
    if 6 ≤ x3_13 then
      g_X2_goesOn_b44 p1_tokens p1_kinds p1_values p2_isBroth p2_low p2_high 100 t_before_many_13 t_before_much_13 t_isBroth t_many t_much t_now_many t_now_much t_storesIn_13 t_cause t_causeDetail 0 0
    else
      gc (inb x3_13 6) <|
      gl (x3_13 + 1) fun v4 =>
      (g_X2_goesOn_b13 t_cause t_causeDetail p1_tokens t_now_many t_now_much p1_kinds p1_values p2_isBroth t_isBroth t_many t_much p2_low p2_high n) t_before_many_13 t_before_much_13 (upd t_storesIn_13 x3_13.toNatClampNeg 0) v4
def g_X2_goesOn (t_boilsAt : Int32) (t_cause : Int32) (t_causeDetail : Int32) (t_spoons : Int32) (p1_tokens : Int32) (t_before_many : Nat → Int32) (t_now_many : Nat → Int32) (t_before_much : Nat → UInt32) (t_now_much : Nat → UInt32) (t_storesIn : Nat → Int32) (p1_kinds : Nat → Int32) (p1_values : Nat → Int32) (p2_isBroth : Nat → Int32) (t_isBroth : Nat → Int32) (t_many : Nat → Int32) (t_much : Nat → UInt32) (p2_low : Nat → Int32) (p2_high : Nat → Int32) : Option (Int32 × Int32 × Int32 × Int32 × Int32 × (Nat → Int32) × (Nat → Int32) × (Nat → UInt32) × (Nat → UInt32) × (Nat → Int32) × (Nat → Int32) × (Nat → Int32) × (Nat → UInt32)) :=
  gb (g_X1_copy t_before_many t_now_many t_before_much t_now_much) fun r1 =>
  g_X2_goesOn_b13 t_cause t_causeDetail p1_tokens t_now_many t_now_much p1_kinds p1_values p2_isBroth t_isBroth t_many t_much p2_low p2_high 100 r1.1 r1.2 t_storesIn 0
def g_X2_changes (t_now_many : Nat → Int32) (t_before_many : Nat → Int32) (t_now_much : Nat → UInt32) (t_before_much : Nat → UInt32) : Option (Int32) :=
  gb (g_X1_differences t_now_many t_before_many t_now_much t_before_much) fun r1 =>
  some (r1)
def g_X3_givesBroth (t_isBroth : Nat → Int32) (t_much : Nat → UInt32) (p1 : Int32) (p2 : UInt32) : Option (Int32 × (Nat → Int32) × (Nat → UInt32)) :=
  gc (inb p1 24) <|
  gc (inb p1 24) <|
  some (1, (upd t_isBroth p1.toNatClampNeg (vp_nar .boolean 1)), (vf_upd t_much p1.toNatClampNeg p2))
def g_X3_givesDrams (t_isBroth : Nat → Int32) (t_many : Nat → Int32) (p1 : Int32) (p2 : Int64) : Option (Int32 × (Nat → Int32) × (Nat → Int32)) :=
  gc (inb p1 24) <|
  gc (inb p1 24) <|
  gb (g_X5_excess p2) fun r1 =>
  if r1 = 0 then
    some (1, (upd t_isBroth p1.toNatClampNeg (vp_nar .boolean 0)), (upd t_many p1.toNatClampNeg p2.toInt32))
  else
    some (0, (upd t_isBroth p1.toNatClampNeg (vp_nar .boolean 0)), (upd t_many p1.toNatClampNeg p2.toInt32))
def g_X3_goesTake_b97 (t_many : Nat → Int32) (t_much : Nat → UInt32) (t_isBroth : Nat → Int32) (p3 : Int32) (s2_97 : Int64) : Option (Int32 × (Nat → Int32) × (Nat → UInt32) × (Nat → Int32)) :=
  gb (g_X3_givesDrams t_isBroth t_many p3 s2_97) fun r2 =>
  gc (bo r2.1) <|
  some (r2.1, r2.2.2, t_much, r2.2.1)
def g_X3_goesTake_b63 (t_many : Nat → Int32) (t_much : Nat → UInt32) (t_isBroth : Nat → Int32) (p3 : Int32) (s2_63 : UInt32) : Option (Int32 × (Nat → Int32) × (Nat → UInt32) × (Nat → Int32)) :=
  gb (g_X3_givesBroth t_isBroth t_much p3 s2_63) fun r3 =>
  gc (bo r3.1) <|
  some (r3.1, t_many, r3.2.2, r3.2.1)
def g_X3_goesTake (p1_tokens : Int32) (p1_kinds : Nat → Int32) (p1_values : Nat → Int32) (p2_isBroth : Nat → Int32) (t_many : Nat → Int32) (p2_contents_many : Nat → Int32) (t_much : Nat → UInt32) (p2_contents_much : Nat → UInt32) (t_isBroth : Nat → Int32) (p3 : Int32) (p4 : Int32) : Option (Int32 × (Nat → Int32) × (Nat → UInt32) × (Nat → Int32)) :=
  if p4 < 0 then
    some (0, t_many, t_much, t_isBroth)
  else
    if p4 < 6 then
      gb (g_X8_lastAhead p1_tokens p1_kinds p1_values (7 : Int32) p4 p3) fun r1 =>
      gc (inb p4 6) <|
      if (p2_isBroth p4.toNatClampNeg) = 0 then
        if r1 = (-1) then
          gc (inb p4 6) <|
          g_X3_goesTake_b97 t_many t_much t_isBroth p3 ((p2_contents_many p4.toNatClampNeg).toInt64)
        else
          gc (inb r1 24) <|
          g_X3_goesTake_b97 t_many t_much t_isBroth p3 ((t_many r1.toNatClampNeg).toInt64)
      else
        if r1 = (-1) then
          gc (inb p4 6) <|
          g_X3_goesTake_b63 t_many t_much t_isBroth p3 (p2_contents_much p4.toNatClampNeg)
        else
          gc (inb r1 24) <|
          g_X3_goesTake_b63 t_many t_much t_isBroth p3 (t_much r1.toNatClampNeg)
    else
      some (0, t_many, t_much, t_isBroth)
def g_X3_goesCast (t_isBroth : Nat → Int32) (t_much : Nat → UInt32) (t_many : Nat → Int32) (p1 : Int32) (p2 : Int32) (p3 : Int32) : Option (Int32 × (Nat → Int32) × (Nat → UInt32) × (Nat → Int32)) :=
  gc (inb p2 24) <|
  if (t_isBroth p2.toNatClampNeg) = p3 then
    some (0, t_isBroth, t_much, t_many)
  else
    if p3 = 0 then
      gc (inb p2 24) <|
      gb (g_X5_toDrams (t_much p2.toNatClampNeg)) fun r1 =>
      gb (g_X3_givesDrams t_isBroth t_many p1 r1.toInt64) fun r2 =>
      gc (bo r2.1) <|
      some (r2.1, r2.2.1, t_much, r2.2.2)
    else
      gc (inb p2 24) <|
      gb (g_X5_toBroth (t_many p2.toNatClampNeg)) fun r3 =>
      gb (g_X3_givesBroth t_isBroth t_much p1 r3) fun r4 =>
      gc (bo r4.1) <|
      some (r4.1, r4.2.1, r4.2.2, t_many)
def g_X3_goesReckoning (t_isBroth : Nat → Int32) (t_many : Nat → Int32) (t_much : Nat → UInt32) (p1 : Int32) (p2 : Int32) (p3 : Int32) (p4 : Int32) : Option (Int32 × (Nat → Int32) × (Nat → Int32) × (Nat → UInt32)) :=
  gc (inb p3 24) <|
  gc (inb p4 24) <|
  if (t_isBroth p3.toNatClampNeg) = (t_isBroth p4.toNatClampNeg) then
    gc (inb p3 24) <|
    if (t_isBroth p3.toNatClampNeg) = 0 then
      gc (inb p3 24) <|
      gc (inb p4 24) <|
      gb (g_X5_ofDrams p1 ((t_many p3.toNatClampNeg).toInt64) ((t_many p4.toNatClampNeg).toInt64)) fun r1 =>
      gb (g_X3_givesDrams t_isBroth t_many p2 r1) fun r2 =>
      gc (bo r2.1) <|
      some (r2.1, r2.2.1, r2.2.2, t_much)
    else
      gc (inb p3 24) <|
      gc (inb p4 24) <|
      gb (g_X5_ofBroth p1 (t_much p3.toNatClampNeg) (t_much p4.toNatClampNeg)) fun r3 =>
      gb (g_X3_givesBroth t_isBroth t_much p2 r3) fun r4 =>
      gc (bo r4.1) <|
      some (r4.1, r4.2.1, t_many, r4.2.2)
  else
    some (0, t_isBroth, t_many, t_much)
def g_X3_goesPart : Nat → Int32 → (Nat → Int32) → (Nat → Int32) → (Nat → Int32) → (Nat → Int32) → (Nat → UInt32) → (Nat → Int32) → (Nat → Int32) → (Nat → Int32) → (Nat → Int32) → (Nat → UInt32) → Int32 → Int32 → Option (Int32 × (Nat → Int32) × (Nat → UInt32) × (Nat → Int32))
  | 0, _, _, _, _, _, _, _, _, _, _, _, _, _ => none
  | n + 1, p1_tokens, p1_kinds, p1_values, p1_parts, t_isBroth, t_much, t_many, p1_lastParts, p2_isBroth, p2_contents_many, p2_contents_much, p3, p4 =>
    if p3 < 0 then
      some (0, t_isBroth, t_much, t_many)
    else
      if p1_tokens ≤ p3 then
        some (0, t_isBroth, t_much, t_many)
      else
        if p4 ≤ 24 then
          gc (inb p3 24) <|
          gl (p1_kinds p3.toNatClampNeg) fun v1 =>
          gc (inb p3 24) <|
          gl (p1_values p3.toNatClampNeg) fun v2 =>
          if v1 = 0 then
            gb (g_X3_goesTake p1_tokens p1_kinds p1_values p2_isBroth t_many p2_contents_many t_much p2_contents_much t_isBroth p3 v2) fun r13 =>
            gc (bo r13.1) <|
            some (r13.1, r13.2.2.2, r13.2.2.1, r13.2.1)
          else
            if v1 = 1 then
              gb (g_X3_givesDrams t_isBroth t_many p3 v2.toInt64) fun r12 =>
              gc (bo r12.1) <|
              some (r12.1, r12.2.1, t_much, r12.2.2)
            else
              gc (inb p3 24) <|
              gl (p1_parts p3.toNatClampNeg) fun v3 =>
              if v1 = 7 then
                some (0, t_isBroth, t_much, t_many)
              else
                gb (g_X3_goesPart n p1_tokens p1_kinds p1_values p1_parts t_isBroth t_much t_many p1_lastParts p2_isBroth p2_contents_many p2_contents_much v3 (p4 + 1)) fun r4 =>
                if r4.1 = 0 then
                  some (0, r4.2.1, r4.2.2.1, r4.2.2.2)
                else
                  if v1 = 5 then
                    if v1 = 5 then
                      gb (g_X3_goesCast r4.2.1 r4.2.2.1 r4.2.2.2 p3 v3 (1 : Int32)) fun r6 =>
                      gc (bo r6.1) <|
                      some (r6.1, r6.2.1, r6.2.2.1, r6.2.2.2)
                    else
                      gb (g_X3_goesCast r4.2.1 r4.2.2.1 r4.2.2.2 p3 v3 (0 : Int32)) fun r5 =>
                      gc (bo r5.1) <|
                      some (r5.1, r5.2.1, r5.2.2.1, r5.2.2.2)
                  else
                    if v1 = 6 then
                      if v1 = 5 then
                        gb (g_X3_goesCast r4.2.1 r4.2.2.1 r4.2.2.2 p3 v3 (1 : Int32)) fun r11 =>
                        gc (bo r11.1) <|
                        some (r11.1, r11.2.1, r11.2.2.1, r11.2.2.2)
                      else
                        gb (g_X3_goesCast r4.2.1 r4.2.2.1 r4.2.2.2 p3 v3 (0 : Int32)) fun r10 =>
                        gc (bo r10.1) <|
                        some (r10.1, r10.2.1, r10.2.2.1, r10.2.2.2)
                    else
                      gc (inb p3 24) <|
                      gl (p1_lastParts p3.toNatClampNeg) fun v7 =>
                      gb (g_X3_goesPart n p1_tokens p1_kinds p1_values p1_parts r4.2.1 r4.2.2.1 r4.2.2.2 p1_lastParts p2_isBroth p2_contents_many p2_contents_much v7 (p4 + 1)) fun r8 =>
                      if r8.1 = 0 then
                        some (0, r8.2.1, r8.2.2.1, r8.2.2.2)
                      else
                        gb (g_X3_goesReckoning r8.2.1 r8.2.2.2 r8.2.2.1 v1 p3 v3 v7) fun r9 =>
                        if r9.1 = 0 then
                          some (0, r9.2.1, r9.2.2.2, r9.2.2.1)
                        else
                          some (1, r9.2.1, r9.2.2.2, r9.2.2.1)
        else
          some (0, t_isBroth, t_much, t_many)
def g_X3_goesStore (p1_tokens : Int32) (p1_parts : Nat → Int32) (p1_values : Nat → Int32) (p1_kinds : Nat → Int32) (t_isBroth : Nat → Int32) (t_much : Nat → UInt32) (t_many : Nat → Int32) (p1_lastParts : Nat → Int32) (p2_isBroth : Nat → Int32) (p2_contents_many : Nat → Int32) (p2_contents_much : Nat → UInt32) (p2_low : Nat → Int32) (p2_high : Nat → Int32) (p3 : Int32) : Option (Int32 × (Nat → Int32) × (Nat → UInt32) × (Nat → Int32)) :=
  gc (inb p3 24) <|
  gl (p1_parts p3.toNatClampNeg) fun v1 =>
  gc (inb p3 24) <|
  gl (p1_values p3.toNatClampNeg) fun v2 =>
  gb (g_X3_goesPart 26 p1_tokens p1_kinds p1_values p1_parts t_isBroth t_much t_many p1_lastParts p2_isBroth p2_contents_many p2_contents_much v1 (1 : Int32)) fun r3 =>
  if r3.1 = 0 then
    some (0, r3.2.1, r3.2.2.1, r3.2.2.2)
  else
    if v2 < 0 then
      some (0, r3.2.1, r3.2.2.1, r3.2.2.2)
    else
      if v2 < 6 then
        gc (inb v1 24) <|
        gc (inb v2 6) <|
        if (r3.2.1 v1.toNatClampNeg) = (p2_isBroth v2.toNatClampNeg) then
          gc (inb v1 24) <|
          if (r3.2.1 v1.toNatClampNeg) = 0 then
            gc (inb v1 24) <|
            gb (g_X3_givesDrams r3.2.1 r3.2.2.2 p3 ((r3.2.2.2 v1.toNatClampNeg).toInt64)) fun r4 =>
            if r4.1 = 0 then
              some (0, r4.2.1, r3.2.2.1, r4.2.2)
            else
              gc (inb v1 24) <|
              gb (g_X0_holds p2_low p2_high v2 ((r4.2.2 v1.toNatClampNeg).toInt64)) fun r5 =>
              if r5 = 0 then
                some (0, r4.2.1, r3.2.2.1, r4.2.2)
              else
                some (1, r4.2.1, r3.2.2.1, r4.2.2)
          else
            gc (inb v1 24) <|
            gb (g_X3_givesBroth r3.2.1 r3.2.2.1 p3 (r3.2.2.1 v1.toNatClampNeg)) fun r6 =>
            gc (bo r6.1) <|
            some (r6.1, r6.2.1, r6.2.2, r3.2.2.2)
        else
          some (0, r3.2.1, r3.2.2.1, r3.2.2.2)
      else
        some (0, r3.2.1, r3.2.2.1, r3.2.2.2)
def g_X3_goesWell_b33 (p1_tokens : Int32) (p1_kinds : Nat → Int32) (p1_parts : Nat → Int32) (p1_values : Nat → Int32) (p1_lastParts : Nat → Int32) (p2_isBroth : Nat → Int32) (p2_contents_many : Nat → Int32) (p2_contents_much : Nat → UInt32) (p2_low : Nat → Int32) (p2_high : Nat → Int32) (k2 : (Nat → Int32) → (Nat → Int32) → (Nat → UInt32) → Int32 → Option (Int32 × (Nat → Int32) × (Nat → UInt32) × (Nat → Int32))) (t_isBroth_33 : Nat → Int32) (t_many_33 : Nat → Int32) (t_much_33 : Nat → UInt32) (x3_33 : Int32) : Option (Int32 × (Nat → Int32) × (Nat → UInt32) × (Nat → Int32)) :=
  gl (x3_33 + 1) fun v1 =>
  k2 t_isBroth_33 t_many_33 t_much_33 v1
def g_X3_goesWell_b2 (p1_tokens : Int32) (p1_kinds : Nat → Int32) (p1_parts : Nat → Int32) (p1_values : Nat → Int32) (p1_lastParts : Nat → Int32) (p2_isBroth : Nat → Int32) (p2_contents_many : Nat → Int32) (p2_contents_much : Nat → UInt32) (p2_low : Nat → Int32) (p2_high : Nat → Int32) : Nat → (Nat → Int32) → (Nat → Int32) → (Nat → UInt32) → Int32 → Option (Int32 × (Nat → Int32) × (Nat → UInt32) × (Nat → Int32))
  | 0, _, _, _, _ => none
  | n + 1, t_isBroth_2, t_many_2, t_much_2, x3_2 =>
    if p1_tokens ≤ x3_2 then
      some (1, t_isBroth_2, t_much_2, t_many_2)
    else
      gc (inb x3_2 24) <|
      if (p1_kinds x3_2.toNatClampNeg) = 7 then
        gb (g_X3_goesStore p1_tokens p1_parts p1_values p1_kinds t_isBroth_2 t_much_2 t_many_2 p1_lastParts p2_isBroth p2_contents_many p2_contents_much p2_low p2_high x3_2) fun r2 =>
        if r2.1 = 0 then
          some (0, r2.2.1, r2.2.2.1, r2.2.2.2)
        else
          g_X3_goesWell_b33 p1_tokens p1_kinds p1_parts p1_values p1_lastParts p2_isBroth p2_contents_many p2_contents_much p2_low p2_high (g_X3_goesWell_b2 p1_tokens p1_kinds p1_parts p1_values p1_lastParts p2_isBroth p2_contents_many p2_contents_much p2_low p2_high n) r2.2.1 r2.2.2.2 r2.2.2.1 x3_2
      else
        g_X3_goesWell_b33 p1_tokens p1_kinds p1_parts p1_values p1_lastParts p2_isBroth p2_contents_many p2_contents_much p2_low p2_high (g_X3_goesWell_b2 p1_tokens p1_kinds p1_parts p1_values p1_lastParts p2_isBroth p2_contents_many p2_contents_much p2_low p2_high n) t_isBroth_2 t_many_2 t_much_2 x3_2
def g_X3_goesWell (p1_tokens : Int32) (p1_kinds : Nat → Int32) (p1_parts : Nat → Int32) (p1_values : Nat → Int32) (t_isBroth : Nat → Int32) (t_much : Nat → UInt32) (t_many : Nat → Int32) (p1_lastParts : Nat → Int32) (p2_isBroth : Nat → Int32) (p2_contents_many : Nat → Int32) (p2_contents_much : Nat → UInt32) (p2_low : Nat → Int32) (p2_high : Nat → Int32) : Option (Int32 × (Nat → Int32) × (Nat → UInt32) × (Nat → Int32)) :=
  g_X3_goesWell_b2 p1_tokens p1_kinds p1_parts p1_values p1_lastParts p2_isBroth p2_contents_many p2_contents_much p2_low p2_high 100 t_isBroth t_many t_much 0
def g_X3_leaves (p1_tokens : Int32) (p1_kinds : Nat → Int32) (p1_values : Nat → Int32) (t_isBroth : Nat → Int32) (t_many : Nat → Int32) (t_much : Nat → UInt32) (p2_isBroth : Nat → Int32) (p2_contents_many : Nat → Int32) (p2_contents_much : Nat → UInt32) (p3 : Int32) : Option (Int32) :=
  gb (g_X8_lastAhead p1_tokens p1_kinds p1_values (7 : Int32) p3 p1_tokens) fun r1 =>
  if r1 = (-1) then
    gb (g_X0_cutContent p2_isBroth p2_contents_many p2_contents_much p3) fun r4 =>
    some (r4)
  else
    gc (inb r1 24) <|
    if (t_isBroth r1.toNatClampNeg) = 0 then
      gc (inb r1 24) <|
      gl (t_many r1.toNatClampNeg) fun v2 =>
      some (v2)
    else
      gc (inb r1 24) <|
      gl (FP.f2i (t_much r1.toNatClampNeg)) fun v3 =>
      some (v3)
def g_X10_tellsBroth (t_isBroth : Nat → Int32) (p1 : Int32) : Option (Int32 × (Nat → Int32)) :=
  gc (inb p1 24) <|
  some (1, (upd t_isBroth p1.toNatClampNeg (vp_nar .boolean 1)))
def g_X10_tellsDrams (t_isBroth : Nat → Int32) (t_low : Nat → Int64) (t_high : Nat → Int64) (p1 : Int32) (p2 : Int64) (p3 : Int64) : Option (Int32 × (Nat → Int32) × (Nat → Int64) × (Nat → Int64)) :=
  gc (inb p1 24) <|
  gc (inb p1 24) <|
  gc (inb p1 24) <|
  gb (g_X5_excess p2) fun r1 =>
  if r1 = 0 then
    gb (g_X5_excess p3) fun r2 =>
    if r2 = 0 then
      some (1, (upd t_isBroth p1.toNatClampNeg (vp_nar .boolean 0)), (vp_updL t_low p1.toNatClampNeg p2), (vp_updL t_high p1.toNatClampNeg p3))
    else
      some (0, (upd t_isBroth p1.toNatClampNeg (vp_nar .boolean 0)), (vp_updL t_low p1.toNatClampNeg p2), (vp_updL t_high p1.toNatClampNeg p3))
  else
    some (0, (upd t_isBroth p1.toNatClampNeg (vp_nar .boolean 0)), (vp_updL t_low p1.toNatClampNeg p2), (vp_updL t_high p1.toNatClampNeg p3))
def g_X10_passesTake (p1_isBroth : Nat → Int32) (p1_low : Nat → Int32) (p1_high : Nat → Int32) (t_isBroth : Nat → Int32) (t_low : Nat → Int64) (t_high : Nat → Int64) (p2 : Int32) (p3 : Int32) : Option (Int32 × (Nat → Int32) × (Nat → Int64) × (Nat → Int64)) :=
  if p3 < 0 then
    some (0, t_isBroth, t_low, t_high)
  else
    if p3 < 6 then
      gc (inb p3 6) <|
      if (p1_isBroth p3.toNatClampNeg) = 0 then
        gc (inb p3 6) <|
        gc (inb p3 6) <|
        gb (g_X10_tellsDrams t_isBroth t_low t_high p2 ((p1_low p3.toNatClampNeg).toInt64) ((p1_high p3.toNatClampNeg).toInt64)) fun r1 =>
        gc (bo r1.1) <|
        some (r1.1, r1.2.1, r1.2.2.1, r1.2.2.2)
      else
        gb (g_X10_tellsBroth t_isBroth p2) fun r2 =>
        gc (bo r2.1) <|
        some (r2.1, r2.2, t_low, t_high)
    else
      some (0, t_isBroth, t_low, t_high)
def g_X10_passesCast (t_isBroth : Nat → Int32) (t_low : Nat → Int64) (t_high : Nat → Int64) (p1 : Int32) (p2 : Int32) (p3 : Int32) : Option (Int32 × (Nat → Int32) × (Nat → Int64) × (Nat → Int64)) :=
  gc (inb p2 24) <|
  if (t_isBroth p2.toNatClampNeg) = p3 then
    some (0, t_isBroth, t_low, t_high)
  else
    if p3 = 0 then
      gb (g_X10_tellsDrams t_isBroth t_low t_high p1 (-99 : Int64) (99 : Int64)) fun r1 =>
      gc (bo r1.1) <|
      some (r1.1, r1.2.1, r1.2.2.1, r1.2.2.2)
    else
      gb (g_X10_tellsBroth t_isBroth p1) fun r2 =>
      gc (bo r2.1) <|
      some (r2.1, r2.2, t_low, t_high)
def g_X10_passesReckoning_b19 (t_isBroth : Nat → Int32) (t_low : Nat → Int64) (t_high : Nat → Int64) (p2 : Int32) (p3 : Int32) (p4 : Int32) : Option (Int32 × (Nat → Int32) × (Nat → Int64) × (Nat → Int64)) :=
  gc (inb p3 24) <|
  if (t_isBroth p3.toNatClampNeg) = 0 then
    some (0, t_isBroth, t_low, t_high)
  else
    gc (inb p4 24) <|
    if (t_isBroth p4.toNatClampNeg) = 0 then
      some (0, t_isBroth, t_low, t_high)
    else
      gb (g_X10_tellsBroth t_isBroth p2) fun r4 =>
      if r4.1 = 0 then
        some (0, r4.2, t_low, t_high)
      else
        some (1, r4.2, t_low, t_high)
def g_X10_passesReckoning (t_isBroth : Nat → Int32) (t_low : Nat → Int64) (t_high : Nat → Int64) (p1 : Int32) (p2 : Int32) (p3 : Int32) (p4 : Int32) : Option (Int32 × (Nat → Int32) × (Nat → Int64) × (Nat → Int64)) :=
  gc (inb p3 24) <|
  if (t_isBroth p3.toNatClampNeg) = 0 then
    gc (inb p4 24) <|
    if (t_isBroth p4.toNatClampNeg) = 0 then
      gc (inb p3 24) <|
      gc (inb p3 24) <|
      gc (inb p4 24) <|
      gc (inb p4 24) <|
      gb (g_X5_lowest p1 (t_low p3.toNatClampNeg) (t_high p3.toNatClampNeg) (t_low p4.toNatClampNeg) (t_high p4.toNatClampNeg)) fun r1 =>
      gc (inb p3 24) <|
      gc (inb p3 24) <|
      gc (inb p4 24) <|
      gc (inb p4 24) <|
      gb (g_X5_highest p1 (t_low p3.toNatClampNeg) (t_high p3.toNatClampNeg) (t_low p4.toNatClampNeg) (t_high p4.toNatClampNeg)) fun r2 =>
      gb (g_X10_tellsDrams t_isBroth t_low t_high p2 r1 r2) fun r3 =>
      gc (bo r3.1) <|
      some (r3.1, r3.2.1, r3.2.2.1, r3.2.2.2)
    else
      g_X10_passesReckoning_b19 t_isBroth t_low t_high p2 p3 p4
  else
    g_X10_passesReckoning_b19 t_isBroth t_low t_high p2 p3 p4
def g_X10_passesPart : Nat → Int32 → (Nat → Int32) → (Nat → Int32) → (Nat → Int32) → (Nat → Int32) → (Nat → Int64) → (Nat → Int64) → (Nat → Int32) → (Nat → Int32) → (Nat → Int32) → (Nat → Int32) → Int32 → Int32 → Option (Int32 × (Nat → Int32) × (Nat → Int64) × (Nat → Int64))
  | 0, _, _, _, _, _, _, _, _, _, _, _, _, _ => none
  | n + 1, p1_tokens, p1_kinds, p1_values, p1_parts, t_isBroth, t_low, t_high, p1_lastParts, p2_isBroth, p2_low, p2_high, p3, p4 =>
    if p3 < 0 then
      some (0, t_isBroth, t_low, t_high)
    else
      if p1_tokens ≤ p3 then
        some (0, t_isBroth, t_low, t_high)
      else
        if p4 ≤ 24 then
          gc (inb p3 24) <|
          gl (p1_kinds p3.toNatClampNeg) fun v1 =>
          gc (inb p3 24) <|
          gl (p1_values p3.toNatClampNeg) fun v2 =>
          if v1 = 0 then
            gb (g_X10_passesTake p2_isBroth p2_low p2_high t_isBroth t_low t_high p3 v2) fun r13 =>
            gc (bo r13.1) <|
            some (r13.1, r13.2.1, r13.2.2.1, r13.2.2.2)
          else
            if v1 = 1 then
              gb (g_X10_tellsDrams t_isBroth t_low t_high p3 v2.toInt64 v2.toInt64) fun r12 =>
              gc (bo r12.1) <|
              some (r12.1, r12.2.1, r12.2.2.1, r12.2.2.2)
            else
              gc (inb p3 24) <|
              gl (p1_parts p3.toNatClampNeg) fun v3 =>
              if v1 = 7 then
                some (0, t_isBroth, t_low, t_high)
              else
                gb (g_X10_passesPart n p1_tokens p1_kinds p1_values p1_parts t_isBroth t_low t_high p1_lastParts p2_isBroth p2_low p2_high v3 (p4 + 1)) fun r4 =>
                if r4.1 = 0 then
                  some (0, r4.2.1, r4.2.2.1, r4.2.2.2)
                else
                  if v1 = 5 then
                    if v1 = 5 then
                      gb (g_X10_passesCast r4.2.1 r4.2.2.1 r4.2.2.2 p3 v3 (1 : Int32)) fun r6 =>
                      gc (bo r6.1) <|
                      some (r6.1, r6.2.1, r6.2.2.1, r6.2.2.2)
                    else
                      gb (g_X10_passesCast r4.2.1 r4.2.2.1 r4.2.2.2 p3 v3 (0 : Int32)) fun r5 =>
                      gc (bo r5.1) <|
                      some (r5.1, r5.2.1, r5.2.2.1, r5.2.2.2)
                  else
                    if v1 = 6 then
                      if v1 = 5 then
                        gb (g_X10_passesCast r4.2.1 r4.2.2.1 r4.2.2.2 p3 v3 (1 : Int32)) fun r11 =>
                        gc (bo r11.1) <|
                        some (r11.1, r11.2.1, r11.2.2.1, r11.2.2.2)
                      else
                        gb (g_X10_passesCast r4.2.1 r4.2.2.1 r4.2.2.2 p3 v3 (0 : Int32)) fun r10 =>
                        gc (bo r10.1) <|
                        some (r10.1, r10.2.1, r10.2.2.1, r10.2.2.2)
                    else
                      gc (inb p3 24) <|
                      gl (p1_lastParts p3.toNatClampNeg) fun v7 =>
                      gb (g_X10_passesPart n p1_tokens p1_kinds p1_values p1_parts r4.2.1 r4.2.2.1 r4.2.2.2 p1_lastParts p2_isBroth p2_low p2_high v7 (p4 + 1)) fun r8 =>
                      if r8.1 = 0 then
                        some (0, r8.2.1, r8.2.2.1, r8.2.2.2)
                      else
                        gb (g_X10_passesReckoning r8.2.1 r8.2.2.1 r8.2.2.2 v1 p3 v3 v7) fun r9 =>
                        if r9.1 = 0 then
                          some (0, r9.2.1, r9.2.2.1, r9.2.2.2)
                        else
                          some (1, r9.2.1, r9.2.2.1, r9.2.2.2)
        else
          some (0, t_isBroth, t_low, t_high)
def g_X10_passesStore_b62 (p2_isBroth : Nat → Int32) (t_high_62 : Nat → Int64) (t_isBroth_62 : Nat → Int32) (t_low_62 : Nat → Int64) (x4_62 : Int32) (x5_62 : Int32) : Option (Int32 × (Nat → Int32) × (Nat → Int64) × (Nat → Int64)) :=
  gc (inb x4_62 24) <|
  if (t_isBroth_62 x4_62.toNatClampNeg) = 0 then
    some (0, t_isBroth_62, t_low_62, t_high_62)
  else
    gc (inb x5_62 6) <|
    if (p2_isBroth x5_62.toNatClampNeg) = 0 then
      some (0, t_isBroth_62, t_low_62, t_high_62)
    else
      some (1, t_isBroth_62, t_low_62, t_high_62)
def g_X10_passesStore (p1_tokens : Int32) (p1_parts : Nat → Int32) (p1_values : Nat → Int32) (p1_kinds : Nat → Int32) (t_isBroth : Nat → Int32) (t_low : Nat → Int64) (t_high : Nat → Int64) (p1_lastParts : Nat → Int32) (p2_isBroth : Nat → Int32) (p2_low : Nat → Int32) (p2_high : Nat → Int32) (p3 : Int32) : Option (Int32 × (Nat → Int32) × (Nat → Int64) × (Nat → Int64)) :=
  gc (inb p3 24) <|
  gl (p1_parts p3.toNatClampNeg) fun v1 =>
  gc (inb p3 24) <|
  gl (p1_values p3.toNatClampNeg) fun v2 =>
  gb (g_X10_passesPart 26 p1_tokens p1_kinds p1_values p1_parts t_isBroth t_low t_high p1_lastParts p2_isBroth p2_low p2_high v1 (1 : Int32)) fun r3 =>
  if r3.1 = 0 then
    some (0, r3.2.1, r3.2.2.1, r3.2.2.2)
  else
    if v2 < 0 then
      some (0, r3.2.1, r3.2.2.1, r3.2.2.2)
    else
      if v2 < 6 then
        gc (inb v1 24) <|
        if (r3.2.1 v1.toNatClampNeg) = 0 then
          gc (inb v2 6) <|
          if (p2_isBroth v2.toNatClampNeg) = 0 then
            gc (inb v2 6) <|
            gc (inb v1 24) <|
            if 0 < (lg_cmp ((p2_low v2.toNatClampNeg).toInt64) (r3.2.2.1 v1.toNatClampNeg)) then
              some (0, r3.2.1, r3.2.2.1, r3.2.2.2)
            else
              gc (inb v1 24) <|
              gc (inb v2 6) <|
              if 0 < (lg_cmp (r3.2.2.2 v1.toNatClampNeg) ((p2_high v2.toNatClampNeg).toInt64)) then
                some (0, r3.2.1, r3.2.2.1, r3.2.2.2)
              else
                some (1, r3.2.1, r3.2.2.1, r3.2.2.2)
          else
            g_X10_passesStore_b62 p2_isBroth r3.2.2.2 r3.2.1 r3.2.2.1 v1 v2
        else
          g_X10_passesStore_b62 p2_isBroth r3.2.2.2 r3.2.1 r3.2.2.1 v1 v2
      else
        some (0, r3.2.1, r3.2.2.1, r3.2.2.2)
def g_X10_passes_b33 (p1_tokens : Int32) (p1_kinds : Nat → Int32) (p1_parts : Nat → Int32) (p1_values : Nat → Int32) (p1_lastParts : Nat → Int32) (p2_isBroth : Nat → Int32) (p2_low : Nat → Int32) (p2_high : Nat → Int32) (k2 : (Nat → Int64) → (Nat → Int32) → (Nat → Int64) → Int32 → Option (Int32 × (Nat → Int32) × (Nat → Int64) × (Nat → Int64))) (t_high_33 : Nat → Int64) (t_isBroth_33 : Nat → Int32) (t_low_33 : Nat → Int64) (x3_33 : Int32) : Option (Int32 × (Nat → Int32) × (Nat → Int64) × (Nat → Int64)) :=
  gl (x3_33 + 1) fun v1 =>
  k2 t_high_33 t_isBroth_33 t_low_33 v1
def g_X10_passes_b2 (p1_tokens : Int32) (p1_kinds : Nat → Int32) (p1_parts : Nat → Int32) (p1_values : Nat → Int32) (p1_lastParts : Nat → Int32) (p2_isBroth : Nat → Int32) (p2_low : Nat → Int32) (p2_high : Nat → Int32) : Nat → (Nat → Int64) → (Nat → Int32) → (Nat → Int64) → Int32 → Option (Int32 × (Nat → Int32) × (Nat → Int64) × (Nat → Int64))
  | 0, _, _, _, _ => none
  | n + 1, t_high_2, t_isBroth_2, t_low_2, x3_2 =>
    if p1_tokens ≤ x3_2 then
      some (1, t_isBroth_2, t_low_2, t_high_2)
    else
      gc (inb x3_2 24) <|
      if (p1_kinds x3_2.toNatClampNeg) = 7 then
        gb (g_X10_passesStore p1_tokens p1_parts p1_values p1_kinds t_isBroth_2 t_low_2 t_high_2 p1_lastParts p2_isBroth p2_low p2_high x3_2) fun r2 =>
        if r2.1 = 0 then
          some (0, r2.2.1, r2.2.2.1, r2.2.2.2)
        else
          g_X10_passes_b33 p1_tokens p1_kinds p1_parts p1_values p1_lastParts p2_isBroth p2_low p2_high (g_X10_passes_b2 p1_tokens p1_kinds p1_parts p1_values p1_lastParts p2_isBroth p2_low p2_high n) r2.2.2.2 r2.2.1 r2.2.2.1 x3_2
      else
        g_X10_passes_b33 p1_tokens p1_kinds p1_parts p1_values p1_lastParts p2_isBroth p2_low p2_high (g_X10_passes_b2 p1_tokens p1_kinds p1_parts p1_values p1_lastParts p2_isBroth p2_low p2_high n) t_high_2 t_isBroth_2 t_low_2 x3_2
def g_X10_passes (p1_tokens : Int32) (p1_kinds : Nat → Int32) (p1_parts : Nat → Int32) (p1_values : Nat → Int32) (t_isBroth : Nat → Int32) (t_low : Nat → Int64) (t_high : Nat → Int64) (p1_lastParts : Nat → Int32) (p2_isBroth : Nat → Int32) (p2_low : Nat → Int32) (p2_high : Nat → Int32) : Option (Int32 × (Nat → Int32) × (Nat → Int64) × (Nat → Int64)) :=
  g_X10_passes_b2 p1_tokens p1_kinds p1_parts p1_values p1_lastParts p2_isBroth p2_low p2_high 100 t_high t_isBroth t_low 0
def g_Jxf58ca_isNaN_12338 (p1 : UInt32) : Option (Int32) :=
  if (Op.cmpValue (FP.fcmp p1 p1) .l) = 0 then
    some (0)
  else
    some (1)
def g_Jxf58ca_floatToIntBits_5c35a (p1 : UInt32) : Option (Int32) :=
  gb (g_Jxf58ca_isNaN_12338 p1) fun r1 =>
  if r1 = 0 then
    some (p1.toInt32)
  else
    gl (2143289344 : Int32) fun v2 =>
    some (v2)
def g_Jxe99ae_isNaN_b9ae7 (p1 : UInt64) : Option (Int32) :=
  if (Op.cmpValue (FP.dcmp p1 p1) .l) = 0 then
    some (0)
  else
    some (1)
def g_Jxe99ae_doubleToLongBits_ccdee (p1 : UInt64) : Option (Int64) :=
  gb (g_Jxe99ae_isNaN_b9ae7 p1) fun r1 =>
  if r1 = 0 then
    some (p1.toInt64)
  else
    gl (9221120237041090560 : Int64) fun v2 =>
    some (v2)
def g_X12_thrown (t_thrown : Int32) : Option (Int32) :=
  some (t_thrown)
def g_X12_in (p1 : Int64) (p2 : Int64) (p3 : Int64) : Option (Int32) :=
  if (lg_cmp p1 p2) < 0 then
    some (0)
  else
    if 0 < (lg_cmp p1 p3) then
      some (0)
    else
      some (1)
def g_X12_keep (t_thrown : Int32) (t_s : Nat → Int32) (t_before : Nat → Int32) (t_f : Nat → UInt32) (t_beforeF : Nat → UInt32) : Option (Int32 × (Nat → Int32) × (Nat → UInt32)) :=
  gc (cpok (0 : Int32) (0 : Int32) (282 : Int32) 282 282) <|
  gc (cpok (0 : Int32) (0 : Int32) (6 : Int32) 6 6) <|
  some (0, (va_cpy t_s t_before (0 : Int32).toNatClampNeg (0 : Int32).toNatClampNeg (282 : Int32).toNatClampNeg), (va_cpy t_f t_beforeF (0 : Int32).toNatClampNeg (0 : Int32).toNatClampNeg (6 : Int32).toNatClampNeg))
def g_X12_ends_b93 (t_before : Nat → Int32) (t_s : Nat → Int32) (t_beforeF : Nat → UInt32) (t_f : Nat → UInt32) (p1 : Int32) (t_past_93 : Nat → Int32) (t_pastF_93 : Nat → UInt32) (t_pastMany_93 : Int32) : Option (Int32 × Int32 × (Nat → Int32) × (Nat → UInt32) × (Nat → Int32) × (Nat → UInt32)) :=
  gc (cpok (0 : Int32) (282 * t_pastMany_93) (282 : Int32) 282 1692) <|
  gc (cpok (0 : Int32) (6 * t_pastMany_93) (6 : Int32) 6 36) <|
  gl (t_pastMany_93 + 1) fun v2 =>
  some (p1, v2, (va_cpy t_before t_past_93 (0 : Int32).toNatClampNeg (282 * t_pastMany_93).toNatClampNeg (282 : Int32).toNatClampNeg), (va_cpy t_beforeF t_pastF_93 (0 : Int32).toNatClampNeg (6 * t_pastMany_93).toNatClampNeg (6 : Int32).toNatClampNeg), t_s, t_f)
def g_X12_ends (t_pastMany : Int32) (t_thrown : Int32) (t_past : Nat → Int32) (t_pastF : Nat → UInt32) (t_before : Nat → Int32) (t_s : Nat → Int32) (t_beforeF : Nat → UInt32) (t_f : Nat → UInt32) (p1 : Int32) : Option (Int32 × Int32 × (Nat → Int32) × (Nat → UInt32) × (Nat → Int32) × (Nat → UInt32)) :=
  if t_thrown ≤ 0 then
    if t_pastMany = 6 then
      gc (cpok (282 : Int32) (0 : Int32) (1410 : Int32) 1692 1692) <|
      gc (cpok (6 : Int32) (0 : Int32) (30 : Int32) 36 36) <|
      gl (t_pastMany - 1) fun v1 =>
      g_X12_ends_b93 t_before t_s t_beforeF t_f p1 (va_cpy t_past t_past (282 : Int32).toNatClampNeg (0 : Int32).toNatClampNeg (1410 : Int32).toNatClampNeg) (va_cpy t_pastF t_pastF (6 : Int32).toNatClampNeg (0 : Int32).toNatClampNeg (30 : Int32).toNatClampNeg) v1
    else
      g_X12_ends_b93 t_before t_s t_beforeF t_f p1 t_past t_pastF t_pastMany
  else
    gc (cpok (0 : Int32) (0 : Int32) (282 : Int32) 282 282) <|
    gc (cpok (0 : Int32) (0 : Int32) (6 : Int32) 6 6) <|
    some (0, t_pastMany, t_past, t_pastF, (va_cpy t_before t_s (0 : Int32).toNatClampNeg (0 : Int32).toNatClampNeg (282 : Int32).toNatClampNeg), (va_cpy t_beforeF t_f (0 : Int32).toNatClampNeg (0 : Int32).toNatClampNeg (6 : Int32).toNatClampNeg))
def g_X12_fails (t_thrown : Int32) (p1 : Int32) : Option (Int32 × Int32) :=
  some (0, p1)
def g_X12_refuseFor (t_thrown : Int32) (t_refused : Nat → Int32) (p1 : Int32) (p2 : Int32) (p3 : Int32) (p4 : Int32) (p5 : Int32) : Option (Int32 × Int32 × (Nat → Int32)) :=
  gc (inb (0 : Int32) 4) <|
  gc (inb (1 : Int32) 4) <|
  gc (inb (2 : Int32) 4) <|
  gc (inb (3 : Int32) 4) <|
  some (0, p1, (upd (upd (upd (upd t_refused (0 : Int32).toNatClampNeg p2) (1 : Int32).toNatClampNeg p3) (2 : Int32).toNatClampNeg p4) (3 : Int32).toNatClampNeg p5))
def g_X12_refuse (t_thrown : Int32) (t_refused : Nat → Int32) (p1 : Int32) (p2 : Int32) (p3 : Int32) : Option (Int32 × Int32 × (Nat → Int32)) :=
  gb (g_X12_refuseFor t_thrown t_refused p1 p2 p3 (0 : Int32) (0 : Int32)) fun r1 =>
  some (r1.1, r1.2.1, r1.2.2)
def g_X12_reason_b25 (t_refused : Nat → Int32) (p2 : Int32) (x3_25 : Int32) (s1_25 : Int32) : Option (Int32 × Int32) :=
  if s1_25 ≤ 0 then
    if p2 = 0 then
      gc (inb (x3_25 + 0) 4) <|
      gl (t_refused (x3_25 + 0).toNatClampNeg) fun v1 =>
      some (v1, s1_25)
    else
      gc (inb (x3_25 + 1) 4) <|
      gl (t_refused (x3_25 + 1).toNatClampNeg) fun v2 =>
      some (v2, s1_25)
  else
    some (0, s1_25)
def g_X12_reason_b9 (t_refused : Nat → Int32) (p2 : Int32) (s0_9 : Int32) : Option (Int32 × Int32) :=
  gc (inb s0_9 4) <|
  if (t_refused s0_9.toNatClampNeg) = 0 then
    g_X12_reason_b25 t_refused p2 s0_9 1
  else
    g_X12_reason_b25 t_refused p2 s0_9 0
def g_X12_reason (t_thrown : Int32) (t_refused : Nat → Int32) (p1 : Int32) (p2 : Int32) : Option (Int32 × Int32) :=
  if p1 = 0 then
    g_X12_reason_b9 t_refused p2 0
  else
    g_X12_reason_b9 t_refused p2 2
def g_X12_isCauldron (t_s : Nat → Int32) (p1 : Int32) : Option (Int32) :=
  gc (inb (0 : Int32) 282) <|
  gb (g_X12_in p1.toInt64 (0 : Int64) (((t_s (0 : Int32).toNatClampNeg) - 1).toInt64)) fun r1 =>
  gc (bo r1) <|
  some (r1)
def g_X12_isSpell (t_s : Nat → Int32) (p1 : Int32) : Option (Int32) :=
  gc (inb (1 : Int32) 282) <|
  gb (g_X12_in p1.toInt64 (0 : Int64) (((t_s (1 : Int32).toNatClampNeg) - 1).toInt64)) fun r1 =>
  gc (bo r1) <|
  some (r1)
def g_X12_of (t_s : Nat → Int32) (p1 : Int32) (p2 : Int32) : Option (Int32) :=
  gc (inb ((4 + (5 * p1)) + p2) 282) <|
  gl (t_s ((4 + (5 * p1)) + p2).toNatClampNeg) fun v1 =>
  some (v1)
def g_X12_sets (t_s : Nat → Int32) (p1 : Int32) (p2 : Int32) (p3 : Int32) : Option ((Nat → Int32)) :=
  gc (inb ((4 + (5 * p1)) + p2) 282) <|
  some ((upd t_s ((4 + (5 * p1)) + p2).toNatClampNeg p3))
def g_X12_isBroth (t_s : Nat → Int32) (p1 : Int32) : Option (Int32) :=
  gb (g_X12_of t_s p1 (0 : Int32)) fun r1 =>
  if r1 = 1 then
    some (1)
  else
    some (0)
def g_X12_areBounds (p1 : Int32) (p2 : Int32) : Option (Int32) :=
  gb (g_X12_in p1.toInt64 (-99 : Int64) p2.toInt64) fun r1 =>
  if r1 = 0 then
    some (0)
  else
    if 99 < p2 then
      some (0)
    else
      some (1)
def g_X12_comes_b71 (t_thrown : Int32) (t_refused : Nat → Int32) (t_f : Nat → UInt32) (t_s_71 : Nat → Int32) (x5_71 : Int32) (s1_71 : Int32) (s3_71 : Int32) : Option (Int32 × Int32 × (Nat → Int32) × (Nat → Int32) × (Nat → UInt32)) :=
  gb (g_X12_sets t_s_71 s1_71 (3 : Int32) s3_71) fun r6 =>
  gb (g_X12_sets r6 x5_71 (4 : Int32) (0 : Int32)) fun r7 =>
  gc (inb x5_71 6) <|
  gc (inb (0 : Int32) 282) <|
  gc (inb (0 : Int32) 282) <|
  some (x5_71, t_thrown, (upd r7 (0 : Int32).toNatClampNeg ((r7 (0 : Int32).toNatClampNeg) + 1)), t_refused, (vf_upd t_f x5_71.toNatClampNeg FP.fconst0))
def g_X12_comes (t_thrown : Int32) (t_s : Nat → Int32) (t_refused : Nat → Int32) (t_f : Nat → UInt32) (p1 : Int32) (p2 : Int32) (p3 : Int32) (p4 : Int32) : Option (Int32 × Int32 × (Nat → Int32) × (Nat → Int32) × (Nat → UInt32)) :=
  gc (inb (0 : Int32) 282) <|
  gl (t_s (0 : Int32).toNatClampNeg) fun v1 =>
  if v1 = 6 then
    gb (g_X12_refuse t_thrown t_refused p4 (1 : Int32) (6 : Int32)) fun r5 =>
    some (r5.1, r5.2.1, t_s, r5.2.2, t_f)
  else
    gb (g_X12_sets t_s v1 (0 : Int32) p1) fun r2 =>
    gb (g_X12_sets r2 v1 (1 : Int32) p2) fun r3 =>
    gb (g_X12_sets r3 v1 (2 : Int32) p3) fun r4 =>
    if p1 = 1 then
      g_X12_comes_b71 t_thrown t_refused t_f r4 v1 v1 0
    else
      g_X12_comes_b71 t_thrown t_refused t_f r4 v1 v1 (if p2 < (if 0 < p3 then 0 else p3) then (if 0 < p3 then 0 else p3) else p2)
def g_X12_drams_b29 (t_pastMany : Int32) (t_past : Nat → Int32) (t_pastF : Nat → UInt32) (t_before_29 : Nat → Int32) (t_beforeF_29 : Nat → UInt32) (t_f_29 : Nat → UInt32) (t_refused_29 : Nat → Int32) (t_s_29 : Nat → Int32) (t_thrown_29 : Int32) (s1_29 : Int32) : Option (Int32 × Int32 × Int32 × (Nat → Int32) × (Nat → Int32) × (Nat → UInt32) × (Nat → UInt32) × (Nat → Int32) × (Nat → Int32) × (Nat → UInt32)) :=
  gb (g_X12_ends t_pastMany t_thrown_29 t_past t_pastF t_before_29 t_s_29 t_beforeF_29 t_f_29 s1_29) fun r5 =>
  some (r5.1, r5.2.1, t_thrown_29, r5.2.2.2.2.1, t_before_29, r5.2.2.2.2.2, t_beforeF_29, t_refused_29, r5.2.2.1, r5.2.2.2.1)
def g_X12_drams (t_pastMany : Int32) (t_thrown : Int32) (t_s : Nat → Int32) (t_before : Nat → Int32) (t_f : Nat → UInt32) (t_beforeF : Nat → UInt32) (t_refused : Nat → Int32) (t_past : Nat → Int32) (t_pastF : Nat → UInt32) (p1 : Int32) (p2 : Int32) : Option (Int32 × Int32 × Int32 × (Nat → Int32) × (Nat → Int32) × (Nat → UInt32) × (Nat → UInt32) × (Nat → Int32) × (Nat → Int32) × (Nat → UInt32)) :=
  gb (g_X12_keep t_thrown t_s t_before t_f t_beforeF) fun r1 =>
  gb (g_X12_areBounds p1 p2) fun r2 =>
  if r2 = 0 then
    gb (g_X12_fails r1.1 (1 : Int32)) fun r3 =>
    g_X12_drams_b29 t_pastMany t_past t_pastF r1.2.1 r1.2.2 t_f t_refused t_s r3.2 r3.1
  else
    gb (g_X12_comes r1.1 t_s t_refused t_f (0 : Int32) p1 p2 (2 : Int32)) fun r4 =>
    g_X12_drams_b29 t_pastMany t_past t_pastF r1.2.1 r1.2.2 r4.2.2.2.2 r4.2.2.2.1 r4.2.2.1 r4.2.1 r4.1
def g_X12_broth (t_pastMany : Int32) (t_thrown : Int32) (t_s : Nat → Int32) (t_before : Nat → Int32) (t_f : Nat → UInt32) (t_beforeF : Nat → UInt32) (t_refused : Nat → Int32) (t_past : Nat → Int32) (t_pastF : Nat → UInt32) : Option (Int32 × Int32 × Int32 × (Nat → Int32) × (Nat → Int32) × (Nat → UInt32) × (Nat → UInt32) × (Nat → Int32) × (Nat → Int32) × (Nat → UInt32)) :=
  gb (g_X12_keep t_thrown t_s t_before t_f t_beforeF) fun r1 =>
  gb (g_X12_comes r1.1 t_s t_refused t_f (1 : Int32) (-99 : Int32) (99 : Int32) (1 : Int32)) fun r2 =>
  gb (g_X12_ends t_pastMany r2.2.1 t_past t_pastF r1.2.1 r2.2.2.1 r1.2.2 r2.2.2.2.2 r2.1) fun r3 =>
  some (r3.1, r3.2.1, r2.2.1, r3.2.2.2.2.1, r1.2.1, r3.2.2.2.2.2, r1.2.2, r2.2.2.2.1, r3.2.2.1, r3.2.2.2.1)
def g_X12_holds (t_s : Nat → Int32) (p1 : Int32) (p2 : Int64) : Option (Int32) :=
  gb (g_X12_of t_s p1 (1 : Int32)) fun r1 =>
  gb (g_X12_of t_s p1 (2 : Int32)) fun r2 =>
  gb (g_X12_in p2 r1.toInt64 r2.toInt64) fun r3 =>
  gc (bo r3) <|
  some (r3)
def g_X12_doPour (t_thrown : Int32) (t_s : Nat → Int32) (t_refused : Nat → Int32) (p1 : Int32) (p2 : Int32) : Option (Int32 × Int32 × (Nat → Int32) × (Nat → Int32)) :=
  gb (g_X12_isCauldron t_s p1) fun r1 =>
  if r1 = 0 then
    gb (g_X12_fails t_thrown (1 : Int32)) fun r8 =>
    some (r8.1, r8.2, t_s, t_refused)
  else
    gb (g_X12_isBroth t_s p1) fun r2 =>
    if r2 = 0 then
      gb (g_X12_holds t_s p1 p2.toInt64) fun r3 =>
      if r3 = 0 then
        gb (g_X12_refuse t_thrown t_refused (2 : Int32) (3 : Int32) p2) fun r6 =>
        some (r6.1, r6.2.1, t_s, r6.2.2)
      else
        gb (g_X12_of t_s p1 (3 : Int32)) fun r4 =>
        gb (g_X12_sets t_s p1 (3 : Int32) p2) fun r5 =>
        some (r4, t_thrown, r5, t_refused)
    else
      gb (g_X12_refuse t_thrown t_refused (2 : Int32) (2 : Int32) p1) fun r7 =>
      some (r7.1, r7.2.1, t_s, r7.2.2)
def g_X12_pour (t_pastMany : Int32) (t_thrown : Int32) (t_s : Nat → Int32) (t_before : Nat → Int32) (t_f : Nat → UInt32) (t_beforeF : Nat → UInt32) (t_refused : Nat → Int32) (t_past : Nat → Int32) (t_pastF : Nat → UInt32) (p1 : Int32) (p2 : Int32) : Option (Int32 × Int32 × Int32 × (Nat → Int32) × (Nat → Int32) × (Nat → UInt32) × (Nat → UInt32) × (Nat → Int32) × (Nat → Int32) × (Nat → UInt32)) :=
  gb (g_X12_keep t_thrown t_s t_before t_f t_beforeF) fun r1 =>
  gb (g_X12_doPour r1.1 t_s t_refused p1 p2) fun r2 =>
  gb (g_X12_ends t_pastMany r2.2.1 t_past t_pastF r1.2.1 r2.2.2.1 r1.2.2 t_f r2.1) fun r3 =>
  some (r3.1, r3.2.1, r2.2.1, r3.2.2.2.2.1, r1.2.1, r3.2.2.2.2.2, r1.2.2, r2.2.2.2, r3.2.2.1, r3.2.2.2.1)
def g_X12_doLadle (t_thrown : Int32) (t_s : Nat → Int32) (t_f : Nat → UInt32) (t_refused : Nat → Int32) (p1 : Int32) (p2 : Int32) : Option (Int32 × Int32 × (Nat → UInt32) × (Nat → Int32)) :=
  gb (g_X12_isCauldron t_s p1) fun r1 =>
  if r1 = 0 then
    gb (g_X12_fails t_thrown (1 : Int32)) fun r7 =>
    some (r7.1, r7.2, t_f, t_refused)
  else
    gb (g_X12_in p2.toInt64 (-9999 : Int64) (9999 : Int64)) fun r2 =>
    if r2 = 0 then
      gb (g_X12_fails t_thrown (2 : Int32)) fun r6 =>
      some (r6.1, r6.2, t_f, t_refused)
    else
      gb (g_X12_isBroth t_s p1) fun r3 =>
      if r3 = 0 then
        gb (g_X12_refuse t_thrown t_refused (3 : Int32) (4 : Int32) p1) fun r5 =>
        some (r5.1, r5.2.1, t_f, r5.2.2)
      else
        gc (inb p1 6) <|
        gb (g_Jxf58ca_floatToIntBits_5c35a (t_f p1.toNatClampNeg)) fun r4 =>
        gc (n32 (FP.fdiv (FP.i2f p2) (1120403456 : UInt32))) <|
        gc (inb p1 6) <|
        some (r4, t_thrown, (vf_upd t_f p1.toNatClampNeg (FP.fdiv (FP.i2f p2) (1120403456 : UInt32))), t_refused)
def g_X12_ladle (t_pastMany : Int32) (t_thrown : Int32) (t_s : Nat → Int32) (t_before : Nat → Int32) (t_f : Nat → UInt32) (t_beforeF : Nat → UInt32) (t_refused : Nat → Int32) (t_past : Nat → Int32) (t_pastF : Nat → UInt32) (p1 : Int32) (p2 : Int32) : Option (Int32 × Int32 × Int32 × (Nat → Int32) × (Nat → Int32) × (Nat → UInt32) × (Nat → UInt32) × (Nat → Int32) × (Nat → Int32) × (Nat → UInt32)) :=
  gb (g_X12_keep t_thrown t_s t_before t_f t_beforeF) fun r1 =>
  gb (g_X12_doLadle r1.1 t_s t_f t_refused p1 p2) fun r2 =>
  gb (g_X12_ends t_pastMany r2.2.1 t_past t_pastF r1.2.1 t_s r1.2.2 r2.2.2.1 r2.1) fun r3 =>
  some (r3.1, r3.2.1, r2.2.1, r3.2.2.2.2.1, r1.2.1, r3.2.2.2.2.2, r1.2.2, r2.2.2.2, r3.2.2.1, r3.2.2.2.1)
def g_X12_adds_b100 (t_spoons : Int32) (t_mostSpoons : Int32) (t_numbers_100 : Nat → Int32) (t_signs_100 : Nat → Int32) (t_tokens_100 : Int32) (x5_100 : Int32) (s2_100 : Int32) : Option (Int32 × Int32 × Int32 × Int32 × (Nat → Int32) × (Nat → Int32)) :=
  gl (t_spoons + s2_100) fun v1 =>
  gl (if t_mostSpoons < v1 then v1 else t_mostSpoons) fun v2 =>
  gc (bo x5_100) <|
  some (x5_100, t_tokens_100, v1, v2, t_signs_100, t_numbers_100)
def g_X12_adds_b80 (t_tokens : Int32) (t_spoons : Int32) (t_mostSpoons : Int32) (p4 : Int32) (t_numbers_80 : Nat → Int32) (t_signs_80 : Nat → Int32) (x5_80 : Int32) (s2_80 : Int32) : Option (Int32 × Int32 × Int32 × Int32 × (Nat → Int32) × (Nat → Int32)) :=
  gl (t_tokens + s2_80) fun v3 =>
  if x5_80 = 0 then
    g_X12_adds_b100 t_spoons t_mostSpoons t_numbers_80 t_signs_80 v3 x5_80 0
  else
    g_X12_adds_b100 t_spoons t_mostSpoons t_numbers_80 t_signs_80 v3 x5_80 p4
def g_X12_adds_b43 (t_tokens : Int32) (t_spoons : Int32) (t_mostSpoons : Int32) (t_signs : Nat → Int32) (t_numbers : Nat → Int32) (p1 : Int32) (p2 : Int32) (p4 : Int32) (s0_43 : Int32) : Option (Int32 × Int32 × Int32 × Int32 × (Nat → Int32) × (Nat → Int32)) :=
  gc (inb t_tokens 60) <|
  gc (inb t_tokens 60) <|
  if s0_43 = 0 then
    g_X12_adds_b80 t_tokens t_spoons t_mostSpoons p4 (upd t_numbers t_tokens.toNatClampNeg p2) (upd t_signs t_tokens.toNatClampNeg (vp_nar .char p1)) s0_43 0
  else
    g_X12_adds_b80 t_tokens t_spoons t_mostSpoons p4 (upd t_numbers t_tokens.toNatClampNeg p2) (upd t_signs t_tokens.toNatClampNeg (vp_nar .char p1)) s0_43 1
def g_X12_adds_b42 (t_tokens : Int32) (t_spoons : Int32) (t_mostSpoons : Int32) (t_signs : Nat → Int32) (t_numbers : Nat → Int32) (p1 : Int32) (p2 : Int32) (p4 : Int32) : Option (Int32 × Int32 × Int32 × Int32 × (Nat → Int32) × (Nat → Int32)) :=
  g_X12_adds_b43 t_tokens t_spoons t_mostSpoons t_signs t_numbers p1 p2 p4 0
def g_X12_adds (t_tokens : Int32) (t_spoons : Int32) (t_mostSpoons : Int32) (t_signs : Nat → Int32) (t_numbers : Nat → Int32) (p1 : Int32) (p2 : Int32) (p3 : Int32) (p4 : Int32) : Option (Int32 × Int32 × Int32 × Int32 × (Nat → Int32) × (Nat → Int32)) :=
  if t_spoons < p3 then
    g_X12_adds_b42 t_tokens t_spoons t_mostSpoons t_signs t_numbers p1 p2 p4
  else
    if 5 < (t_spoons + p4) then
      g_X12_adds_b42 t_tokens t_spoons t_mostSpoons t_signs t_numbers p1 p2 p4
    else
      if 24 < (((t_tokens + 1) + t_spoons) + p4) then
        g_X12_adds_b42 t_tokens t_spoons t_mostSpoons t_signs t_numbers p1 p2 p4
      else
        g_X12_adds_b43 t_tokens t_spoons t_mostSpoons t_signs t_numbers p1 p2 p4 1
def g_X12_reads_b295 (n_p1 : Nat) (p1 : Nat → Int32) (p2 : Int32) (p3 : Int32) (k24 : (Nat → Int32) → (Nat → Int32) → Int32 → Int32 → Int32 → Int32 → Int32 → Int32 → Option (Int32 × Int32 × Int32 × Int32 × (Nat → Int32) × (Nat → Int32))) (t_numbers_295 : Nat → Int32) (t_signs_295 : Nat → Int32) (t_tokens_295 : Int32) (t_spoons_295 : Int32) (t_mostSpoons_295 : Int32) (x10_295 : Int32) (x4_295 : Int32) (x5_295 : Int32) (x6_295 : Int32) : Option (Int32 × Int32 × Int32 × Int32 × (Nat → Int32) × (Nat → Int32)) :=
  if x10_295 = 0 then
    some (x6_295, t_tokens_295, t_spoons_295, t_mostSpoons_295, t_numbers_295, t_signs_295)
  else
    gl (x6_295 + 1) fun v1 =>
    k24 t_numbers_295 t_signs_295 t_tokens_295 t_spoons_295 t_mostSpoons_295 x4_295 x5_295 v1
def g_X12_reads_b293 (n_p1 : Nat) (p1 : Nat → Int32) (p2 : Int32) (p3 : Int32) (k24 : (Nat → Int32) → (Nat → Int32) → Int32 → Int32 → Int32 → Int32 → Int32 → Int32 → Option (Int32 × Int32 × Int32 × Int32 × (Nat → Int32) × (Nat → Int32))) (t_numbers_293 : Nat → Int32) (t_signs_293 : Nat → Int32) (t_tokens_293 : Int32) (t_spoons_293 : Int32) (t_mostSpoons_293 : Int32) (x10_293 : Int32) (x6_293 : Int32) (s0_293 : Int32) : Option (Int32 × Int32 × Int32 × Int32 × (Nat → Int32) × (Nat → Int32)) :=
  g_X12_reads_b295 n_p1 p1 p2 p3 k24 t_numbers_293 t_signs_293 t_tokens_293 t_spoons_293 t_mostSpoons_293 x10_293 0 s0_293 x6_293
def g_X12_reads_b276 (n_p1 : Nat) (p1 : Nat → Int32) (p2 : Int32) (p3 : Int32) (k24 : (Nat → Int32) → (Nat → Int32) → Int32 → Int32 → Int32 → Int32 → Int32 → Int32 → Option (Int32 × Int32 × Int32 × Int32 × (Nat → Int32) × (Nat → Int32))) (t_numbers_276 : Nat → Int32) (t_signs_276 : Nat → Int32) (t_tokens_276 : Int32) (t_spoons_276 : Int32) (t_mostSpoons_276 : Int32) (x6_276 : Int32) (x7_276 : Int32) (s0_276 : Int32) : Option (Int32 × Int32 × Int32 × Int32 × (Nat → Int32) × (Nat → Int32)) :=
  if x7_276 = 61 then
    g_X12_reads_b293 n_p1 p1 p2 p3 k24 t_numbers_276 t_signs_276 t_tokens_276 t_spoons_276 t_mostSpoons_276 s0_276 x6_276 1
  else
    g_X12_reads_b293 n_p1 p1 p2 p3 k24 t_numbers_276 t_signs_276 t_tokens_276 t_spoons_276 t_mostSpoons_276 s0_276 x6_276 0
def g_X12_reads_b275 (n_p1 : Nat) (p1 : Nat → Int32) (p2 : Int32) (p3 : Int32) (k24 : (Nat → Int32) → (Nat → Int32) → Int32 → Int32 → Int32 → Int32 → Int32 → Int32 → Option (Int32 × Int32 × Int32 × Int32 × (Nat → Int32) × (Nat → Int32))) (t_numbers_275 : Nat → Int32) (t_signs_275 : Nat → Int32) (t_tokens_275 : Int32) (t_spoons_275 : Int32) (t_mostSpoons_275 : Int32) (x6_275 : Int32) (x7_275 : Int32) : Option (Int32 × Int32 × Int32 × Int32 × (Nat → Int32) × (Nat → Int32)) :=
  g_X12_reads_b276 n_p1 p1 p2 p3 k24 t_numbers_275 t_signs_275 t_tokens_275 t_spoons_275 t_mostSpoons_275 x6_275 x7_275 0
def g_X12_reads_b259 (n_p1 : Nat) (p1 : Nat → Int32) (p2 : Int32) (p3 : Int32) (k24 : (Nat → Int32) → (Nat → Int32) → Int32 → Int32 → Int32 → Int32 → Int32 → Int32 → Option (Int32 × Int32 × Int32 × Int32 × (Nat → Int32) × (Nat → Int32))) (t_numbers_259 : Nat → Int32) (t_signs_259 : Nat → Int32) (t_tokens_259 : Int32) (t_spoons_259 : Int32) (t_mostSpoons_259 : Int32) (x6_259 : Int32) (x7_259 : Int32) : Option (Int32 × Int32 × Int32 × Int32 × (Nat → Int32) × (Nat → Int32)) :=
  gb (g_X12_adds t_tokens_259 t_spoons_259 t_mostSpoons_259 t_signs_259 t_numbers_259 x7_259 (0 : Int32) (1 : Int32) (0 : Int32)) fun r2 =>
  if r2.1 = 0 then
    g_X12_reads_b275 n_p1 p1 p2 p3 k24 r2.2.2.2.2.2 r2.2.2.2.2.1 r2.2.1 r2.2.2.1 r2.2.2.2.1 x6_259 x7_259
  else
    g_X12_reads_b276 n_p1 p1 p2 p3 k24 r2.2.2.2.2.2 r2.2.2.2.2.1 r2.2.1 r2.2.2.1 r2.2.2.2.1 x6_259 x7_259 1
def g_X12_reads_b214 (n_p1 : Nat) (p1 : Nat → Int32) (p2 : Int32) (p3 : Int32) (k24 : (Nat → Int32) → (Nat → Int32) → Int32 → Int32 → Int32 → Int32 → Int32 → Int32 → Option (Int32 × Int32 × Int32 × Int32 × (Nat → Int32) × (Nat → Int32))) (t_numbers_214 : Nat → Int32) (t_signs_214 : Nat → Int32) (t_tokens_214 : Int32) (t_spoons_214 : Int32) (t_mostSpoons_214 : Int32) (x6_214 : Int32) (x7_214 : Int32) : Option (Int32 × Int32 × Int32 × Int32 × (Nat → Int32) × (Nat → Int32)) :=
  gb (g_X12_adds t_tokens_214 t_spoons_214 t_mostSpoons_214 t_signs_214 t_numbers_214 x7_214 (0 : Int32) (2 : Int32) (-1 : Int32)) fun r3 =>
  g_X12_reads_b276 n_p1 p1 p2 p3 k24 r3.2.2.2.2.2 r3.2.2.2.2.1 r3.2.1 r3.2.2.1 r3.2.2.2.1 x6_214 x7_214 r3.1
def g_X12_reads_b179 (n_p1 : Nat) (p1 : Nat → Int32) (p2 : Int32) (p3 : Int32) (k24 : (Nat → Int32) → (Nat → Int32) → Int32 → Int32 → Int32 → Int32 → Int32 → Int32 → Option (Int32 × Int32 × Int32 × Int32 × (Nat → Int32) × (Nat → Int32))) (t_numbers_179 : Nat → Int32) (t_signs_179 : Nat → Int32) (t_tokens_179 : Int32) (t_spoons_179 : Int32) (t_mostSpoons_179 : Int32) (x5_179 : Int32) (x6_179 : Int32) (x9_179 : Int32) (s1_179 : Int32) (s2_179 : Int32) : Option (Int32 × Int32 × Int32 × Int32 × (Nat → Int32) × (Nat → Int32)) :=
  gb (g_X12_adds t_tokens_179 t_spoons_179 t_mostSpoons_179 t_signs_179 t_numbers_179 s1_179 s2_179 (0 : Int32) (1 : Int32)) fun r4 =>
  g_X12_reads_b295 n_p1 p1 p2 p3 k24 r4.2.2.2.2.2 r4.2.2.2.2.1 r4.2.1 r4.2.2.1 r4.2.2.2.1 r4.1 x9_179 x5_179 x6_179
def g_X12_reads_b158 (n_p1 : Nat) (p1 : Nat → Int32) (p2 : Int32) (p3 : Int32) (k24 : (Nat → Int32) → (Nat → Int32) → Int32 → Int32 → Int32 → Int32 → Int32 → Int32 → Option (Int32 × Int32 × Int32 × Int32 × (Nat → Int32) × (Nat → Int32))) (t_numbers_158 : Nat → Int32) (t_signs_158 : Nat → Int32) (t_tokens_158 : Int32) (t_spoons_158 : Int32) (t_mostSpoons_158 : Int32) (x5_158 : Int32) (x6_158 : Int32) (x7_158 : Int32) (x8_158 : Int32) (x9_158 : Int32) : Option (Int32 × Int32 × Int32 × Int32 × (Nat → Int32) × (Nat → Int32)) :=
  if x8_158 = 0 then
    g_X12_reads_b179 n_p1 p1 p2 p3 k24 t_numbers_158 t_signs_158 t_tokens_158 t_spoons_158 t_mostSpoons_158 x5_158 x6_158 x9_158 x7_158 (x7_158 - 48)
  else
    g_X12_reads_b179 n_p1 p1 p2 p3 k24 t_numbers_158 t_signs_158 t_tokens_158 t_spoons_158 t_mostSpoons_158 x5_158 x6_158 x9_158 x7_158 (x7_158 - 97)
def g_X12_reads_b148 (n_p1 : Nat) (p1 : Nat → Int32) (p2 : Int32) (p3 : Int32) (k24 : (Nat → Int32) → (Nat → Int32) → Int32 → Int32 → Int32 → Int32 → Int32 → Int32 → Option (Int32 × Int32 × Int32 × Int32 × (Nat → Int32) × (Nat → Int32))) (t_numbers_148 : Nat → Int32) (t_signs_148 : Nat → Int32) (t_tokens_148 : Int32) (t_spoons_148 : Int32) (t_mostSpoons_148 : Int32) (x5_148 : Int32) (x6_148 : Int32) (x7_148 : Int32) (x8_148 : Int32) (x9_148 : Int32) : Option (Int32 × Int32 × Int32 × Int32 × (Nat → Int32) × (Nat → Int32)) :=
  if x8_148 = 0 then
    if x9_148 = 0 then
      if x7_148 = 43 then
        g_X12_reads_b214 n_p1 p1 p2 p3 k24 t_numbers_148 t_signs_148 t_tokens_148 t_spoons_148 t_mostSpoons_148 x6_148 x7_148
      else
        if x7_148 = 45 then
          g_X12_reads_b214 n_p1 p1 p2 p3 k24 t_numbers_148 t_signs_148 t_tokens_148 t_spoons_148 t_mostSpoons_148 x6_148 x7_148
        else
          if x7_148 = 42 then
            g_X12_reads_b214 n_p1 p1 p2 p3 k24 t_numbers_148 t_signs_148 t_tokens_148 t_spoons_148 t_mostSpoons_148 x6_148 x7_148
          else
            if x7_148 = 61 then
              gb (g_X12_adds t_tokens_148 t_spoons_148 t_mostSpoons_148 t_signs_148 t_numbers_148 x7_148 (0 : Int32) (1 : Int32) (-1 : Int32)) fun r5 =>
              g_X12_reads_b276 n_p1 p1 p2 p3 k24 r5.2.2.2.2.2 r5.2.2.2.2.1 r5.2.1 r5.2.2.1 r5.2.2.2.1 x6_148 x7_148 r5.1
            else
              if x7_148 = 126 then
                g_X12_reads_b259 n_p1 p1 p2 p3 k24 t_numbers_148 t_signs_148 t_tokens_148 t_spoons_148 t_mostSpoons_148 x6_148 x7_148
              else
                if x7_148 = 33 then
                  g_X12_reads_b259 n_p1 p1 p2 p3 k24 t_numbers_148 t_signs_148 t_tokens_148 t_spoons_148 t_mostSpoons_148 x6_148 x7_148
                else
                  g_X12_reads_b275 n_p1 p1 p2 p3 k24 t_numbers_148 t_signs_148 t_tokens_148 t_spoons_148 t_mostSpoons_148 x6_148 x7_148
    else
      g_X12_reads_b158 n_p1 p1 p2 p3 k24 t_numbers_148 t_signs_148 t_tokens_148 t_spoons_148 t_mostSpoons_148 x5_148 x6_148 x7_148 x8_148 x9_148
  else
    g_X12_reads_b158 n_p1 p1 p2 p3 k24 t_numbers_148 t_signs_148 t_tokens_148 t_spoons_148 t_mostSpoons_148 x5_148 x6_148 x7_148 x8_148 x9_148
def g_X12_reads_b24 (n_p1 : Nat) (p1 : Nat → Int32) (p2 : Int32) (p3 : Int32) : Nat → (Nat → Int32) → (Nat → Int32) → Int32 → Int32 → Int32 → Int32 → Int32 → Int32 → Option (Int32 × Int32 × Int32 × Int32 × (Nat → Int32) × (Nat → Int32))
  | 0, _, _, _, _, _, _, _, _ => none
  | n + 1, t_numbers_24, t_signs_24, t_tokens_24, t_spoons_24, t_mostSpoons_24, x4_24, x5_24, x6_24 =>
    if p3 ≤ x6_24 then
      if x5_24 = 0 then
        if 0 < t_spoons_24 then
          some (p3, t_tokens_24, t_spoons_24, t_mostSpoons_24, t_numbers_24, t_signs_24)
        else
          if t_tokens_24 = 0 then
            some (p3, t_tokens_24, t_spoons_24, t_mostSpoons_24, t_numbers_24, t_signs_24)
          else
            some ((-1), t_tokens_24, t_spoons_24, t_mostSpoons_24, t_numbers_24, t_signs_24)
      else
        some (p3, t_tokens_24, t_spoons_24, t_mostSpoons_24, t_numbers_24, t_signs_24)
    else
      gc (inb (p2 + x6_24) n_p1) <|
      gl (((p1 (p2 + x6_24).toNatClampNeg).toUInt32 % 65536).toInt32) fun v6 =>
      gb (g_X12_in v6.toInt64 (97 : Int64) (102 : Int64)) fun r7 =>
      gb (g_X12_in v6.toInt64 (48 : Int64) (57 : Int64)) fun r8 =>
      if x5_24 = 0 then
        if r8 = 0 then
          g_X12_reads_b148 n_p1 p1 p2 p3 (g_X12_reads_b24 n_p1 p1 p2 p3 n) t_numbers_24 t_signs_24 t_tokens_24 t_spoons_24 t_mostSpoons_24 x5_24 x6_24 v6 r7 r8
        else
          if x4_24 = 0 then
            g_X12_reads_b148 n_p1 p1 p2 p3 (g_X12_reads_b24 n_p1 p1 p2 p3 n) t_numbers_24 t_signs_24 t_tokens_24 t_spoons_24 t_mostSpoons_24 x5_24 x6_24 v6 r7 r8
          else
            gc (inb (t_tokens_24 - 1) 60) <|
            gc (inb (t_tokens_24 - 1) 60) <|
            g_X12_reads_b295 n_p1 p1 p2 p3 (g_X12_reads_b24 n_p1 p1 p2 p3 n) (upd t_numbers_24 (t_tokens_24 - 1).toNatClampNeg (((10 * (t_numbers_24 (t_tokens_24 - 1).toNatClampNeg)) + v6) - 48)) t_signs_24 t_tokens_24 t_spoons_24 t_mostSpoons_24 1 0 x5_24 x6_24
      else
        gc (inb (t_tokens_24 - 1) 60) <|
        g_X12_reads_b295 n_p1 p1 p2 p3 (g_X12_reads_b24 n_p1 p1 p2 p3 n) (upd t_numbers_24 (t_tokens_24 - 1).toNatClampNeg (v6 - 97)) t_signs_24 t_tokens_24 t_spoons_24 t_mostSpoons_24 r7 x4_24 0 x6_24
def g_X12_reads (n_p1 : Nat) (t_tokens : Int32) (t_spoons : Int32) (t_mostSpoons : Int32) (p1 : Nat → Int32) (t_numbers : Nat → Int32) (t_signs : Nat → Int32) (p2 : Int32) (p3 : Int32) : Option (Int32 × Int32 × Int32 × Int32 × (Nat → Int32) × (Nat → Int32)) :=
  g_X12_reads_b24 n_p1 p1 p2 p3 100 t_numbers t_signs 0 0 0 0 0 0
def g_X12_tells (t_tokens : Int32) (t_spoons : Int32) (t_mostSpoons : Int32) (t_s : Nat → Int32) (t_numbers : Nat → Int32) (t_signs : Nat → Int32) (p1 : Int32) : Option (Int32 × Int32 × Int32 × (Nat → Int32) × (Nat → Int32)) :=
  gl (34 + (62 * p1)) fun v1 =>
  gc (inb (v1 + 1) 282) <|
  gb (g_X12_reads 282 t_tokens t_spoons t_mostSpoons t_s t_numbers t_signs (v1 + 2) (t_s (v1 + 1).toNatClampNeg)) fun r2 =>
  some (r2.2.1, r2.2.2.1, r2.2.2.2.1, r2.2.2.2.2.1, r2.2.2.2.2.2)
def g_X12_isLetter (t_signs : Nat → Int32) (p1 : Int32) : Option (Int32) :=
  gc (inb p1 60) <|
  gb (g_X12_in ((t_signs p1.toNatClampNeg).toInt64) (97 : Int64) (102 : Int64)) fun r1 =>
  gc (bo r1) <|
  some (r1)
def g_X12_laysBounds (t_lowOn : Nat → Int64) (t_highOn : Nat → Int64) (p1 : Int32) (p2 : Int64) (p3 : Int64) : Option ((Nat → Int64) × (Nat → Int64)) :=
  gc (inb p1 6) <|
  gc (inb p1 6) <|
  some ((vp_updL t_lowOn p1.toNatClampNeg p2), (vp_updL t_highOn p1.toNatClampNeg p3))
def g_X12_isNumber (t_signs : Nat → Int32) (p1 : Int32) : Option (Int32) :=
  gc (inb p1 60) <|
  gb (g_X12_in ((t_signs p1.toNatClampNeg).toInt64) (48 : Int64) (57 : Int64)) fun r1 =>
  gc (bo r1) <|
  some (r1)
def g_X12_typesReckoning_b199 (t_isBrothOn : Nat → Int32) (p2 : Int32) (t_highOn_199 : Nat → Int64) (t_lowOn_199 : Nat → Int64) (s0_199 : Int32) : Option (Int32 × (Nat → Int64) × (Nat → Int64)) :=
  gc (inb p2 6) <|
  gc (inb (p2 - 1) 6) <|
  if (t_isBrothOn p2.toNatClampNeg) = (t_isBrothOn (p2 - 1).toNatClampNeg) then
    gc (inb p2 6) <|
    if (t_isBrothOn p2.toNatClampNeg) = 0 then
      if s0_199 = 0 then
        some (1, t_lowOn_199, t_highOn_199)
      else
        some (0, t_lowOn_199, t_highOn_199)
    else
      some (0, t_lowOn_199, t_highOn_199)
  else
    some (1, t_lowOn_199, t_highOn_199)
def g_X12_typesReckoning_b198 (t_isBrothOn : Nat → Int32) (p2 : Int32) (t_highOn_198 : Nat → Int64) (t_lowOn_198 : Nat → Int64) : Option (Int32 × (Nat → Int64) × (Nat → Int64)) :=
  g_X12_typesReckoning_b199 t_isBrothOn p2 t_highOn_198 t_lowOn_198 0
def g_X12_typesReckoning_b154 (t_isBrothOn : Nat → Int32) (p2 : Int32) (t_highOn_154 : Nat → Int64) (t_lowOn_154 : Nat → Int64) : Option (Int32 × (Nat → Int64) × (Nat → Int64)) :=
  gc (inb (p2 - 1) 6) <|
  gb (g_X12_in (t_lowOn_154 (p2 - 1).toNatClampNeg) (-1000000 : Int64) (1000000 : Int64)) fun r10 =>
  if r10 = 0 then
    g_X12_typesReckoning_b198 t_isBrothOn p2 t_highOn_154 t_lowOn_154
  else
    gc (inb (p2 - 1) 6) <|
    gb (g_X12_in (t_highOn_154 (p2 - 1).toNatClampNeg) (-1000000 : Int64) (1000000 : Int64)) fun r11 =>
    if r11 = 0 then
      g_X12_typesReckoning_b198 t_isBrothOn p2 t_highOn_154 t_lowOn_154
    else
      g_X12_typesReckoning_b199 t_isBrothOn p2 t_highOn_154 t_lowOn_154 1
def g_X12_typesReckoning (t_lowOn : Nat → Int64) (t_highOn : Nat → Int64) (t_isBrothOn : Nat → Int32) (p1 : Int32) (p2 : Int32) : Option (Int32 × (Nat → Int64) × (Nat → Int64)) :=
  gc (inb (p2 - 1) 6) <|
  gl (t_lowOn (p2 - 1).toNatClampNeg) fun v1 =>
  gc (inb (p2 - 1) 6) <|
  gl (t_highOn (p2 - 1).toNatClampNeg) fun v2 =>
  gc (inb p2 6) <|
  gl (t_lowOn p2.toNatClampNeg) fun v3 =>
  gc (inb p2 6) <|
  gl (t_highOn p2.toNatClampNeg) fun v4 =>
  if p1 = 43 then
    gb (g_X12_laysBounds t_lowOn t_highOn (p2 - 1) (v1 + v3) (v2 + v4)) fun r9 =>
    g_X12_typesReckoning_b154 t_isBrothOn p2 r9.2 r9.1
  else
    if p1 = 45 then
      gb (g_X12_laysBounds t_lowOn t_highOn (p2 - 1) (v1 - v4) (v2 - v3)) fun r8 =>
      g_X12_typesReckoning_b154 t_isBrothOn p2 r8.2 r8.1
    else
      gl (if (if (v2 * v4) < (v2 * v3) then (v2 * v4) else (v2 * v3)) < (if (v1 * v4) < (v1 * v3) then (v1 * v4) else (v1 * v3)) then (if (v2 * v4) < (v2 * v3) then (v2 * v4) else (v2 * v3)) else (if (v1 * v4) < (v1 * v3) then (v1 * v4) else (v1 * v3))) fun v5 =>
      gl (if (if (v2 * v4) < (v2 * v3) then (v2 * v3) else (v2 * v4)) < (if (v1 * v4) < (v1 * v3) then (v1 * v3) else (v1 * v4)) then (if (v1 * v4) < (v1 * v3) then (v1 * v3) else (v1 * v4)) else (if (v2 * v4) < (v2 * v3) then (v2 * v3) else (v2 * v4))) fun v6 =>
      gb (g_X12_laysBounds t_lowOn t_highOn (p2 - 1) v5 v6) fun r7 =>
      g_X12_typesReckoning_b154 t_isBrothOn p2 r7.2 r7.1
def g_X12_isFault_b251 (t_lowOn : Nat → Int64) (t_highOn : Nat → Int64) (t_isBrothOn : Nat → Int32) (t_s : Nat → Int32) (x3_251 : Int32) (x4_251 : Int32) (s0_251 : Int32) : Option (Int32 × (Nat → Int64) × (Nat → Int64) × (Nat → Int32)) :=
  gc (inb x4_251 6) <|
  gb (g_X12_isBroth t_s x3_251) fun r13 =>
  if (t_isBrothOn x4_251.toNatClampNeg) = r13 then
    gc (inb x4_251 6) <|
    if (t_isBrothOn x4_251.toNatClampNeg) = 0 then
      if s0_251 = 0 then
        some (1, t_lowOn, t_highOn, t_isBrothOn)
      else
        some (0, t_lowOn, t_highOn, t_isBrothOn)
    else
      some (0, t_lowOn, t_highOn, t_isBrothOn)
  else
    some (1, t_lowOn, t_highOn, t_isBrothOn)
def g_X12_isFault_b250 (t_lowOn : Nat → Int64) (t_highOn : Nat → Int64) (t_isBrothOn : Nat → Int32) (t_s : Nat → Int32) (x3_250 : Int32) (x4_250 : Int32) : Option (Int32 × (Nat → Int64) × (Nat → Int64) × (Nat → Int32)) :=
  g_X12_isFault_b251 t_lowOn t_highOn t_isBrothOn t_s x3_250 x4_250 0
def g_X12_isFault_b203 (t_lowOn : Nat → Int64) (t_highOn : Nat → Int64) (t_isBrothOn_203 : Nat → Int32) (x6_203 : Int32) (s1_203 : Int32) (s2_203 : Int64) (s3_203 : Int64) : Option (Int32 × (Nat → Int64) × (Nat → Int64) × (Nat → Int32)) :=
  gb (g_X12_laysBounds t_lowOn t_highOn s1_203 s2_203 s3_203) fun r14 =>
  gc (bo x6_203) <|
  some (x6_203, r14.1, r14.2, t_isBrothOn_203)
def g_X12_isFault_b189 (t_lowOn : Nat → Int64) (t_highOn : Nat → Int64) (t_isBrothOn_189 : Nat → Int32) (x5_189 : Int32) (x6_189 : Int32) (s1_189 : Int32) (s2_189 : Int64) : Option (Int32 × (Nat → Int64) × (Nat → Int64) × (Nat → Int32)) :=
  if x5_189 = 126 then
    g_X12_isFault_b203 t_lowOn t_highOn t_isBrothOn_189 x6_189 s1_189 s2_189 0
  else
    g_X12_isFault_b203 t_lowOn t_highOn t_isBrothOn_189 x6_189 s1_189 s2_189 (99 : Int64)
def g_X12_isFault_b171 (t_lowOn : Nat → Int64) (t_highOn : Nat → Int64) (t_isBrothOn : Nat → Int32) (x4_171 : Int32) (x5_171 : Int32) (x6_171 : Int32) (s1_171 : Int32) (s2_171 : Int32) : Option (Int32 × (Nat → Int64) × (Nat → Int64) × (Nat → Int32)) :=
  gc (inb s1_171 6) <|
  if x5_171 = 126 then
    g_X12_isFault_b189 t_lowOn t_highOn (upd t_isBrothOn s1_171.toNatClampNeg (vp_nar .boolean s2_171)) x5_171 x6_171 x4_171 0
  else
    g_X12_isFault_b189 t_lowOn t_highOn (upd t_isBrothOn s1_171.toNatClampNeg (vp_nar .boolean s2_171)) x5_171 x6_171 x4_171 (-99 : Int64)
def g_X12_isFault_b151 (t_lowOn : Nat → Int64) (t_highOn : Nat → Int64) (t_isBrothOn : Nat → Int32) (x4_151 : Int32) (x5_151 : Int32) (s0_151 : Int32) : Option (Int32 × (Nat → Int64) × (Nat → Int64) × (Nat → Int32)) :=
  if x5_151 = 126 then
    g_X12_isFault_b171 t_lowOn t_highOn t_isBrothOn x4_151 x5_151 s0_151 x4_151 1
  else
    g_X12_isFault_b171 t_lowOn t_highOn t_isBrothOn x4_151 x5_151 s0_151 x4_151 0
def g_X12_isFault_b143 (t_lowOn : Nat → Int64) (t_highOn : Nat → Int64) (t_isBrothOn : Nat → Int32) (x4_143 : Int32) (x5_143 : Int32) (s0_143 : Int32) (s1_143 : Int32) : Option (Int32 × (Nat → Int64) × (Nat → Int64) × (Nat → Int32)) :=
  if s0_143 = s1_143 then
    g_X12_isFault_b151 t_lowOn t_highOn t_isBrothOn x4_143 x5_143 1
  else
    g_X12_isFault_b151 t_lowOn t_highOn t_isBrothOn x4_143 x5_143 0
def g_X12_isFault_b124 (t_lowOn : Nat → Int64) (t_highOn : Nat → Int64) (t_isBrothOn : Nat → Int32) (x4_124 : Int32) (x5_124 : Int32) : Option (Int32 × (Nat → Int64) × (Nat → Int64) × (Nat → Int32)) :=
  gc (inb x4_124 6) <|
  if x5_124 = 126 then
    g_X12_isFault_b143 t_lowOn t_highOn t_isBrothOn x4_124 x5_124 (t_isBrothOn x4_124.toNatClampNeg) 1
  else
    g_X12_isFault_b143 t_lowOn t_highOn t_isBrothOn x4_124 x5_124 (t_isBrothOn x4_124.toNatClampNeg) 0
def g_X12_isFault_b66 (t_lowOn : Nat → Int64) (t_highOn : Nat → Int64) (p2 : Int32) (t_isBrothOn_66 : Nat → Int32) (s2_66 : Int64) (s3_66 : Int64) : Option (Int32 × (Nat → Int64) × (Nat → Int64) × (Nat → Int32)) :=
  gb (g_X12_laysBounds t_lowOn t_highOn p2 s2_66 s3_66) fun r15 =>
  some (0, r15.1, r15.2, t_isBrothOn_66)
def g_X12_isFault_b47 (t_lowOn : Nat → Int64) (t_highOn : Nat → Int64) (t_s : Nat → Int32) (p2 : Int32) (t_isBrothOn_47 : Nat → Int32) (x3_47 : Int32) (s2_47 : Int64) : Option (Int32 × (Nat → Int64) × (Nat → Int64) × (Nat → Int32)) :=
  gb (g_X12_isBroth t_s x3_47) fun r16 =>
  if r16 = 0 then
    gb (g_X12_of t_s x3_47 (2 : Int32)) fun r17 =>
    g_X12_isFault_b66 t_lowOn t_highOn p2 t_isBrothOn_47 s2_47 r17.toInt64
  else
    g_X12_isFault_b66 t_lowOn t_highOn p2 t_isBrothOn_47 s2_47 0
def g_X12_isFault (t_numbers : Nat → Int32) (t_signs : Nat → Int32) (t_lowOn : Nat → Int64) (t_highOn : Nat → Int64) (t_isBrothOn : Nat → Int32) (t_s : Nat → Int32) (p1 : Int32) (p2 : Int32) : Option (Int32 × (Nat → Int64) × (Nat → Int64) × (Nat → Int32)) :=
  gc (inb p1 60) <|
  gl (t_numbers p1.toNatClampNeg) fun v1 =>
  gb (g_X12_isLetter t_signs p1) fun r2 =>
  if r2 = 0 then
    gb (g_X12_isNumber t_signs p1) fun r3 =>
    if r3 = 0 then
      gl (p2 - 1) fun v4 =>
      gc (inb p1 60) <|
      gl (t_signs p1.toNatClampNeg) fun v5 =>
      if v5 = 126 then
        g_X12_isFault_b124 t_lowOn t_highOn t_isBrothOn v4 v5
      else
        if v5 = 33 then
          g_X12_isFault_b124 t_lowOn t_highOn t_isBrothOn v4 v5
        else
          if v5 = 61 then
            gc (inb v4 6) <|
            gb (g_X12_holds t_s v1 (t_lowOn v4.toNatClampNeg)) fun r7 =>
            if r7 = 0 then
              g_X12_isFault_b250 t_lowOn t_highOn t_isBrothOn t_s v1 v4
            else
              gc (inb v4 6) <|
              gb (g_X12_holds t_s v1 (t_highOn v4.toNatClampNeg)) fun r8 =>
              if r8 = 0 then
                g_X12_isFault_b250 t_lowOn t_highOn t_isBrothOn t_s v1 v4
              else
                g_X12_isFault_b251 t_lowOn t_highOn t_isBrothOn t_s v1 v4 1
          else
            gb (g_X12_typesReckoning t_lowOn t_highOn t_isBrothOn v5 v4) fun r6 =>
            gc (bo r6.1) <|
            some (r6.1, r6.2.1, r6.2.2, t_isBrothOn)
    else
      gc (inb p2 6) <|
      gb (g_X12_laysBounds t_lowOn t_highOn p2 v1.toInt64 v1.toInt64) fun r9 =>
      some (0, r9.1, r9.2, (upd t_isBrothOn p2.toNatClampNeg (vp_nar .boolean 0)))
  else
    gb (g_X12_isBroth t_s v1) fun r10 =>
    gc (inb p2 6) <|
    gb (g_X12_isBroth t_s v1) fun r11 =>
    if r11 = 0 then
      gb (g_X12_of t_s v1 (1 : Int32)) fun r12 =>
      g_X12_isFault_b47 t_lowOn t_highOn t_s p2 (upd t_isBrothOn p2.toNatClampNeg (vp_nar .boolean r10)) v1 r12.toInt64
    else
      g_X12_isFault_b47 t_lowOn t_highOn t_s p2 (upd t_isBrothOn p2.toNatClampNeg (vp_nar .boolean r10)) v1 0
def g_X12_more (t_signs : Nat → Int32) (p1 : Int32) : Option (Int32) :=
  gb (g_X12_isLetter t_signs p1) fun r1 =>
  if r1 = 0 then
    gb (g_X12_isNumber t_signs p1) fun r2 =>
    if r2 = 0 then
      gc (inb p1 60) <|
      if (t_signs p1.toNatClampNeg) = 126 then
        some (0)
      else
        gc (inb p1 60) <|
        if (t_signs p1.toNatClampNeg) = 33 then
          some (0)
        else
          some ((-1))
    else
      some (1)
  else
    some (1)
def g_X12_faultOf_b107 (t_s : Nat → Int32) (k14 : (Nat → Int64) → (Nat → Int64) → (Nat → Int32) → (Nat → Int32) → (Nat → Int64) → (Nat → Int64) → (Nat → Int32) → (Nat → Int32) → Int32 → Int32 → Int32 → Int32 → Int32 → Int32 → Option (Int32 × Int32 × Int32 × Int32 × Int32 × (Nat → Int32) × (Nat → Int32) × (Nat → Int64) × (Nat → Int64) × (Nat → Int32) × (Nat → Int64) × (Nat → Int64) × (Nat → Int32))) (t_highOn_107 : Nat → Int64) (t_highStored_107 : Nat → Int64) (t_isBrothOn_107 : Nat → Int32) (t_isBrothStored_107 : Nat → Int32) (t_lowOn_107 : Nat → Int64) (t_lowStored_107 : Nat → Int64) (t_numbers_107 : Nat → Int32) (t_signs_107 : Nat → Int32) (t_tokens_107 : Int32) (t_spoons_107 : Int32) (t_mostSpoons_107 : Int32) (t_storeMany_107 : Int32) (x2_107 : Int32) (x3_107 : Int32) : Option (Int32 × Int32 × Int32 × Int32 × Int32 × (Nat → Int32) × (Nat → Int32) × (Nat → Int64) × (Nat → Int64) × (Nat → Int32) × (Nat → Int64) × (Nat → Int64) × (Nat → Int32)) :=
  gl (x3_107 + 1) fun v2 =>
  k14 t_highOn_107 t_highStored_107 t_isBrothOn_107 t_isBrothStored_107 t_lowOn_107 t_lowStored_107 t_numbers_107 t_signs_107 t_tokens_107 t_spoons_107 t_mostSpoons_107 t_storeMany_107 x2_107 v2
def g_X12_faultOf_b14 (t_s : Nat → Int32) : Nat → (Nat → Int64) → (Nat → Int64) → (Nat → Int32) → (Nat → Int32) → (Nat → Int64) → (Nat → Int64) → (Nat → Int32) → (Nat → Int32) → Int32 → Int32 → Int32 → Int32 → Int32 → Int32 → Option (Int32 × Int32 × Int32 × Int32 × Int32 × (Nat → Int32) × (Nat → Int32) × (Nat → Int64) × (Nat → Int64) × (Nat → Int32) × (Nat → Int64) × (Nat → Int64) × (Nat → Int32))
  | 0, _, _, _, _, _, _, _, _, _, _, _, _, _, _ => none
  | n + 1, t_highOn_14, t_highStored_14, t_isBrothOn_14, t_isBrothStored_14, t_lowOn_14, t_lowStored_14, t_numbers_14, t_signs_14, t_tokens_14, t_spoons_14, t_mostSpoons_14, t_storeMany_14, x2_14, x3_14 =>
    if t_tokens_14 ≤ x3_14 then
      some ((-1), t_tokens_14, t_spoons_14, t_mostSpoons_14, t_storeMany_14, t_numbers_14, t_signs_14, t_lowOn_14, t_highOn_14, t_isBrothOn_14, t_lowStored_14, t_highStored_14, t_isBrothStored_14)
    else
      gb (g_X12_isFault t_numbers_14 t_signs_14 t_lowOn_14 t_highOn_14 t_isBrothOn_14 t_s x3_14 x2_14) fun r3 =>
      if r3.1 = 0 then
        gb (g_X12_more t_signs_14 x3_14) fun r4 =>
        gl (x2_14 + r4) fun v5 =>
        gc (inb x3_14 60) <|
        if (t_signs_14 x3_14.toNatClampNeg) = 61 then
          gc (inb v5 6) <|
          gc (inb t_storeMany_14 24) <|
          gc (inb v5 6) <|
          gc (inb t_storeMany_14 24) <|
          gc (inb v5 6) <|
          gc (inb t_storeMany_14 24) <|
          gl (t_storeMany_14 + 1) fun v6 =>
          g_X12_faultOf_b107 t_s (g_X12_faultOf_b14 t_s n) r3.2.2.1 (vp_updL t_highStored_14 t_storeMany_14.toNatClampNeg (r3.2.2.1 v5.toNatClampNeg)) r3.2.2.2 (upd t_isBrothStored_14 t_storeMany_14.toNatClampNeg (vp_nar .boolean (r3.2.2.2 v5.toNatClampNeg))) r3.2.1 (vp_updL t_lowStored_14 t_storeMany_14.toNatClampNeg (r3.2.1 v5.toNatClampNeg)) t_numbers_14 t_signs_14 t_tokens_14 t_spoons_14 t_mostSpoons_14 v6 v5 x3_14
        else
          g_X12_faultOf_b107 t_s (g_X12_faultOf_b14 t_s n) r3.2.2.1 t_highStored_14 r3.2.2.2 t_isBrothStored_14 r3.2.1 t_lowStored_14 t_numbers_14 t_signs_14 t_tokens_14 t_spoons_14 t_mostSpoons_14 t_storeMany_14 v5 x3_14
      else
        some (x3_14, t_tokens_14, t_spoons_14, t_mostSpoons_14, t_storeMany_14, t_numbers_14, t_signs_14, r3.2.1, r3.2.2.1, r3.2.2.2, t_lowStored_14, t_highStored_14, t_isBrothStored_14)
def g_X12_faultOf (t_tokens : Int32) (t_spoons : Int32) (t_mostSpoons : Int32) (t_storeMany : Int32) (t_s : Nat → Int32) (t_numbers : Nat → Int32) (t_signs : Nat → Int32) (t_lowOn : Nat → Int64) (t_highOn : Nat → Int64) (t_isBrothOn : Nat → Int32) (t_lowStored : Nat → Int64) (t_highStored : Nat → Int64) (t_isBrothStored : Nat → Int32) (p1 : Int32) : Option (Int32 × Int32 × Int32 × Int32 × Int32 × (Nat → Int32) × (Nat → Int32) × (Nat → Int64) × (Nat → Int64) × (Nat → Int32) × (Nat → Int64) × (Nat → Int64) × (Nat → Int32)) :=
  gb (g_X12_tells t_tokens t_spoons t_mostSpoons t_s t_numbers t_signs p1) fun r1 =>
  g_X12_faultOf_b14 t_s 100 t_highOn t_highStored t_isBrothOn t_isBrothStored t_lowOn t_lowStored r1.2.2.2.1 r1.2.2.2.2 r1.1 r1.2.1 r1.2.2.1 0 0 0
def g_X12_typedMany_b28 (t_s : Nat → Int32) (k4 : (Nat → Int64) → (Nat → Int64) → (Nat → Int32) → (Nat → Int32) → (Nat → Int64) → (Nat → Int64) → (Nat → Int32) → (Nat → Int32) → Int32 → Int32 → Int32 → Int32 → Int32 → Int32 → Option (Int32 × Int32 × Int32 × Int32 × Int32 × (Nat → Int32) × (Nat → Int32) × (Nat → Int64) × (Nat → Int64) × (Nat → Int32) × (Nat → Int64) × (Nat → Int64) × (Nat → Int32))) (t_highOn_28 : Nat → Int64) (t_highStored_28 : Nat → Int64) (t_isBrothOn_28 : Nat → Int32) (t_isBrothStored_28 : Nat → Int32) (t_lowOn_28 : Nat → Int64) (t_lowStored_28 : Nat → Int64) (t_numbers_28 : Nat → Int32) (t_signs_28 : Nat → Int32) (t_tokens_28 : Int32) (t_spoons_28 : Int32) (t_mostSpoons_28 : Int32) (t_storeMany_28 : Int32) (x2_28 : Int32) (s0_28 : Int32) (s1_28 : Int32) : Option (Int32 × Int32 × Int32 × Int32 × Int32 × (Nat → Int32) × (Nat → Int32) × (Nat → Int64) × (Nat → Int64) × (Nat → Int32) × (Nat → Int64) × (Nat → Int64) × (Nat → Int32)) :=
  gl (s0_28 + s1_28) fun v1 =>
  gl (x2_28 + 1) fun v2 =>
  k4 t_highOn_28 t_highStored_28 t_isBrothOn_28 t_isBrothStored_28 t_lowOn_28 t_lowStored_28 t_numbers_28 t_signs_28 t_tokens_28 t_spoons_28 t_mostSpoons_28 t_storeMany_28 v1 v2
def g_X12_typedMany_b4 (t_s : Nat → Int32) : Nat → (Nat → Int64) → (Nat → Int64) → (Nat → Int32) → (Nat → Int32) → (Nat → Int64) → (Nat → Int64) → (Nat → Int32) → (Nat → Int32) → Int32 → Int32 → Int32 → Int32 → Int32 → Int32 → Option (Int32 × Int32 × Int32 × Int32 × Int32 × (Nat → Int32) × (Nat → Int32) × (Nat → Int64) × (Nat → Int64) × (Nat → Int32) × (Nat → Int64) × (Nat → Int64) × (Nat → Int32))
  | 0, _, _, _, _, _, _, _, _, _, _, _, _, _, _ => none
  | n + 1, t_highOn_4, t_highStored_4, t_isBrothOn_4, t_isBrothStored_4, t_lowOn_4, t_lowStored_4, t_numbers_4, t_signs_4, t_tokens_4, t_spoons_4, t_mostSpoons_4, t_storeMany_4, x1_4, x2_4 =>
    gc (inb (1 : Int32) 282) <|
    if (t_s (1 : Int32).toNatClampNeg) ≤ x2_4 then
      some (x1_4, t_tokens_4, t_spoons_4, t_mostSpoons_4, t_storeMany_4, t_numbers_4, t_signs_4, t_lowOn_4, t_highOn_4, t_isBrothOn_4, t_lowStored_4, t_highStored_4, t_isBrothStored_4)
    else
      gb (g_X12_faultOf t_tokens_4 t_spoons_4 t_mostSpoons_4 t_storeMany_4 t_s t_numbers_4 t_signs_4 t_lowOn_4 t_highOn_4 t_isBrothOn_4 t_lowStored_4 t_highStored_4 t_isBrothStored_4 x2_4) fun r3 =>
      if 0 ≤ r3.1 then
        g_X12_typedMany_b28 t_s (g_X12_typedMany_b4 t_s n) r3.2.2.2.2.2.2.2.2.1 r3.2.2.2.2.2.2.2.2.2.2.2.1 r3.2.2.2.2.2.2.2.2.2.1 r3.2.2.2.2.2.2.2.2.2.2.2.2 r3.2.2.2.2.2.2.2.1 r3.2.2.2.2.2.2.2.2.2.2.1 r3.2.2.2.2.2.1 r3.2.2.2.2.2.2.1 r3.2.1 r3.2.2.1 r3.2.2.2.1 r3.2.2.2.2.1 x2_4 x1_4 0
      else
        g_X12_typedMany_b28 t_s (g_X12_typedMany_b4 t_s n) r3.2.2.2.2.2.2.2.2.1 r3.2.2.2.2.2.2.2.2.2.2.2.1 r3.2.2.2.2.2.2.2.2.2.1 r3.2.2.2.2.2.2.2.2.2.2.2.2 r3.2.2.2.2.2.2.2.1 r3.2.2.2.2.2.2.2.2.2.2.1 r3.2.2.2.2.2.1 r3.2.2.2.2.2.2.1 r3.2.1 r3.2.2.1 r3.2.2.2.1 r3.2.2.2.2.1 x2_4 x1_4 1
def g_X12_typedMany (t_tokens : Int32) (t_spoons : Int32) (t_mostSpoons : Int32) (t_storeMany : Int32) (t_s : Nat → Int32) (t_numbers : Nat → Int32) (t_signs : Nat → Int32) (t_lowOn : Nat → Int64) (t_highOn : Nat → Int64) (t_isBrothOn : Nat → Int32) (t_lowStored : Nat → Int64) (t_highStored : Nat → Int64) (t_isBrothStored : Nat → Int32) : Option (Int32 × Int32 × Int32 × Int32 × Int32 × (Nat → Int32) × (Nat → Int32) × (Nat → Int64) × (Nat → Int64) × (Nat → Int32) × (Nat → Int64) × (Nat → Int64) × (Nat → Int32)) :=
  g_X12_typedMany_b4 t_s 100 t_highOn t_highStored t_isBrothOn t_isBrothStored t_lowOn t_lowStored t_numbers t_signs t_tokens t_spoons t_mostSpoons t_storeMany 0 0
def g_X12_doBounds (t_thrown : Int32) (t_tokens : Int32) (t_spoons : Int32) (t_mostSpoons : Int32) (t_storeMany : Int32) (t_s : Nat → Int32) (t_numbers : Nat → Int32) (t_signs : Nat → Int32) (t_lowOn : Nat → Int64) (t_highOn : Nat → Int64) (t_isBrothOn : Nat → Int32) (t_lowStored : Nat → Int64) (t_highStored : Nat → Int64) (t_isBrothStored : Nat → Int32) (t_refused : Nat → Int32) (p1 : Int32) (p2 : Int32) (p3 : Int32) : Option (Int32 × Int32 × Int32 × Int32 × Int32 × Int32 × (Nat → Int32) × (Nat → Int32) × (Nat → Int32) × (Nat → Int64) × (Nat → Int64) × (Nat → Int32) × (Nat → Int64) × (Nat → Int64) × (Nat → Int32) × (Nat → Int32)) :=
  gb (g_X12_isCauldron t_s p1) fun r1 =>
  if r1 = 0 then
    gb (g_X12_fails t_thrown (1 : Int32)) fun r15 =>
    some (r15.1, r15.2, t_tokens, t_spoons, t_mostSpoons, t_storeMany, t_s, t_numbers, t_signs, t_lowOn, t_highOn, t_isBrothOn, t_lowStored, t_highStored, t_isBrothStored, t_refused)
  else
    gb (g_X12_areBounds p2 p3) fun r2 =>
    if r2 = 0 then
      gb (g_X12_fails t_thrown (2 : Int32)) fun r14 =>
      some (r14.1, r14.2, t_tokens, t_spoons, t_mostSpoons, t_storeMany, t_s, t_numbers, t_signs, t_lowOn, t_highOn, t_isBrothOn, t_lowStored, t_highStored, t_isBrothStored, t_refused)
    else
      gb (g_X12_isBroth t_s p1) fun r3 =>
      if r3 = 0 then
        gb (g_X12_of t_s p1 (3 : Int32)) fun r4 =>
        gb (g_X12_in r4.toInt64 p2.toInt64 p3.toInt64) fun r5 =>
        if r5 = 0 then
          gb (g_X12_of t_s p1 (3 : Int32)) fun r11 =>
          gb (g_X12_refuse t_thrown t_refused (3 : Int32) (3 : Int32) r11) fun r12 =>
          some (r12.1, r12.2.1, t_tokens, t_spoons, t_mostSpoons, t_storeMany, t_s, t_numbers, t_signs, t_lowOn, t_highOn, t_isBrothOn, t_lowStored, t_highStored, t_isBrothStored, r12.2.2)
        else
          gb (g_X12_typedMany t_tokens t_spoons t_mostSpoons t_storeMany t_s t_numbers t_signs t_lowOn t_highOn t_isBrothOn t_lowStored t_highStored t_isBrothStored) fun r6 =>
          gb (g_X12_sets t_s p1 (1 : Int32) p2) fun r7 =>
          gb (g_X12_sets r7 p1 (2 : Int32) p3) fun r8 =>
          gb (g_X12_typedMany r6.2.1 r6.2.2.1 r6.2.2.2.1 r6.2.2.2.2.1 r8 r6.2.2.2.2.2.1 r6.2.2.2.2.2.2.1 r6.2.2.2.2.2.2.2.1 r6.2.2.2.2.2.2.2.2.1 r6.2.2.2.2.2.2.2.2.2.1 r6.2.2.2.2.2.2.2.2.2.2.1 r6.2.2.2.2.2.2.2.2.2.2.2.1 r6.2.2.2.2.2.2.2.2.2.2.2.2) fun r9 =>
          gl (r9.1 - r6.1) fun v10 =>
          some (v10, t_thrown, r9.2.1, r9.2.2.1, r9.2.2.2.1, r9.2.2.2.2.1, r8, r9.2.2.2.2.2.1, r9.2.2.2.2.2.2.1, r9.2.2.2.2.2.2.2.1, r9.2.2.2.2.2.2.2.2.1, r9.2.2.2.2.2.2.2.2.2.1, r9.2.2.2.2.2.2.2.2.2.2.1, r9.2.2.2.2.2.2.2.2.2.2.2.1, r9.2.2.2.2.2.2.2.2.2.2.2.2, t_refused)
      else
        gb (g_X12_refuse t_thrown t_refused (3 : Int32) (2 : Int32) p1) fun r13 =>
        some (r13.1, r13.2.1, t_tokens, t_spoons, t_mostSpoons, t_storeMany, t_s, t_numbers, t_signs, t_lowOn, t_highOn, t_isBrothOn, t_lowStored, t_highStored, t_isBrothStored, r13.2.2)
def g_X12_bounds (t_pastMany : Int32) (t_thrown : Int32) (t_tokens : Int32) (t_spoons : Int32) (t_mostSpoons : Int32) (t_storeMany : Int32) (t_s : Nat → Int32) (t_before : Nat → Int32) (t_f : Nat → UInt32) (t_beforeF : Nat → UInt32) (t_numbers : Nat → Int32) (t_signs : Nat → Int32) (t_lowOn : Nat → Int64) (t_highOn : Nat → Int64) (t_isBrothOn : Nat → Int32) (t_lowStored : Nat → Int64) (t_highStored : Nat → Int64) (t_isBrothStored : Nat → Int32) (t_refused : Nat → Int32) (t_past : Nat → Int32) (t_pastF : Nat → UInt32) (p1 : Int32) (p2 : Int32) (p3 : Int32) : Option (Int32 × Int32 × Int32 × Int32 × Int32 × Int32 × Int32 × (Nat → Int32) × (Nat → Int32) × (Nat → UInt32) × (Nat → UInt32) × (Nat → Int32) × (Nat → Int32) × (Nat → Int64) × (Nat → Int64) × (Nat → Int32) × (Nat → Int64) × (Nat → Int64) × (Nat → Int32) × (Nat → Int32) × (Nat → Int32) × (Nat → UInt32)) :=
  gb (g_X12_keep t_thrown t_s t_before t_f t_beforeF) fun r1 =>
  gb (g_X12_doBounds r1.1 t_tokens t_spoons t_mostSpoons t_storeMany t_s t_numbers t_signs t_lowOn t_highOn t_isBrothOn t_lowStored t_highStored t_isBrothStored t_refused p1 p2 p3) fun r2 =>
  gb (g_X12_ends t_pastMany r2.2.1 t_past t_pastF r1.2.1 r2.2.2.2.2.2.2.1 r1.2.2 t_f r2.1) fun r3 =>
  some (r3.1, r3.2.1, r2.2.1, r2.2.2.1, r2.2.2.2.1, r2.2.2.2.2.1, r2.2.2.2.2.2.1, r3.2.2.2.2.1, r1.2.1, r3.2.2.2.2.2, r1.2.2, r2.2.2.2.2.2.2.2.1, r2.2.2.2.2.2.2.2.2.1, r2.2.2.2.2.2.2.2.2.2.1, r2.2.2.2.2.2.2.2.2.2.2.1, r2.2.2.2.2.2.2.2.2.2.2.2.1, r2.2.2.2.2.2.2.2.2.2.2.2.2.1, r2.2.2.2.2.2.2.2.2.2.2.2.2.2.1, r2.2.2.2.2.2.2.2.2.2.2.2.2.2.2.1, r2.2.2.2.2.2.2.2.2.2.2.2.2.2.2.2, r3.2.2.1, r3.2.2.2.1)
def g_X12_append_b33 (t_length : Int32) (t_text : Nat → Int32) (p1 : Int32) (s1_33 : Int32) : Option (Int32 × Int32 × Int32 × (Nat → Int32)) :=
  if s1_33 ≤ 0 then
    gc (inb t_length 60) <|
    gl (t_length + 1) fun v2 =>
    some (v2, s1_33, v2, (upd t_text t_length.toNatClampNeg (vp_nar .char p1)))
  else
    some (0, s1_33, t_length, t_text)
def g_X12_append (t_thrown : Int32) (t_length : Int32) (t_text : Nat → Int32) (p1 : Int32) : Option (Int32 × Int32 × Int32 × (Nat → Int32)) :=
  gb (g_X12_in p1.toInt64 (32 : Int64) (126 : Int64)) fun r1 =>
  if r1 = 0 then
    g_X12_append_b33 t_length t_text p1 1
  else
    if t_length = 60 then
      g_X12_append_b33 t_length t_text p1 2
    else
      g_X12_append_b33 t_length t_text p1 0
def g_X12_doWrite_b102 (t_thrown : Int32) (t_error : Int32) (t_row : Nat → Int32) (t_s : Nat → Int32) (t_refused : Nat → Int32) (p1 : Int32) (k49 : (Nat → Int32) → (Nat → Int32) → Int32 → Int32 → Int32 → Int32 → Int32 → Option (Int32 × Int32 × Int32 × Int32 × Int32 × Int32 × (Nat → Int32) × (Nat → Int32) × (Nat → Int32) × (Nat → Int32))) (t_numbers_102 : Nat → Int32) (t_signs_102 : Nat → Int32) (t_tokens_102 : Int32) (t_spoons_102 : Int32) (t_mostSpoons_102 : Int32) (x3_102 : Int32) (x4_102 : Int32) : Option (Int32 × Int32 × Int32 × Int32 × Int32 × Int32 × (Nat → Int32) × (Nat → Int32) × (Nat → Int32) × (Nat → Int32)) :=
  gl (x4_102 + 1) fun v5 =>
  k49 t_numbers_102 t_signs_102 t_tokens_102 t_spoons_102 t_mostSpoons_102 x3_102 v5
def g_X12_doWrite_b79 (t_thrown : Int32) (t_error : Int32) (t_row : Nat → Int32) (t_s : Nat → Int32) (t_refused : Nat → Int32) (p1 : Int32) (k49 : (Nat → Int32) → (Nat → Int32) → Int32 → Int32 → Int32 → Int32 → Int32 → Option (Int32 × Int32 × Int32 × Int32 × Int32 × Int32 × (Nat → Int32) × (Nat → Int32) × (Nat → Int32) × (Nat → Int32))) (t_numbers_79 : Nat → Int32) (t_signs_79 : Nat → Int32) (t_tokens_79 : Int32) (t_spoons_79 : Int32) (t_mostSpoons_79 : Int32) (x3_79 : Int32) (x4_79 : Int32) : Option (Int32 × Int32 × Int32 × Int32 × Int32 × Int32 × (Nat → Int32) × (Nat → Int32) × (Nat → Int32) × (Nat → Int32)) :=
  gc (inb x4_79 60) <|
  gb (g_X12_isCauldron t_s (t_numbers_79 x4_79.toNatClampNeg)) fun r6 =>
  if r6 = 0 then
    gb (g_X12_refuse t_thrown t_refused (2 : Int32) (5 : Int32) x4_79) fun r7 =>
    some (r7.1, r7.2.1, t_error, t_tokens_79, t_spoons_79, t_mostSpoons_79, t_numbers_79, t_signs_79, t_s, r7.2.2)
  else
    g_X12_doWrite_b102 t_thrown t_error t_row t_s t_refused p1 k49 t_numbers_79 t_signs_79 t_tokens_79 t_spoons_79 t_mostSpoons_79 x3_79 x4_79
def g_X12_doWrite_b49 (t_thrown : Int32) (t_error : Int32) (t_row : Nat → Int32) (t_s : Nat → Int32) (t_refused : Nat → Int32) (p1 : Int32) : Nat → (Nat → Int32) → (Nat → Int32) → Int32 → Int32 → Int32 → Int32 → Int32 → Option (Int32 × Int32 × Int32 × Int32 × Int32 × Int32 × (Nat → Int32) × (Nat → Int32) × (Nat → Int32) × (Nat → Int32))
  | 0, _, _, _, _, _, _, _ => none
  | n + 1, t_numbers_49, t_signs_49, t_tokens_49, t_spoons_49, t_mostSpoons_49, x3_49, x4_49 =>
    if t_tokens_49 ≤ x4_49 then
      gl (34 + (62 * x3_49)) fun v8 =>
      gc (inb v8 282) <|
      gc (inb (v8 + 1) 282) <|
      gc (cpok (0 : Int32) (v8 + 2) p1 60 282) <|
      gc (inb (1 : Int32) 282) <|
      gc (inb (1 : Int32) 282) <|
      some (x3_49, t_thrown, t_error, t_tokens_49, t_spoons_49, t_mostSpoons_49, t_numbers_49, t_signs_49, (upd (va_cpy t_row (upd (upd t_s v8.toNatClampNeg 0) (v8 + 1).toNatClampNeg p1) (0 : Int32).toNatClampNeg (v8 + 2).toNatClampNeg p1.toNatClampNeg) (1 : Int32).toNatClampNeg (((va_cpy t_row (upd (upd t_s v8.toNatClampNeg 0) (v8 + 1).toNatClampNeg p1) (0 : Int32).toNatClampNeg (v8 + 2).toNatClampNeg p1.toNatClampNeg) (1 : Int32).toNatClampNeg) + 1)), t_refused)
    else
      gb (g_X12_isLetter t_signs_49 x4_49) fun r9 =>
      if r9 = 0 then
        gc (inb x4_49 60) <|
        if (t_signs_49 x4_49.toNatClampNeg) = 61 then
          g_X12_doWrite_b79 t_thrown t_error t_row t_s t_refused p1 (g_X12_doWrite_b49 t_thrown t_error t_row t_s t_refused p1 n) t_numbers_49 t_signs_49 t_tokens_49 t_spoons_49 t_mostSpoons_49 x3_49 x4_49
        else
          g_X12_doWrite_b102 t_thrown t_error t_row t_s t_refused p1 (g_X12_doWrite_b49 t_thrown t_error t_row t_s t_refused p1 n) t_numbers_49 t_signs_49 t_tokens_49 t_spoons_49 t_mostSpoons_49 x3_49 x4_49
      else
        g_X12_doWrite_b79 t_thrown t_error t_row t_s t_refused p1 (g_X12_doWrite_b49 t_thrown t_error t_row t_s t_refused p1 n) t_numbers_49 t_signs_49 t_tokens_49 t_spoons_49 t_mostSpoons_49 x3_49 x4_49
def g_X12_doWrite (t_thrown : Int32) (t_error : Int32) (t_tokens : Int32) (t_spoons : Int32) (t_mostSpoons : Int32) (t_row : Nat → Int32) (t_numbers : Nat → Int32) (t_signs : Nat → Int32) (t_s : Nat → Int32) (t_refused : Nat → Int32) (p1 : Int32) : Option (Int32 × Int32 × Int32 × Int32 × Int32 × Int32 × (Nat → Int32) × (Nat → Int32) × (Nat → Int32) × (Nat → Int32)) :=
  gb (g_X12_reads 60 t_tokens t_spoons t_mostSpoons t_row t_numbers t_signs (0 : Int32) p1) fun r1 =>
  if r1.1 < 0 then
    gc (inb (1 : Int32) 282) <|
    gl (t_s (1 : Int32).toNatClampNeg) fun v2 =>
    if v2 = 4 then
      gb (g_X12_refuse t_thrown t_refused (2 : Int32) (1 : Int32) (4 : Int32)) fun r3 =>
      some (r3.1, r3.2.1, t_error, r1.2.1, r1.2.2.1, r1.2.2.2.1, r1.2.2.2.2.1, r1.2.2.2.2.2, t_s, r3.2.2)
    else
      g_X12_doWrite_b49 t_thrown t_error t_row t_s t_refused p1 100 r1.2.2.2.2.1 r1.2.2.2.2.2 r1.2.1 r1.2.2.1 r1.2.2.2.1 v2 0
  else
    gb (g_X12_fails t_thrown (1 : Int32)) fun r4 =>
    some (r4.1, r4.2, r1.1, r1.2.1, r1.2.2.1, r1.2.2.2.1, r1.2.2.2.2.1, r1.2.2.2.2.2, t_s, t_refused)
def g_X12_write_b7 (t_pastMany : Int32) (t_thrown : Int32) (t_length : Int32) (t_error : Int32) (t_tokens : Int32) (t_spoons : Int32) (t_mostSpoons : Int32) (t_s : Nat → Int32) (t_before : Nat → Int32) (t_f : Nat → UInt32) (t_beforeF : Nat → UInt32) (t_numbers : Nat → Int32) (t_signs : Nat → Int32) (t_refused : Nat → Int32) (t_past : Nat → Int32) (t_pastF : Nat → UInt32) (t_text : Nat → Int32) : Nat → (Nat → Int32) → Int32 → Option (Int32 × Int32 × Int32 × Int32 × Int32 × Int32 × Int32 × Int32 × (Nat → Int32) × (Nat → Int32) × (Nat → UInt32) × (Nat → UInt32) × (Nat → Int32) × (Nat → Int32) × (Nat → Int32) × (Nat → Int32) × (Nat → Int32) × (Nat → UInt32))
  | 0, _, _ => none
  | n + 1, t_row_7, x2_7 =>
    if t_length ≤ x2_7 then
      gb (g_X12_keep t_thrown t_s t_before t_f t_beforeF) fun r1 =>
      gb (g_X12_doWrite r1.1 t_error t_tokens t_spoons t_mostSpoons t_row_7 t_numbers t_signs t_s t_refused t_length) fun r2 =>
      gb (g_X12_ends t_pastMany r2.2.1 t_past t_pastF r1.2.1 r2.2.2.2.2.2.2.2.2.1 r1.2.2 t_f r2.1) fun r3 =>
      some (r3.1, r3.2.1, r2.2.1, 0, r2.2.2.1, r2.2.2.2.1, r2.2.2.2.2.1, r2.2.2.2.2.2.1, r3.2.2.2.2.1, r1.2.1, r3.2.2.2.2.2, r1.2.2, t_row_7, r2.2.2.2.2.2.2.1, r2.2.2.2.2.2.2.2.1, r2.2.2.2.2.2.2.2.2.2, r3.2.2.1, r3.2.2.2.1)
    else
      gc (inb x2_7 60) <|
      gc (inb x2_7 60) <|
      gl (x2_7 + 1) fun v4 =>
      (g_X12_write_b7 t_pastMany t_thrown t_length t_error t_tokens t_spoons t_mostSpoons t_s t_before t_f t_beforeF t_numbers t_signs t_refused t_past t_pastF t_text n) (upd t_row_7 x2_7.toNatClampNeg (t_text x2_7.toNatClampNeg)) v4
def g_X12_write (t_pastMany : Int32) (t_thrown : Int32) (t_length : Int32) (t_error : Int32) (t_tokens : Int32) (t_spoons : Int32) (t_mostSpoons : Int32) (t_s : Nat → Int32) (t_before : Nat → Int32) (t_f : Nat → UInt32) (t_beforeF : Nat → UInt32) (t_row : Nat → Int32) (t_numbers : Nat → Int32) (t_signs : Nat → Int32) (t_refused : Nat → Int32) (t_past : Nat → Int32) (t_pastF : Nat → UInt32) (t_text : Nat → Int32) : Option (Int32 × Int32 × Int32 × Int32 × Int32 × Int32 × Int32 × Int32 × (Nat → Int32) × (Nat → Int32) × (Nat → UInt32) × (Nat → UInt32) × (Nat → Int32) × (Nat → Int32) × (Nat → Int32) × (Nat → Int32) × (Nat → Int32) × (Nat → UInt32)) :=
  g_X12_write_b7 t_pastMany t_thrown t_length t_error t_tokens t_spoons t_mostSpoons t_s t_before t_f t_beforeF t_numbers t_signs t_refused t_past t_pastF t_text 100 t_row 0
def g_X12_errorPosition_b13 (t_error : Int32) (s1_13 : Int32) : Option (Int32 × Int32) :=
  if s1_13 ≤ 0 then
    some (t_error, s1_13)
  else
    some (0, s1_13)
def g_X12_errorPosition (t_thrown : Int32) (t_error : Int32) : Option (Int32 × Int32) :=
  if 0 ≤ t_error then
    g_X12_errorPosition_b13 t_error 0
  else
    g_X12_errorPosition_b13 t_error 1
def g_X12_doErase (t_thrown : Int32) (t_s : Nat → Int32) (p1 : Int32) : Option (Int32 × Int32 × (Nat → Int32)) :=
  gb (g_X12_isSpell t_s p1) fun r1 =>
  if r1 = 0 then
    gb (g_X12_fails t_thrown (1 : Int32)) fun r4 =>
    some (r4.1, r4.2, t_s)
  else
    gc (inb (1 : Int32) 282) <|
    gl ((t_s (1 : Int32).toNatClampNeg) - 1) fun v2 =>
    gl (34 + (62 * p1)) fun v3 =>
    gc (cpok (v3 + 62) v3 (62 * (v2 - p1)) 282 282) <|
    gc (inb (1 : Int32) 282) <|
    some (v2, t_thrown, (upd (va_cpy t_s t_s (v3 + 62).toNatClampNeg v3.toNatClampNeg (62 * (v2 - p1)).toNatClampNeg) (1 : Int32).toNatClampNeg v2))
def g_X12_erase (t_pastMany : Int32) (t_thrown : Int32) (t_s : Nat → Int32) (t_before : Nat → Int32) (t_f : Nat → UInt32) (t_beforeF : Nat → UInt32) (t_past : Nat → Int32) (t_pastF : Nat → UInt32) (p1 : Int32) : Option (Int32 × Int32 × Int32 × (Nat → Int32) × (Nat → Int32) × (Nat → UInt32) × (Nat → UInt32) × (Nat → Int32) × (Nat → UInt32)) :=
  gb (g_X12_keep t_thrown t_s t_before t_f t_beforeF) fun r1 =>
  gb (g_X12_doErase r1.1 t_s p1) fun r2 =>
  gb (g_X12_ends t_pastMany r2.2.1 t_past t_pastF r1.2.1 r2.2.2 r1.2.2 t_f r2.1) fun r3 =>
  some (r3.1, r3.2.1, r2.2.1, r3.2.2.2.2.1, r1.2.1, r3.2.2.2.2.2, r1.2.2, r3.2.2.1, r3.2.2.2.1)
def g_X12_boilsBy (t_cause : Int32) (t_causeDetail : Int32) (p1 : Int32) (p2 : Int32) : Option (Int32 × Int32 × Int32) :=
  some (1, p1, p2)
def g_X12_held (p1 : UInt32) : Option (UInt32) :=
  if 0 ≤ (Op.cmpValue (FP.fcmp p1 (3323739136 : UInt32)) .g) then
    if (Op.cmpValue (FP.fcmp p1 (1176255488 : UInt32)) .l) ≤ 0 then
      some (p1)
    else
      gl (1176255488 : UInt32) fun v1 =>
      some (v1)
  else
    gl (3323739136 : UInt32) fun v2 =>
    some (v2)
def g_X12_reckons_b204 (t_cause : Int32) (t_causeDetail : Int32) (t_brothOn_204 : Nat → UInt32) (t_dramsOn_204 : Nat → Int64) (s2_204 : Int32) : Option (Int32 × Int32 × Int32 × (Nat → Int64) × (Nat → UInt32)) :=
  gb (g_X12_boilsBy t_cause t_causeDetail (8 : Int32) s2_204) fun r6 =>
  if r6.1 = 0 then
    some (0, r6.2.1, r6.2.2, t_dramsOn_204, t_brothOn_204)
  else
    some (1, r6.2.1, r6.2.2, t_dramsOn_204, t_brothOn_204)
def g_X12_reckons_b176 (t_cause : Int32) (t_causeDetail : Int32) (p2 : Int32) (t_brothOn_176 : Nat → UInt32) (t_dramsOn_176 : Nat → Int64) (s0_176 : Int32) : Option (Int32 × Int32 × Int32 × (Nat → Int64) × (Nat → UInt32)) :=
  if s0_176 = 0 then
    gc (inb (p2 - 1) 6) <|
    if 0 ≤ (lg_cmp (t_dramsOn_176 (p2 - 1).toNatClampNeg) 0) then
      g_X12_reckons_b204 t_cause t_causeDetail t_brothOn_176 t_dramsOn_176 1
    else
      g_X12_reckons_b204 t_cause t_causeDetail t_brothOn_176 t_dramsOn_176 (-1)
  else
    some (0, t_cause, t_causeDetail, t_dramsOn_176, t_brothOn_176)
def g_X12_reckons_b171 (t_cause : Int32) (t_causeDetail : Int32) (p2 : Int32) (t_brothOn_171 : Nat → UInt32) (t_dramsOn_171 : Nat → Int64) : Option (Int32 × Int32 × Int32 × (Nat → Int64) × (Nat → UInt32)) :=
  g_X12_reckons_b176 t_cause t_causeDetail p2 t_brothOn_171 t_dramsOn_171 1
def g_X12_reckons_b138 (t_cause : Int32) (t_causeDetail : Int32) (t_isBrothOn : Nat → Int32) (t_brothOn : Nat → UInt32) (p2 : Int32) (t_dramsOn_138 : Nat → Int64) (s1_138 : Int32) (s2_138 : UInt32) : Option (Int32 × Int32 × Int32 × (Nat → Int64) × (Nat → UInt32)) :=
  gb (g_X12_held s2_138) fun r7 =>
  gc (inb s1_138 6) <|
  gc (inb p2 6) <|
  if (t_isBrothOn p2.toNatClampNeg) = 0 then
    gc (inb (p2 - 1) 6) <|
    gb (g_X12_in (t_dramsOn_138 (p2 - 1).toNatClampNeg) (-1000000 : Int64) (1000000 : Int64)) fun r8 =>
    if r8 = 0 then
      g_X12_reckons_b176 t_cause t_causeDetail p2 (vf_upd t_brothOn s1_138.toNatClampNeg r7) t_dramsOn_138 0
    else
      g_X12_reckons_b171 t_cause t_causeDetail p2 (vf_upd t_brothOn s1_138.toNatClampNeg r7) t_dramsOn_138
  else
    g_X12_reckons_b171 t_cause t_causeDetail p2 (vf_upd t_brothOn s1_138.toNatClampNeg r7) t_dramsOn_138
def g_X12_reckons_b97 (t_cause : Int32) (t_causeDetail : Int32) (t_isBrothOn : Nat → Int32) (t_dramsOn : Nat → Int64) (t_brothOn : Nat → UInt32) (p1 : Int32) (p2 : Int32) (x7_97 : UInt32) (x8_97 : UInt32) (s1_97 : Int32) (s2_97 : Int64) : Option (Int32 × Int32 × Int32 × (Nat → Int64) × (Nat → UInt32)) :=
  gc (inb s1_97 6) <|
  if p1 = 43 then
    gc (n32 (FP.fadd x7_97 x8_97)) <|
    g_X12_reckons_b138 t_cause t_causeDetail t_isBrothOn t_brothOn p2 (vp_updL t_dramsOn s1_97.toNatClampNeg s2_97) (p2 - 1) (FP.fadd x7_97 x8_97)
  else
    if p1 = 45 then
      gc (n32 (FP.fsub x7_97 x8_97)) <|
      g_X12_reckons_b138 t_cause t_causeDetail t_isBrothOn t_brothOn p2 (vp_updL t_dramsOn s1_97.toNatClampNeg s2_97) (p2 - 1) (FP.fsub x7_97 x8_97)
    else
      gc (n32 (FP.fmul x7_97 x8_97)) <|
      g_X12_reckons_b138 t_cause t_causeDetail t_isBrothOn t_brothOn p2 (vp_updL t_dramsOn s1_97.toNatClampNeg s2_97) (p2 - 1) (FP.fmul x7_97 x8_97)
def g_X12_reckons (t_cause : Int32) (t_causeDetail : Int32) (t_isBrothOn : Nat → Int32) (t_dramsOn : Nat → Int64) (t_brothOn : Nat → UInt32) (p1 : Int32) (p2 : Int32) : Option (Int32 × Int32 × Int32 × (Nat → Int64) × (Nat → UInt32)) :=
  gc (inb p2 6) <|
  gc (inb (p2 - 1) 6) <|
  if (t_isBrothOn p2.toNatClampNeg) = (t_isBrothOn (p2 - 1).toNatClampNeg) then
    gc (inb (p2 - 1) 6) <|
    gl (t_dramsOn (p2 - 1).toNatClampNeg) fun v1 =>
    gc (inb p2 6) <|
    gl (t_dramsOn p2.toNatClampNeg) fun v2 =>
    gc (inb (p2 - 1) 6) <|
    gl (t_brothOn (p2 - 1).toNatClampNeg) fun v3 =>
    gc (inb p2 6) <|
    gl (t_brothOn p2.toNatClampNeg) fun v4 =>
    if p1 = 43 then
      g_X12_reckons_b97 t_cause t_causeDetail t_isBrothOn t_dramsOn t_brothOn p1 p2 v3 v4 (p2 - 1) (v1 + v2)
    else
      if p1 = 45 then
        g_X12_reckons_b97 t_cause t_causeDetail t_isBrothOn t_dramsOn t_brothOn p1 p2 v3 v4 (p2 - 1) (v1 - v2)
      else
        g_X12_reckons_b97 t_cause t_causeDetail t_isBrothOn t_dramsOn t_brothOn p1 p2 v3 v4 (p2 - 1) (v1 * v2)
  else
    gb (g_X12_boilsBy t_cause t_causeDetail (7 : Int32) (-1 : Int32)) fun r5 =>
    gc (bo r5.1) <|
    some (r5.1, r5.2.1, r5.2.2, t_dramsOn, t_brothOn)
def g_X12_cut (p1 : UInt32) : Option (Int32) :=
  gl (if ((-99) : Int32) < (if (FP.f2i p1) < (99 : Int32) then (FP.f2i p1) else (99 : Int32)) then (if (FP.f2i p1) < (99 : Int32) then (FP.f2i p1) else (99 : Int32)) else ((-99) : Int32)) fun v1 =>
  some (v1)
def g_X12_casts_b86 (t_cause : Int32) (t_causeDetail : Int32) (t_isBrothOn : Nat → Int32) (p2 : Int32) (t_brothOn_86 : Nat → UInt32) (t_dramsOn_86 : Nat → Int64) (s2_86 : Int32) : Option (Int32 × Int32 × Int32 × (Nat → Int32) × (Nat → UInt32) × (Nat → Int64)) :=
  gc (inb p2 6) <|
  some (0, t_cause, t_causeDetail, (upd t_isBrothOn p2.toNatClampNeg (vp_nar .boolean s2_86)), t_brothOn_86, t_dramsOn_86)
def g_X12_casts_b70 (t_cause : Int32) (t_causeDetail : Int32) (t_isBrothOn : Nat → Int32) (p1 : Int32) (p2 : Int32) (t_brothOn_70 : Nat → UInt32) (t_dramsOn_70 : Nat → Int64) : Option (Int32 × Int32 × Int32 × (Nat → Int32) × (Nat → UInt32) × (Nat → Int64)) :=
  if p1 = 126 then
    g_X12_casts_b86 t_cause t_causeDetail t_isBrothOn p2 t_brothOn_70 t_dramsOn_70 1
  else
    g_X12_casts_b86 t_cause t_causeDetail t_isBrothOn p2 t_brothOn_70 t_dramsOn_70 0
def g_X12_casts_b17 (t_cause : Int32) (t_causeDetail : Int32) (t_isBrothOn : Nat → Int32) (t_brothOn : Nat → UInt32) (t_dramsOn : Nat → Int64) (p1 : Int32) (p2 : Int32) (s0_17 : Int32) (s1_17 : Int32) : Option (Int32 × Int32 × Int32 × (Nat → Int32) × (Nat → UInt32) × (Nat → Int64)) :=
  if s0_17 = s1_17 then
    if p1 = 33 then
      gc (inb p2 6) <|
      gb (g_X12_cut (t_brothOn p2.toNatClampNeg)) fun r2 =>
      gc (inb p2 6) <|
      g_X12_casts_b70 t_cause t_causeDetail t_isBrothOn p1 p2 t_brothOn (vp_updL t_dramsOn p2.toNatClampNeg r2.toInt64)
    else
      gc (inb p2 6) <|
      gb (g_X12_held (FP.i2f ((t_dramsOn p2.toNatClampNeg).toInt32))) fun r1 =>
      gc (inb p2 6) <|
      g_X12_casts_b70 t_cause t_causeDetail t_isBrothOn p1 p2 (vf_upd t_brothOn p2.toNatClampNeg r1) t_dramsOn
  else
    gb (g_X12_boilsBy t_cause t_causeDetail (7 : Int32) (-1 : Int32)) fun r3 =>
    gc (bo r3.1) <|
    some (r3.1, r3.2.1, r3.2.2, t_isBrothOn, t_brothOn, t_dramsOn)
def g_X12_casts (t_cause : Int32) (t_causeDetail : Int32) (t_isBrothOn : Nat → Int32) (t_brothOn : Nat → UInt32) (t_dramsOn : Nat → Int64) (p1 : Int32) (p2 : Int32) : Option (Int32 × Int32 × Int32 × (Nat → Int32) × (Nat → UInt32) × (Nat → Int64)) :=
  gc (inb p2 6) <|
  if p1 = 33 then
    g_X12_casts_b17 t_cause t_causeDetail t_isBrothOn t_brothOn t_dramsOn p1 p2 (t_isBrothOn p2.toNatClampNeg) 1
  else
    g_X12_casts_b17 t_cause t_causeDetail t_isBrothOn t_brothOn t_dramsOn p1 p2 (t_isBrothOn p2.toNatClampNeg) 0
def g_X12_stores_b108 (t_cause : Int32) (t_causeDetail : Int32) (t_f : Nat → UInt32) (p1 : Int32) (t_s_108 : Nat → Int32) (s2_108 : UInt32) : Option (Int32 × Int32 × Int32 × (Nat → Int32) × (Nat → UInt32)) :=
  gc (inb p1 6) <|
  gb (g_X12_of t_s_108 p1 (4 : Int32)) fun r5 =>
  gb (g_X12_sets t_s_108 p1 (4 : Int32) (r5 + 1)) fun r6 =>
  gc (inb (3 : Int32) 282) <|
  gc (inb (3 : Int32) 282) <|
  some (0, t_cause, t_causeDetail, (upd r6 (3 : Int32).toNatClampNeg ((r6 (3 : Int32).toNatClampNeg) + 1)), (vf_upd t_f p1.toNatClampNeg s2_108))
def g_X12_stores_b81 (t_cause : Int32) (t_causeDetail : Int32) (t_isBrothOn : Nat → Int32) (t_s : Nat → Int32) (t_f : Nat → UInt32) (t_brothOn : Nat → UInt32) (p1 : Int32) (p2 : Int32) (s3_81 : Int32) : Option (Int32 × Int32 × Int32 × (Nat → Int32) × (Nat → UInt32)) :=
  gb (g_X12_sets t_s p1 (3 : Int32) s3_81) fun r7 =>
  gc (inb p2 6) <|
  if (t_isBrothOn p2.toNatClampNeg) = 0 then
    g_X12_stores_b108 t_cause t_causeDetail t_f p1 r7 FP.fconst0
  else
    gc (inb p2 6) <|
    g_X12_stores_b108 t_cause t_causeDetail t_f p1 r7 (t_brothOn p2.toNatClampNeg)
def g_X12_stores_b58 (t_cause : Int32) (t_causeDetail : Int32) (t_isBrothOn : Nat → Int32) (t_s : Nat → Int32) (t_dramsOn : Nat → Int64) (t_f : Nat → UInt32) (t_brothOn : Nat → UInt32) (p1 : Int32) (p2 : Int32) : Option (Int32 × Int32 × Int32 × (Nat → Int32) × (Nat → UInt32)) :=
  gc (inb p2 6) <|
  if (t_isBrothOn p2.toNatClampNeg) = 0 then
    gc (inb p2 6) <|
    g_X12_stores_b81 t_cause t_causeDetail t_isBrothOn t_s t_f t_brothOn p1 p2 ((t_dramsOn p2.toNatClampNeg).toInt32)
  else
    g_X12_stores_b81 t_cause t_causeDetail t_isBrothOn t_s t_f t_brothOn p1 p2 0
def g_X12_stores (t_cause : Int32) (t_causeDetail : Int32) (t_isBrothOn : Nat → Int32) (t_s : Nat → Int32) (t_dramsOn : Nat → Int64) (t_f : Nat → UInt32) (t_brothOn : Nat → UInt32) (p1 : Int32) (p2 : Int32) : Option (Int32 × Int32 × Int32 × (Nat → Int32) × (Nat → UInt32)) :=
  gc (inb p2 6) <|
  gb (g_X12_isBroth t_s p1) fun r1 =>
  if (t_isBrothOn p2.toNatClampNeg) = r1 then
    gc (inb p2 6) <|
    if (t_isBrothOn p2.toNatClampNeg) = 0 then
      gc (inb p2 6) <|
      gb (g_X12_holds t_s p1 (t_dramsOn p2.toNatClampNeg)) fun r2 =>
      if r2 = 0 then
        gc (inb p2 6) <|
        gb (g_X12_boilsBy t_cause t_causeDetail (3 : Int32) ((t_dramsOn p2.toNatClampNeg).toInt32)) fun r3 =>
        gc (bo r3.1) <|
        some (r3.1, r3.2.1, r3.2.2, t_s, t_f)
      else
        g_X12_stores_b58 t_cause t_causeDetail t_isBrothOn t_s t_dramsOn t_f t_brothOn p1 p2
    else
      g_X12_stores_b58 t_cause t_causeDetail t_isBrothOn t_s t_dramsOn t_f t_brothOn p1 p2
  else
    gb (g_X12_boilsBy t_cause t_causeDetail (7 : Int32) p1) fun r4 =>
    gc (bo r4.1) <|
    some (r4.1, r4.2.1, r4.2.2, t_s, t_f)
def g_X12_does_b154 (t_cause : Int32) (t_causeDetail : Int32) (t_signs : Nat → Int32) (t_isBrothOn : Nat → Int32) (t_s : Nat → Int32) (t_dramsOn : Nat → Int64) (t_f : Nat → UInt32) (t_brothOn : Nat → UInt32) (p1 : Int32) (p2 : Int32) : Option (Int32 × Int32 × Int32 × (Nat → Int32) × (Nat → Int32) × (Nat → Int64) × (Nat → UInt32) × (Nat → UInt32)) :=
  gc (inb p1 60) <|
  gb (g_X12_casts t_cause t_causeDetail t_isBrothOn t_brothOn t_dramsOn (t_signs p1.toNatClampNeg) (p2 - 1)) fun r5 =>
  gc (bo r5.1) <|
  some (r5.1, r5.2.1, r5.2.2.1, r5.2.2.2.1, t_s, r5.2.2.2.2.2, t_f, r5.2.2.2.2.1)
def g_X12_does_b98 (t_cause : Int32) (t_causeDetail : Int32) (t_s : Nat → Int32) (t_f : Nat → UInt32) (t_brothOn : Nat → UInt32) (p2 : Int32) (t_dramsOn_98 : Nat → Int64) (t_isBrothOn_98 : Nat → Int32) (s2_98 : UInt32) : Option (Int32 × Int32 × Int32 × (Nat → Int32) × (Nat → Int32) × (Nat → Int64) × (Nat → UInt32) × (Nat → UInt32)) :=
  gc (inb p2 6) <|
  some (0, t_cause, t_causeDetail, t_isBrothOn_98, t_s, t_dramsOn_98, t_f, (vf_upd t_brothOn p2.toNatClampNeg s2_98))
def g_X12_does_b77 (t_cause : Int32) (t_causeDetail : Int32) (t_s : Nat → Int32) (t_dramsOn : Nat → Int64) (t_f : Nat → UInt32) (t_brothOn : Nat → UInt32) (p2 : Int32) (t_isBrothOn_77 : Nat → Int32) (x3_77 : Int32) (x4_77 : Int32) (s2_77 : Int64) : Option (Int32 × Int32 × Int32 × (Nat → Int32) × (Nat → Int32) × (Nat → Int64) × (Nat → UInt32) × (Nat → UInt32)) :=
  gc (inb p2 6) <|
  if x3_77 = 0 then
    g_X12_does_b98 t_cause t_causeDetail t_s t_f t_brothOn p2 (vp_updL t_dramsOn p2.toNatClampNeg s2_77) t_isBrothOn_77 FP.fconst0
  else
    gc (inb x4_77 6) <|
    g_X12_does_b98 t_cause t_causeDetail t_s t_f t_brothOn p2 (vp_updL t_dramsOn p2.toNatClampNeg s2_77) t_isBrothOn_77 (t_f x4_77.toNatClampNeg)
def g_X12_does_b53 (t_cause : Int32) (t_causeDetail : Int32) (t_isBrothOn : Nat → Int32) (t_s : Nat → Int32) (t_dramsOn : Nat → Int64) (t_f : Nat → UInt32) (t_brothOn : Nat → UInt32) (p2 : Int32) (x3_53 : Int32) (x4_53 : Int32) (s2_53 : Int32) : Option (Int32 × Int32 × Int32 × (Nat → Int32) × (Nat → Int32) × (Nat → Int64) × (Nat → UInt32) × (Nat → UInt32)) :=
  gc (inb p2 6) <|
  if x3_53 = 0 then
    g_X12_does_b77 t_cause t_causeDetail t_s t_dramsOn t_f t_brothOn p2 (upd t_isBrothOn p2.toNatClampNeg (vp_nar .boolean s2_53)) x3_53 x4_53 x4_53.toInt64
  else
    gb (g_X12_of t_s x4_53 (3 : Int32)) fun r6 =>
    g_X12_does_b77 t_cause t_causeDetail t_s t_dramsOn t_f t_brothOn p2 (upd t_isBrothOn p2.toNatClampNeg (vp_nar .boolean s2_53)) x3_53 x4_53 r6.toInt64
def g_X12_does_b52 (t_cause : Int32) (t_causeDetail : Int32) (t_isBrothOn : Nat → Int32) (t_s : Nat → Int32) (t_dramsOn : Nat → Int64) (t_f : Nat → UInt32) (t_brothOn : Nat → UInt32) (p2 : Int32) (x3_52 : Int32) (x4_52 : Int32) : Option (Int32 × Int32 × Int32 × (Nat → Int32) × (Nat → Int32) × (Nat → Int64) × (Nat → UInt32) × (Nat → UInt32)) :=
  g_X12_does_b53 t_cause t_causeDetail t_isBrothOn t_s t_dramsOn t_f t_brothOn p2 x3_52 x4_52 0
def g_X12_does_b16 (t_cause : Int32) (t_causeDetail : Int32) (t_signs : Nat → Int32) (t_numbers : Nat → Int32) (t_isBrothOn : Nat → Int32) (t_s : Nat → Int32) (t_dramsOn : Nat → Int64) (t_f : Nat → UInt32) (t_brothOn : Nat → UInt32) (p1 : Int32) (p2 : Int32) : Option (Int32 × Int32 × Int32 × (Nat → Int32) × (Nat → Int32) × (Nat → Int64) × (Nat → UInt32) × (Nat → UInt32)) :=
  gb (g_X12_isLetter t_signs p1) fun r7 =>
  gc (inb p1 60) <|
  gl (t_numbers p1.toNatClampNeg) fun v8 =>
  if r7 = 0 then
    g_X12_does_b52 t_cause t_causeDetail t_isBrothOn t_s t_dramsOn t_f t_brothOn p2 r7 v8
  else
    gb (g_X12_isBroth t_s v8) fun r9 =>
    if r9 = 0 then
      g_X12_does_b52 t_cause t_causeDetail t_isBrothOn t_s t_dramsOn t_f t_brothOn p2 r7 v8
    else
      g_X12_does_b53 t_cause t_causeDetail t_isBrothOn t_s t_dramsOn t_f t_brothOn p2 r7 v8 1
def g_X12_does (t_cause : Int32) (t_causeDetail : Int32) (t_signs : Nat → Int32) (t_numbers : Nat → Int32) (t_isBrothOn : Nat → Int32) (t_s : Nat → Int32) (t_dramsOn : Nat → Int64) (t_f : Nat → UInt32) (t_brothOn : Nat → UInt32) (p1 : Int32) (p2 : Int32) : Option (Int32 × Int32 × Int32 × (Nat → Int32) × (Nat → Int32) × (Nat → Int64) × (Nat → UInt32) × (Nat → UInt32)) :=
  gb (g_X12_isLetter t_signs p1) fun r1 =>
  if r1 = 0 then
    gb (g_X12_isNumber t_signs p1) fun r2 =>
    if r2 = 0 then
      gc (inb p1 60) <|
      if (t_signs p1.toNatClampNeg) = 33 then
        g_X12_does_b154 t_cause t_causeDetail t_signs t_isBrothOn t_s t_dramsOn t_f t_brothOn p1 p2
      else
        if (t_signs p1.toNatClampNeg) = 61 then
          gc (inb p1 60) <|
          gb (g_X12_stores t_cause t_causeDetail t_isBrothOn t_s t_dramsOn t_f t_brothOn (t_numbers p1.toNatClampNeg) (p2 - 1)) fun r3 =>
          gc (bo r3.1) <|
          some (r3.1, r3.2.1, r3.2.2.1, t_isBrothOn, r3.2.2.2.1, t_dramsOn, r3.2.2.2.2, t_brothOn)
        else
          if (t_signs p1.toNatClampNeg) = 126 then
            g_X12_does_b154 t_cause t_causeDetail t_signs t_isBrothOn t_s t_dramsOn t_f t_brothOn p1 p2
          else
            gc (inb p1 60) <|
            gb (g_X12_reckons t_cause t_causeDetail t_isBrothOn t_dramsOn t_brothOn (t_signs p1.toNatClampNeg) (p2 - 1)) fun r4 =>
            gc (bo r4.1) <|
            some (r4.1, r4.2.1, r4.2.2.1, t_isBrothOn, t_s, r4.2.2.2.1, t_f, r4.2.2.2.2)
    else
      g_X12_does_b16 t_cause t_causeDetail t_signs t_numbers t_isBrothOn t_s t_dramsOn t_f t_brothOn p1 p2
  else
    g_X12_does_b16 t_cause t_causeDetail t_signs t_numbers t_isBrothOn t_s t_dramsOn t_f t_brothOn p1 p2
def g_X12_cooks_b9 (p1 : Int32) : Nat → (Nat → UInt32) → (Nat → Int64) → (Nat → UInt32) → (Nat → Int32) → (Nat → Int32) → (Nat → Int32) → (Nat → Int32) → Int32 → Int32 → Int32 → Int32 → Int32 → Int32 → Int32 → Option (Int32 × Int32 × Int32 × Int32 × Int32 × Int32 × (Nat → Int32) × (Nat → Int32) × (Nat → Int32) × (Nat → Int32) × (Nat → Int64) × (Nat → UInt32) × (Nat → UInt32))
  | 0, _, _, _, _, _, _, _, _, _, _, _, _, _, _ => none
  | n + 1, t_brothOn_9, t_dramsOn_9, t_f_9, t_isBrothOn_9, t_numbers_9, t_s_9, t_signs_9, t_tokens_9, t_spoons_9, t_mostSpoons_9, t_cause_9, t_causeDetail_9, x2_9, x3_9 =>
    if t_tokens_9 ≤ x3_9 then
      gc (inb (34 + (62 * p1)) 282) <|
      gc (inb (34 + (62 * p1)) 282) <|
      gc (inb (2 : Int32) 282) <|
      gc (inb (2 : Int32) 282) <|
      some ((-1), t_tokens_9, t_spoons_9, t_mostSpoons_9, t_cause_9, t_causeDetail_9, (upd (upd t_s_9 (34 + (62 * p1)).toNatClampNeg ((t_s_9 (34 + (62 * p1)).toNatClampNeg) + 1)) (2 : Int32).toNatClampNeg (((upd t_s_9 (34 + (62 * p1)).toNatClampNeg ((t_s_9 (34 + (62 * p1)).toNatClampNeg) + 1)) (2 : Int32).toNatClampNeg) + 1)), t_numbers_9, t_signs_9, t_isBrothOn_9, t_dramsOn_9, t_f_9, t_brothOn_9)
    else
      gb (g_X12_does t_cause_9 t_causeDetail_9 t_signs_9 t_numbers_9 t_isBrothOn_9 t_s_9 t_dramsOn_9 t_f_9 t_brothOn_9 x3_9 x2_9) fun r2 =>
      if r2.1 = 0 then
        gb (g_X12_more t_signs_9 x3_9) fun r3 =>
        gl (x2_9 + r3) fun v4 =>
        gl (x3_9 + 1) fun v5 =>
        (g_X12_cooks_b9 p1 n) r2.2.2.2.2.2.2.2 r2.2.2.2.2.2.1 r2.2.2.2.2.2.2.1 r2.2.2.2.1 t_numbers_9 r2.2.2.2.2.1 t_signs_9 t_tokens_9 t_spoons_9 t_mostSpoons_9 r2.2.1 r2.2.2.1 v4 v5
      else
        some (x3_9, t_tokens_9, t_spoons_9, t_mostSpoons_9, r2.2.1, r2.2.2.1, r2.2.2.2.2.1, t_numbers_9, t_signs_9, r2.2.2.2.1, r2.2.2.2.2.2.1, r2.2.2.2.2.2.2.1, r2.2.2.2.2.2.2.2)
def g_X12_cooks (t_tokens : Int32) (t_spoons : Int32) (t_mostSpoons : Int32) (t_cause : Int32) (t_causeDetail : Int32) (t_s : Nat → Int32) (t_numbers : Nat → Int32) (t_signs : Nat → Int32) (t_isBrothOn : Nat → Int32) (t_dramsOn : Nat → Int64) (t_f : Nat → UInt32) (t_brothOn : Nat → UInt32) (p1 : Int32) : Option (Int32 × Int32 × Int32 × Int32 × Int32 × Int32 × (Nat → Int32) × (Nat → Int32) × (Nat → Int32) × (Nat → Int32) × (Nat → Int64) × (Nat → UInt32) × (Nat → UInt32)) :=
  gb (g_X12_tells t_tokens t_spoons t_mostSpoons t_s t_numbers t_signs p1) fun r1 =>
  g_X12_cooks_b9 p1 100 t_brothOn t_dramsOn t_f t_isBrothOn r1.2.2.2.1 t_s r1.2.2.2.2 r1.1 r1.2.1 r1.2.2.1 t_cause t_causeDetail 0 0
def g_X12_unlike_b74 (n_p1 : Nat) (n_p2 : Nat) (p1 : Nat → Int32) (p2 : Nat → UInt32) (t_s : Nat → Int32) (t_f : Nat → UInt32) (k5 : Int32 → Int32 → Option (Int32)) (x4_74 : Int32) (s0_74 : Int32) (s1_74 : Int32) : Option (Int32) :=
  gl (s0_74 + s1_74) fun v1 =>
  gl (x4_74 + 1) fun v2 =>
  k5 v1 v2
def g_X12_unlike_b69 (n_p1 : Nat) (n_p2 : Nat) (p1 : Nat → Int32) (p2 : Nat → UInt32) (t_s : Nat → Int32) (t_f : Nat → UInt32) (k5 : Int32 → Int32 → Option (Int32)) (x4_69 : Int32) (s0_69 : Int32) : Option (Int32) :=
  g_X12_unlike_b74 n_p1 n_p2 p1 p2 t_s t_f k5 x4_69 s0_69 1
def g_X12_unlike_b41 (n_p1 : Nat) (n_p2 : Nat) (p1 : Nat → Int32) (p2 : Nat → UInt32) (t_s : Nat → Int32) (t_f : Nat → UInt32) (k5 : Int32 → Int32 → Option (Int32)) (x3_41 : Int32) (x4_41 : Int32) (s0_41 : Int32) : Option (Int32) :=
  if s0_41 = 0 then
    gc (inb x4_41 6) <|
    gb (g_Jxf58ca_floatToIntBits_5c35a (t_f x4_41.toNatClampNeg)) fun r3 =>
    gc (inb x4_41 n_p2) <|
    gb (g_Jxf58ca_floatToIntBits_5c35a (p2 x4_41.toNatClampNeg)) fun r4 =>
    if r3 = r4 then
      g_X12_unlike_b74 n_p1 n_p2 p1 p2 t_s t_f k5 x4_41 x3_41 0
    else
      g_X12_unlike_b69 n_p1 n_p2 p1 p2 t_s t_f k5 x4_41 x3_41
  else
    g_X12_unlike_b69 n_p1 n_p2 p1 p2 t_s t_f k5 x4_41 x3_41
def g_X12_unlike_b5 (n_p1 : Nat) (n_p2 : Nat) (p1 : Nat → Int32) (p2 : Nat → UInt32) (t_s : Nat → Int32) (t_f : Nat → UInt32) : Nat → Int32 → Int32 → Option (Int32)
  | 0, _, _ => none
  | n + 1, x3_5, x4_5 =>
    gc (inb (0 : Int32) 282) <|
    if (t_s (0 : Int32).toNatClampNeg) ≤ x4_5 then
      some (x3_5)
    else
      gb (g_X12_of t_s x4_5 (3 : Int32)) fun r5 =>
      gc (inb ((4 + (5 * x4_5)) + 3) n_p1) <|
      if r5 = (p1 ((4 + (5 * x4_5)) + 3).toNatClampNeg) then
        g_X12_unlike_b41 n_p1 n_p2 p1 p2 t_s t_f (g_X12_unlike_b5 n_p1 n_p2 p1 p2 t_s t_f n) x3_5 x4_5 0
      else
        g_X12_unlike_b41 n_p1 n_p2 p1 p2 t_s t_f (g_X12_unlike_b5 n_p1 n_p2 p1 p2 t_s t_f n) x3_5 x4_5 1
def g_X12_unlike (n_p1 : Nat) (n_p2 : Nat) (p1 : Nat → Int32) (p2 : Nat → UInt32) (t_s : Nat → Int32) (t_f : Nat → UInt32) : Option (Int32) :=
  g_X12_unlike_b5 n_p1 n_p2 p1 p2 t_s t_f 100 0 0
def g_X12_doCook (t_boiled : Int32) (t_thrown : Int32) (t_tokens : Int32) (t_spoons : Int32) (t_mostSpoons : Int32) (t_cause : Int32) (t_causeDetail : Int32) (t_s : Nat → Int32) (t_numbers : Nat → Int32) (t_signs : Nat → Int32) (t_isBrothOn : Nat → Int32) (t_dramsOn : Nat → Int64) (t_f : Nat → UInt32) (t_brothOn : Nat → UInt32) (t_before : Nat → Int32) (t_beforeF : Nat → UInt32) (t_refused : Nat → Int32) (p1 : Int32) : Option (Int32 × Int32 × Int32 × Int32 × Int32 × Int32 × Int32 × Int32 × (Nat → Int32) × (Nat → Int32) × (Nat → Int32) × (Nat → Int32) × (Nat → Int64) × (Nat → UInt32) × (Nat → UInt32) × (Nat → Int32)) :=
  gb (g_X12_isSpell t_s p1) fun r1 =>
  if r1 = 0 then
    gb (g_X12_fails t_thrown (1 : Int32)) fun r6 =>
    some (r6.1, t_boiled, r6.2, t_tokens, t_spoons, t_mostSpoons, t_cause, t_causeDetail, t_s, t_numbers, t_signs, t_isBrothOn, t_dramsOn, t_f, t_brothOn, t_refused)
  else
    gb (g_X12_cooks t_tokens t_spoons t_mostSpoons t_cause t_causeDetail t_s t_numbers t_signs t_isBrothOn t_dramsOn t_f t_brothOn p1) fun r2 =>
    if r2.1 < 0 then
      gb (g_X12_unlike 282 6 t_before t_beforeF r2.2.2.2.2.2.2.1 r2.2.2.2.2.2.2.2.2.2.2.2.1) fun r3 =>
      some (r3, t_boiled, t_thrown, r2.2.1, r2.2.2.1, r2.2.2.2.1, r2.2.2.2.2.1, r2.2.2.2.2.2.1, r2.2.2.2.2.2.2.1, r2.2.2.2.2.2.2.2.1, r2.2.2.2.2.2.2.2.2.1, r2.2.2.2.2.2.2.2.2.2.1, r2.2.2.2.2.2.2.2.2.2.2.1, r2.2.2.2.2.2.2.2.2.2.2.2.1, r2.2.2.2.2.2.2.2.2.2.2.2.2, t_refused)
    else
      gl (t_boiled + 1) fun v4 =>
      gb (g_X12_refuseFor t_thrown t_refused (2 : Int32) (6 : Int32) r2.1 r2.2.2.2.2.1 r2.2.2.2.2.2.1) fun r5 =>
      some (r5.1, v4, r5.2.1, r2.2.1, r2.2.2.1, r2.2.2.2.1, r2.2.2.2.2.1, r2.2.2.2.2.2.1, r2.2.2.2.2.2.2.1, r2.2.2.2.2.2.2.2.1, r2.2.2.2.2.2.2.2.2.1, r2.2.2.2.2.2.2.2.2.2.1, r2.2.2.2.2.2.2.2.2.2.2.1, r2.2.2.2.2.2.2.2.2.2.2.2.1, r2.2.2.2.2.2.2.2.2.2.2.2.2, r5.2.2)
def g_X12_cook (t_pastMany : Int32) (t_boiled : Int32) (t_thrown : Int32) (t_tokens : Int32) (t_spoons : Int32) (t_mostSpoons : Int32) (t_cause : Int32) (t_causeDetail : Int32) (t_s : Nat → Int32) (t_before : Nat → Int32) (t_f : Nat → UInt32) (t_beforeF : Nat → UInt32) (t_numbers : Nat → Int32) (t_signs : Nat → Int32) (t_isBrothOn : Nat → Int32) (t_dramsOn : Nat → Int64) (t_brothOn : Nat → UInt32) (t_refused : Nat → Int32) (t_past : Nat → Int32) (t_pastF : Nat → UInt32) (p1 : Int32) : Option (Int32 × Int32 × Int32 × Int32 × Int32 × Int32 × Int32 × Int32 × Int32 × (Nat → Int32) × (Nat → Int32) × (Nat → UInt32) × (Nat → UInt32) × (Nat → Int32) × (Nat → Int32) × (Nat → Int32) × (Nat → Int64) × (Nat → UInt32) × (Nat → Int32) × (Nat → Int32) × (Nat → UInt32)) :=
  gb (g_X12_keep t_thrown t_s t_before t_f t_beforeF) fun r1 =>
  gb (g_X12_doCook t_boiled r1.1 t_tokens t_spoons t_mostSpoons t_cause t_causeDetail t_s t_numbers t_signs t_isBrothOn t_dramsOn t_f t_brothOn r1.2.1 r1.2.2 t_refused p1) fun r2 =>
  gb (g_X12_ends t_pastMany r2.2.2.1 t_past t_pastF r1.2.1 r2.2.2.2.2.2.2.2.2.1 r1.2.2 r2.2.2.2.2.2.2.2.2.2.2.2.2.2.1 r2.1) fun r3 =>
  some (r3.1, r3.2.1, r2.2.1, r2.2.2.1, r2.2.2.2.1, r2.2.2.2.2.1, r2.2.2.2.2.2.1, r2.2.2.2.2.2.2.1, r2.2.2.2.2.2.2.2.1, r3.2.2.2.2.1, r1.2.1, r3.2.2.2.2.2, r1.2.2, r2.2.2.2.2.2.2.2.2.2.1, r2.2.2.2.2.2.2.2.2.2.2.1, r2.2.2.2.2.2.2.2.2.2.2.2.1, r2.2.2.2.2.2.2.2.2.2.2.2.2.1, r2.2.2.2.2.2.2.2.2.2.2.2.2.2.2.1, r2.2.2.2.2.2.2.2.2.2.2.2.2.2.2.2, r3.2.2.1, r3.2.2.2.1)
def g_X12_doCookAll_b49 (t_thrown : Int32) (t_refused : Nat → Int32) (k25 : (Nat → UInt32) → (Nat → Int64) → (Nat → UInt32) → (Nat → Int64) → (Nat → Int64) → (Nat → Int32) → (Nat → Int32) → (Nat → Int64) → (Nat → Int64) → (Nat → Int32) → (Nat → Int32) → (Nat → Int32) → Int32 → Int32 → Int32 → Int32 → Int32 → Int32 → Int32 → Int32 → Option (Int32 × Int32 × Int32 × Int32 × Int32 × Int32 × Int32 × Int32 × (Nat → Int32) × (Nat → Int32) × (Nat → Int32) × (Nat → Int64) × (Nat → Int64) × (Nat → Int32) × (Nat → Int64) × (Nat → Int64) × (Nat → Int32) × (Nat → Int32) × (Nat → Int64) × (Nat → UInt32) × (Nat → UInt32))) (t_brothOn_49 : Nat → UInt32) (t_dramsOn_49 : Nat → Int64) (t_f_49 : Nat → UInt32) (t_highOn_49 : Nat → Int64) (t_highStored_49 : Nat → Int64) (t_isBrothOn_49 : Nat → Int32) (t_isBrothStored_49 : Nat → Int32) (t_lowOn_49 : Nat → Int64) (t_lowStored_49 : Nat → Int64) (t_numbers_49 : Nat → Int32) (t_s_49 : Nat → Int32) (t_signs_49 : Nat → Int32) (t_tokens_49 : Int32) (t_spoons_49 : Int32) (t_mostSpoons_49 : Int32) (t_cause_49 : Int32) (t_causeDetail_49 : Int32) (t_storeMany_49 : Int32) (x1_49 : Int32) (x2_49 : Int32) : Option (Int32 × Int32 × Int32 × Int32 × Int32 × Int32 × Int32 × Int32 × (Nat → Int32) × (Nat → Int32) × (Nat → Int32) × (Nat → Int64) × (Nat → Int64) × (Nat → Int32) × (Nat → Int64) × (Nat → Int64) × (Nat → Int32) × (Nat → Int32) × (Nat → Int64) × (Nat → UInt32) × (Nat → UInt32)) :=
  gl (x2_49 + 1) fun v3 =>
  k25 t_brothOn_49 t_dramsOn_49 t_f_49 t_highOn_49 t_highStored_49 t_isBrothOn_49 t_isBrothStored_49 t_lowOn_49 t_lowStored_49 t_numbers_49 t_s_49 t_signs_49 t_tokens_49 t_spoons_49 t_mostSpoons_49 t_cause_49 t_causeDetail_49 t_storeMany_49 x1_49 v3
def g_X12_doCookAll_b25 (t_thrown : Int32) (t_refused : Nat → Int32) : Nat → (Nat → UInt32) → (Nat → Int64) → (Nat → UInt32) → (Nat → Int64) → (Nat → Int64) → (Nat → Int32) → (Nat → Int32) → (Nat → Int64) → (Nat → Int64) → (Nat → Int32) → (Nat → Int32) → (Nat → Int32) → Int32 → Int32 → Int32 → Int32 → Int32 → Int32 → Int32 → Int32 → Option (Int32 × Int32 × Int32 × Int32 × Int32 × Int32 × Int32 × Int32 × (Nat → Int32) × (Nat → Int32) × (Nat → Int32) × (Nat → Int64) × (Nat → Int64) × (Nat → Int32) × (Nat → Int64) × (Nat → Int64) × (Nat → Int32) × (Nat → Int32) × (Nat → Int64) × (Nat → UInt32) × (Nat → UInt32))
  | 0, _, _, _, _, _, _, _, _, _, _, _, _, _, _, _, _, _, _, _, _ => none
  | n + 1, t_brothOn_25, t_dramsOn_25, t_f_25, t_highOn_25, t_highStored_25, t_isBrothOn_25, t_isBrothStored_25, t_lowOn_25, t_lowStored_25, t_numbers_25, t_s_25, t_signs_25, t_tokens_25, t_spoons_25, t_mostSpoons_25, t_cause_25, t_causeDetail_25, t_storeMany_25, x1_25, x2_25 =>
    gc (inb (1 : Int32) 282) <|
    if (t_s_25 (1 : Int32).toNatClampNeg) ≤ x2_25 then
      some (x1_25, t_thrown, t_tokens_25, t_spoons_25, t_mostSpoons_25, t_cause_25, t_causeDetail_25, t_storeMany_25, t_s_25, t_numbers_25, t_signs_25, t_lowOn_25, t_highOn_25, t_isBrothOn_25, t_lowStored_25, t_highStored_25, t_isBrothStored_25, t_refused, t_dramsOn_25, t_f_25, t_brothOn_25)
    else
      gb (g_X12_faultOf t_tokens_25 t_spoons_25 t_mostSpoons_25 t_storeMany_25 t_s_25 t_numbers_25 t_signs_25 t_lowOn_25 t_highOn_25 t_isBrothOn_25 t_lowStored_25 t_highStored_25 t_isBrothStored_25 x2_25) fun r4 =>
      if 0 ≤ r4.1 then
        g_X12_doCookAll_b49 t_thrown t_refused (g_X12_doCookAll_b25 t_thrown t_refused n) t_brothOn_25 t_dramsOn_25 t_f_25 r4.2.2.2.2.2.2.2.2.1 r4.2.2.2.2.2.2.2.2.2.2.2.1 r4.2.2.2.2.2.2.2.2.2.1 r4.2.2.2.2.2.2.2.2.2.2.2.2 r4.2.2.2.2.2.2.2.1 r4.2.2.2.2.2.2.2.2.2.2.1 r4.2.2.2.2.2.1 t_s_25 r4.2.2.2.2.2.2.1 r4.2.1 r4.2.2.1 r4.2.2.2.1 t_cause_25 t_causeDetail_25 r4.2.2.2.2.1 x1_25 x2_25
      else
        gb (g_X12_cooks r4.2.1 r4.2.2.1 r4.2.2.2.1 t_cause_25 t_causeDetail_25 t_s_25 r4.2.2.2.2.2.1 r4.2.2.2.2.2.2.1 r4.2.2.2.2.2.2.2.2.2.1 t_dramsOn_25 t_f_25 t_brothOn_25 x2_25) fun r5 =>
        g_X12_doCookAll_b49 t_thrown t_refused (g_X12_doCookAll_b25 t_thrown t_refused n) r5.2.2.2.2.2.2.2.2.2.2.2.2 r5.2.2.2.2.2.2.2.2.2.2.1 r5.2.2.2.2.2.2.2.2.2.2.2.1 r4.2.2.2.2.2.2.2.2.1 r4.2.2.2.2.2.2.2.2.2.2.2.1 r5.2.2.2.2.2.2.2.2.2.1 r4.2.2.2.2.2.2.2.2.2.2.2.2 r4.2.2.2.2.2.2.2.1 r4.2.2.2.2.2.2.2.2.2.2.1 r5.2.2.2.2.2.2.2.1 r5.2.2.2.2.2.2.1 r5.2.2.2.2.2.2.2.2.1 r5.2.1 r5.2.2.1 r5.2.2.2.1 r5.2.2.2.2.1 r5.2.2.2.2.2.1 r4.2.2.2.2.1 x1_25 x2_25
def g_X12_doCookAll (t_thrown : Int32) (t_tokens : Int32) (t_spoons : Int32) (t_mostSpoons : Int32) (t_cause : Int32) (t_causeDetail : Int32) (t_storeMany : Int32) (t_s : Nat → Int32) (t_numbers : Nat → Int32) (t_signs : Nat → Int32) (t_lowOn : Nat → Int64) (t_highOn : Nat → Int64) (t_isBrothOn : Nat → Int32) (t_lowStored : Nat → Int64) (t_highStored : Nat → Int64) (t_isBrothStored : Nat → Int32) (t_refused : Nat → Int32) (t_dramsOn : Nat → Int64) (t_f : Nat → UInt32) (t_brothOn : Nat → UInt32) : Option (Int32 × Int32 × Int32 × Int32 × Int32 × Int32 × Int32 × Int32 × (Nat → Int32) × (Nat → Int32) × (Nat → Int32) × (Nat → Int64) × (Nat → Int64) × (Nat → Int32) × (Nat → Int64) × (Nat → Int64) × (Nat → Int32) × (Nat → Int32) × (Nat → Int64) × (Nat → UInt32) × (Nat → UInt32)) :=
  gb (g_X12_typedMany t_tokens t_spoons t_mostSpoons t_storeMany t_s t_numbers t_signs t_lowOn t_highOn t_isBrothOn t_lowStored t_highStored t_isBrothStored) fun r1 =>
  if r1.1 = 0 then
    gc (inb (1 : Int32) 282) <|
    gb (g_X12_refuse t_thrown t_refused (1 : Int32) (9 : Int32) (t_s (1 : Int32).toNatClampNeg)) fun r2 =>
    some (r2.1, r2.2.1, r1.2.1, r1.2.2.1, r1.2.2.2.1, t_cause, t_causeDetail, r1.2.2.2.2.1, t_s, r1.2.2.2.2.2.1, r1.2.2.2.2.2.2.1, r1.2.2.2.2.2.2.2.1, r1.2.2.2.2.2.2.2.2.1, r1.2.2.2.2.2.2.2.2.2.1, r1.2.2.2.2.2.2.2.2.2.2.1, r1.2.2.2.2.2.2.2.2.2.2.2.1, r1.2.2.2.2.2.2.2.2.2.2.2.2, r2.2.2, t_dramsOn, t_f, t_brothOn)
  else
    g_X12_doCookAll_b25 t_thrown t_refused 100 t_brothOn t_dramsOn t_f r1.2.2.2.2.2.2.2.2.1 r1.2.2.2.2.2.2.2.2.2.2.2.1 r1.2.2.2.2.2.2.2.2.2.1 r1.2.2.2.2.2.2.2.2.2.2.2.2 r1.2.2.2.2.2.2.2.1 r1.2.2.2.2.2.2.2.2.2.2.1 r1.2.2.2.2.2.1 t_s r1.2.2.2.2.2.2.1 r1.2.1 r1.2.2.1 r1.2.2.2.1 t_cause t_causeDetail r1.2.2.2.2.1 r1.1 0
def g_X12_cookAll (t_pastMany : Int32) (t_thrown : Int32) (t_tokens : Int32) (t_spoons : Int32) (t_mostSpoons : Int32) (t_cause : Int32) (t_causeDetail : Int32) (t_storeMany : Int32) (t_s : Nat → Int32) (t_before : Nat → Int32) (t_f : Nat → UInt32) (t_beforeF : Nat → UInt32) (t_numbers : Nat → Int32) (t_signs : Nat → Int32) (t_lowOn : Nat → Int64) (t_highOn : Nat → Int64) (t_isBrothOn : Nat → Int32) (t_lowStored : Nat → Int64) (t_highStored : Nat → Int64) (t_isBrothStored : Nat → Int32) (t_refused : Nat → Int32) (t_dramsOn : Nat → Int64) (t_brothOn : Nat → UInt32) (t_past : Nat → Int32) (t_pastF : Nat → UInt32) : Option (Int32 × Int32 × Int32 × Int32 × Int32 × Int32 × Int32 × Int32 × Int32 × (Nat → Int32) × (Nat → Int32) × (Nat → UInt32) × (Nat → UInt32) × (Nat → Int32) × (Nat → Int32) × (Nat → Int64) × (Nat → Int64) × (Nat → Int32) × (Nat → Int64) × (Nat → Int64) × (Nat → Int32) × (Nat → Int32) × (Nat → Int64) × (Nat → UInt32) × (Nat → Int32) × (Nat → UInt32)) :=
  gb (g_X12_keep t_thrown t_s t_before t_f t_beforeF) fun r1 =>
  gb (g_X12_doCookAll r1.1 t_tokens t_spoons t_mostSpoons t_cause t_causeDetail t_storeMany t_s t_numbers t_signs t_lowOn t_highOn t_isBrothOn t_lowStored t_highStored t_isBrothStored t_refused t_dramsOn t_f t_brothOn) fun r2 =>
  gb (g_X12_ends t_pastMany r2.2.1 t_past t_pastF r1.2.1 r2.2.2.2.2.2.2.2.2.1 r1.2.2 r2.2.2.2.2.2.2.2.2.2.2.2.2.2.2.2.2.2.2.2.1 r2.1) fun r3 =>
  some (r3.1, r3.2.1, r2.2.1, r2.2.2.1, r2.2.2.2.1, r2.2.2.2.2.1, r2.2.2.2.2.2.1, r2.2.2.2.2.2.2.1, r2.2.2.2.2.2.2.2.1, r3.2.2.2.2.1, r1.2.1, r3.2.2.2.2.2, r1.2.2, r2.2.2.2.2.2.2.2.2.2.1, r2.2.2.2.2.2.2.2.2.2.2.1, r2.2.2.2.2.2.2.2.2.2.2.2.1, r2.2.2.2.2.2.2.2.2.2.2.2.2.1, r2.2.2.2.2.2.2.2.2.2.2.2.2.2.1, r2.2.2.2.2.2.2.2.2.2.2.2.2.2.2.1, r2.2.2.2.2.2.2.2.2.2.2.2.2.2.2.2.1, r2.2.2.2.2.2.2.2.2.2.2.2.2.2.2.2.2.1, r2.2.2.2.2.2.2.2.2.2.2.2.2.2.2.2.2.2.1, r2.2.2.2.2.2.2.2.2.2.2.2.2.2.2.2.2.2.2.1, r2.2.2.2.2.2.2.2.2.2.2.2.2.2.2.2.2.2.2.2.2, r3.2.2.1, r3.2.2.2.1)
def g_X12_types_b14 (t_tokens : Int32) (t_spoons : Int32) (t_mostSpoons : Int32) (t_storeMany : Int32) (t_s : Nat → Int32) (t_numbers : Nat → Int32) (t_signs : Nat → Int32) (t_lowOn : Nat → Int64) (t_highOn : Nat → Int64) (t_isBrothOn : Nat → Int32) (t_lowStored : Nat → Int64) (t_highStored : Nat → Int64) (t_isBrothStored : Nat → Int32) (p1 : Int32) (s1_14 : Int32) : Option (Int32 × Int32 × Int32 × Int32 × Int32 × Int32 × (Nat → Int32) × (Nat → Int32) × (Nat → Int64) × (Nat → Int64) × (Nat → Int32) × (Nat → Int64) × (Nat → Int64) × (Nat → Int32)) :=
  if s1_14 = 0 then
    gb (g_X12_faultOf t_tokens t_spoons t_mostSpoons t_storeMany t_s t_numbers t_signs t_lowOn t_highOn t_isBrothOn t_lowStored t_highStored t_isBrothStored p1) fun r2 =>
    if 0 ≤ r2.1 then
      some (0, s1_14, r2.2.1, r2.2.2.1, r2.2.2.2.1, r2.2.2.2.2.1, r2.2.2.2.2.2.1, r2.2.2.2.2.2.2.1, r2.2.2.2.2.2.2.2.1, r2.2.2.2.2.2.2.2.2.1, r2.2.2.2.2.2.2.2.2.2.1, r2.2.2.2.2.2.2.2.2.2.2.1, r2.2.2.2.2.2.2.2.2.2.2.2.1, r2.2.2.2.2.2.2.2.2.2.2.2.2)
    else
      some (1, s1_14, r2.2.1, r2.2.2.1, r2.2.2.2.1, r2.2.2.2.2.1, r2.2.2.2.2.2.1, r2.2.2.2.2.2.2.1, r2.2.2.2.2.2.2.2.1, r2.2.2.2.2.2.2.2.2.1, r2.2.2.2.2.2.2.2.2.2.1, r2.2.2.2.2.2.2.2.2.2.2.1, r2.2.2.2.2.2.2.2.2.2.2.2.1, r2.2.2.2.2.2.2.2.2.2.2.2.2)
  else
    some (0, s1_14, t_tokens, t_spoons, t_mostSpoons, t_storeMany, t_numbers, t_signs, t_lowOn, t_highOn, t_isBrothOn, t_lowStored, t_highStored, t_isBrothStored)
def g_X12_types (t_thrown : Int32) (t_tokens : Int32) (t_spoons : Int32) (t_mostSpoons : Int32) (t_storeMany : Int32) (t_s : Nat → Int32) (t_numbers : Nat → Int32) (t_signs : Nat → Int32) (t_lowOn : Nat → Int64) (t_highOn : Nat → Int64) (t_isBrothOn : Nat → Int32) (t_lowStored : Nat → Int64) (t_highStored : Nat → Int64) (t_isBrothStored : Nat → Int32) (p1 : Int32) : Option (Int32 × Int32 × Int32 × Int32 × Int32 × Int32 × (Nat → Int32) × (Nat → Int32) × (Nat → Int64) × (Nat → Int64) × (Nat → Int32) × (Nat → Int64) × (Nat → Int64) × (Nat → Int32)) :=
  gb (g_X12_isSpell t_s p1) fun r1 =>
  if r1 = 0 then
    g_X12_types_b14 t_tokens t_spoons t_mostSpoons t_storeMany t_s t_numbers t_signs t_lowOn t_highOn t_isBrothOn t_lowStored t_highStored t_isBrothStored p1 1
  else
    g_X12_types_b14 t_tokens t_spoons t_mostSpoons t_storeMany t_s t_numbers t_signs t_lowOn t_highOn t_isBrothOn t_lowStored t_highStored t_isBrothStored p1 0
def g_X12_typesAgain (t_thrown : Int32) (t_tokens : Int32) (t_spoons : Int32) (t_mostSpoons : Int32) (t_storeMany : Int32) (t_s : Nat → Int32) (t_numbers : Nat → Int32) (t_signs : Nat → Int32) (t_lowOn : Nat → Int64) (t_highOn : Nat → Int64) (t_isBrothOn : Nat → Int32) (t_lowStored : Nat → Int64) (t_highStored : Nat → Int64) (t_isBrothStored : Nat → Int32) (p1 : Int32) : Option (Int32 × Int32 × Int32 × Int32 × Int32 × Int32 × (Nat → Int32) × (Nat → Int32) × (Nat → Int64) × (Nat → Int64) × (Nat → Int32) × (Nat → Int64) × (Nat → Int64) × (Nat → Int32)) :=
  gb (g_X12_types t_thrown t_tokens t_spoons t_mostSpoons t_storeMany t_s t_numbers t_signs t_lowOn t_highOn t_isBrothOn t_lowStored t_highStored t_isBrothStored p1) fun r1 =>
  gc (bo r1.1) <|
  some (r1.1, r1.2.1, r1.2.2.1, r1.2.2.2.1, r1.2.2.2.2.1, r1.2.2.2.2.2.1, r1.2.2.2.2.2.2.1, r1.2.2.2.2.2.2.2.1, r1.2.2.2.2.2.2.2.2.1, r1.2.2.2.2.2.2.2.2.2.1, r1.2.2.2.2.2.2.2.2.2.2.1, r1.2.2.2.2.2.2.2.2.2.2.2.1, r1.2.2.2.2.2.2.2.2.2.2.2.2.1, r1.2.2.2.2.2.2.2.2.2.2.2.2.2)
def g_X12_fault_b30 (t_highOn_30 : Nat → Int64) (t_highStored_30 : Nat → Int64) (t_isBrothOn_30 : Nat → Int32) (t_isBrothStored_30 : Nat → Int32) (t_lowOn_30 : Nat → Int64) (t_lowStored_30 : Nat → Int64) (t_numbers_30 : Nat → Int32) (t_signs_30 : Nat → Int32) (t_tokens_30 : Int32) (t_spoons_30 : Int32) (t_mostSpoons_30 : Int32) (t_storeMany_30 : Int32) (x2_30 : Int32) (s1_30 : Int32) : Option (Int32 × Int32 × Int32 × Int32 × Int32 × Int32 × (Nat → Int32) × (Nat → Int32) × (Nat → Int64) × (Nat → Int64) × (Nat → Int32) × (Nat → Int64) × (Nat → Int64) × (Nat → Int32)) :=
  if s1_30 ≤ 0 then
    some (x2_30, s1_30, t_tokens_30, t_spoons_30, t_mostSpoons_30, t_storeMany_30, t_numbers_30, t_signs_30, t_lowOn_30, t_highOn_30, t_isBrothOn_30, t_lowStored_30, t_highStored_30, t_isBrothStored_30)
  else
    some (0, s1_30, t_tokens_30, t_spoons_30, t_mostSpoons_30, t_storeMany_30, t_numbers_30, t_signs_30, t_lowOn_30, t_highOn_30, t_isBrothOn_30, t_lowStored_30, t_highStored_30, t_isBrothStored_30)
def g_X12_fault (t_thrown : Int32) (t_tokens : Int32) (t_spoons : Int32) (t_mostSpoons : Int32) (t_storeMany : Int32) (t_s : Nat → Int32) (t_numbers : Nat → Int32) (t_signs : Nat → Int32) (t_lowOn : Nat → Int64) (t_highOn : Nat → Int64) (t_isBrothOn : Nat → Int32) (t_lowStored : Nat → Int64) (t_highStored : Nat → Int64) (t_isBrothStored : Nat → Int32) (p1 : Int32) : Option (Int32 × Int32 × Int32 × Int32 × Int32 × Int32 × (Nat → Int32) × (Nat → Int32) × (Nat → Int64) × (Nat → Int64) × (Nat → Int32) × (Nat → Int64) × (Nat → Int64) × (Nat → Int32)) :=
  gb (g_X12_isSpell t_s p1) fun r1 =>
  if r1 = 0 then
    gb (g_X12_fails t_thrown (1 : Int32)) fun r3 =>
    some (r3.1, r3.2, t_tokens, t_spoons, t_mostSpoons, t_storeMany, t_numbers, t_signs, t_lowOn, t_highOn, t_isBrothOn, t_lowStored, t_highStored, t_isBrothStored)
  else
    gb (g_X12_faultOf t_tokens t_spoons t_mostSpoons t_storeMany t_s t_numbers t_signs t_lowOn t_highOn t_isBrothOn t_lowStored t_highStored t_isBrothStored p1) fun r2 =>
    if 0 ≤ r2.1 then
      g_X12_fault_b30 r2.2.2.2.2.2.2.2.2.1 r2.2.2.2.2.2.2.2.2.2.2.2.1 r2.2.2.2.2.2.2.2.2.2.1 r2.2.2.2.2.2.2.2.2.2.2.2.2 r2.2.2.2.2.2.2.2.1 r2.2.2.2.2.2.2.2.2.2.2.1 r2.2.2.2.2.2.1 r2.2.2.2.2.2.2.1 r2.2.1 r2.2.2.1 r2.2.2.2.1 r2.2.2.2.2.1 r2.1 0
    else
      g_X12_fault_b30 r2.2.2.2.2.2.2.2.2.1 r2.2.2.2.2.2.2.2.2.2.2.2.1 r2.2.2.2.2.2.2.2.2.2.1 r2.2.2.2.2.2.2.2.2.2.2.2.2 r2.2.2.2.2.2.2.2.1 r2.2.2.2.2.2.2.2.2.2.2.1 r2.2.2.2.2.2.1 r2.2.2.2.2.2.2.1 r2.2.1 r2.2.2.1 r2.2.2.2.1 r2.2.2.2.2.1 r2.1 2
def g_X12_bound_b65 (p2 : Int32) (p3 : Int32) (t_highOn_65 : Nat → Int64) (t_highStored_65 : Nat → Int64) (t_isBrothOn_65 : Nat → Int32) (t_isBrothStored_65 : Nat → Int32) (t_lowOn_65 : Nat → Int64) (t_lowStored_65 : Nat → Int64) (t_numbers_65 : Nat → Int32) (t_signs_65 : Nat → Int32) (t_tokens_65 : Int32) (t_spoons_65 : Int32) (t_mostSpoons_65 : Int32) (t_storeMany_65 : Int32) (s1_65 : Int32) : Option (Int32 × Int32 × Int32 × Int32 × Int32 × Int32 × (Nat → Int32) × (Nat → Int32) × (Nat → Int64) × (Nat → Int64) × (Nat → Int32) × (Nat → Int64) × (Nat → Int64) × (Nat → Int32)) :=
  if s1_65 ≤ 0 then
    if p3 = 0 then
      gc (inb p2 24) <|
      gl ((t_lowStored_65 p2.toNatClampNeg).toInt32) fun v5 =>
      some (v5, s1_65, t_tokens_65, t_spoons_65, t_mostSpoons_65, t_storeMany_65, t_numbers_65, t_signs_65, t_lowOn_65, t_highOn_65, t_isBrothOn_65, t_lowStored_65, t_highStored_65, t_isBrothStored_65)
    else
      gc (inb p2 24) <|
      gl ((t_highStored_65 p2.toNatClampNeg).toInt32) fun v6 =>
      some (v6, s1_65, t_tokens_65, t_spoons_65, t_mostSpoons_65, t_storeMany_65, t_numbers_65, t_signs_65, t_lowOn_65, t_highOn_65, t_isBrothOn_65, t_lowStored_65, t_highStored_65, t_isBrothStored_65)
  else
    some (0, s1_65, t_tokens_65, t_spoons_65, t_mostSpoons_65, t_storeMany_65, t_numbers_65, t_signs_65, t_lowOn_65, t_highOn_65, t_isBrothOn_65, t_lowStored_65, t_highStored_65, t_isBrothStored_65)
def g_X12_bound_b52 (p2 : Int32) (p3 : Int32) (t_highOn_52 : Nat → Int64) (t_highStored_52 : Nat → Int64) (t_isBrothOn_52 : Nat → Int32) (t_isBrothStored_52 : Nat → Int32) (t_lowOn_52 : Nat → Int64) (t_lowStored_52 : Nat → Int64) (t_numbers_52 : Nat → Int32) (t_signs_52 : Nat → Int32) (t_tokens_52 : Int32) (t_spoons_52 : Int32) (t_mostSpoons_52 : Int32) (t_storeMany_52 : Int32) (s0_52 : Int32) : Option (Int32 × Int32 × Int32 × Int32 × Int32 × Int32 × (Nat → Int32) × (Nat → Int32) × (Nat → Int64) × (Nat → Int64) × (Nat → Int32) × (Nat → Int64) × (Nat → Int64) × (Nat → Int32)) :=
  if s0_52 = 0 then
    g_X12_bound_b65 p2 p3 t_highOn_52 t_highStored_52 t_isBrothOn_52 t_isBrothStored_52 t_lowOn_52 t_lowStored_52 t_numbers_52 t_signs_52 t_tokens_52 t_spoons_52 t_mostSpoons_52 t_storeMany_52 2
  else
    g_X12_bound_b65 p2 p3 t_highOn_52 t_highStored_52 t_isBrothOn_52 t_isBrothStored_52 t_lowOn_52 t_lowStored_52 t_numbers_52 t_signs_52 t_tokens_52 t_spoons_52 t_mostSpoons_52 t_storeMany_52 0
def g_X12_bound_b51 (p2 : Int32) (p3 : Int32) (t_highOn_51 : Nat → Int64) (t_highStored_51 : Nat → Int64) (t_isBrothOn_51 : Nat → Int32) (t_isBrothStored_51 : Nat → Int32) (t_lowOn_51 : Nat → Int64) (t_lowStored_51 : Nat → Int64) (t_numbers_51 : Nat → Int32) (t_signs_51 : Nat → Int32) (t_tokens_51 : Int32) (t_spoons_51 : Int32) (t_mostSpoons_51 : Int32) (t_storeMany_51 : Int32) : Option (Int32 × Int32 × Int32 × Int32 × Int32 × Int32 × (Nat → Int32) × (Nat → Int32) × (Nat → Int64) × (Nat → Int64) × (Nat → Int32) × (Nat → Int64) × (Nat → Int64) × (Nat → Int32)) :=
  g_X12_bound_b52 p2 p3 t_highOn_51 t_highStored_51 t_isBrothOn_51 t_isBrothStored_51 t_lowOn_51 t_lowStored_51 t_numbers_51 t_signs_51 t_tokens_51 t_spoons_51 t_mostSpoons_51 t_storeMany_51 0
def g_X12_bound (t_thrown : Int32) (t_tokens : Int32) (t_spoons : Int32) (t_mostSpoons : Int32) (t_storeMany : Int32) (t_s : Nat → Int32) (t_numbers : Nat → Int32) (t_signs : Nat → Int32) (t_lowOn : Nat → Int64) (t_highOn : Nat → Int64) (t_isBrothOn : Nat → Int32) (t_lowStored : Nat → Int64) (t_highStored : Nat → Int64) (t_isBrothStored : Nat → Int32) (p1 : Int32) (p2 : Int32) (p3 : Int32) : Option (Int32 × Int32 × Int32 × Int32 × Int32 × Int32 × (Nat → Int32) × (Nat → Int32) × (Nat → Int64) × (Nat → Int64) × (Nat → Int32) × (Nat → Int64) × (Nat → Int64) × (Nat → Int32)) :=
  gb (g_X12_isSpell t_s p1) fun r1 =>
  if r1 = 0 then
    gb (g_X12_fails t_thrown (1 : Int32)) fun r4 =>
    some (r4.1, r4.2, t_tokens, t_spoons, t_mostSpoons, t_storeMany, t_numbers, t_signs, t_lowOn, t_highOn, t_isBrothOn, t_lowStored, t_highStored, t_isBrothStored)
  else
    gb (g_X12_faultOf t_tokens t_spoons t_mostSpoons t_storeMany t_s t_numbers t_signs t_lowOn t_highOn t_isBrothOn t_lowStored t_highStored t_isBrothStored p1) fun r2 =>
    if 0 ≤ r2.1 then
      g_X12_bound_b51 p2 p3 r2.2.2.2.2.2.2.2.2.1 r2.2.2.2.2.2.2.2.2.2.2.2.1 r2.2.2.2.2.2.2.2.2.2.1 r2.2.2.2.2.2.2.2.2.2.2.2.2 r2.2.2.2.2.2.2.2.1 r2.2.2.2.2.2.2.2.2.2.2.1 r2.2.2.2.2.2.1 r2.2.2.2.2.2.2.1 r2.2.1 r2.2.2.1 r2.2.2.2.1 r2.2.2.2.2.1
    else
      gb (g_X12_in p2.toInt64 (0 : Int64) ((r2.2.2.2.2.1 - 1).toInt64)) fun r3 =>
      if r3 = 0 then
        g_X12_bound_b51 p2 p3 r2.2.2.2.2.2.2.2.2.1 r2.2.2.2.2.2.2.2.2.2.2.2.1 r2.2.2.2.2.2.2.2.2.2.1 r2.2.2.2.2.2.2.2.2.2.2.2.2 r2.2.2.2.2.2.2.2.1 r2.2.2.2.2.2.2.2.2.2.2.1 r2.2.2.2.2.2.1 r2.2.2.2.2.2.2.1 r2.2.1 r2.2.2.1 r2.2.2.2.1 r2.2.2.2.2.1
      else
        gc (inb p2 24) <|
        if (r2.2.2.2.2.2.2.2.2.2.2.2.2 p2.toNatClampNeg) = 0 then
          g_X12_bound_b52 p2 p3 r2.2.2.2.2.2.2.2.2.1 r2.2.2.2.2.2.2.2.2.2.2.2.1 r2.2.2.2.2.2.2.2.2.2.1 r2.2.2.2.2.2.2.2.2.2.2.2.2 r2.2.2.2.2.2.2.2.1 r2.2.2.2.2.2.2.2.2.2.2.1 r2.2.2.2.2.2.1 r2.2.2.2.2.2.2.1 r2.2.1 r2.2.2.1 r2.2.2.2.1 r2.2.2.2.2.1 1
        else
          g_X12_bound_b51 p2 p3 r2.2.2.2.2.2.2.2.2.1 r2.2.2.2.2.2.2.2.2.2.2.2.1 r2.2.2.2.2.2.2.2.2.2.1 r2.2.2.2.2.2.2.2.2.2.2.2.2 r2.2.2.2.2.2.2.2.1 r2.2.2.2.2.2.2.2.2.2.2.1 r2.2.2.2.2.2.1 r2.2.2.2.2.2.2.1 r2.2.1 r2.2.2.1 r2.2.2.2.1 r2.2.2.2.2.1
def g_X12_typed (t_thrown : Int32) (t_tokens : Int32) (t_spoons : Int32) (t_mostSpoons : Int32) (t_storeMany : Int32) (t_s : Nat → Int32) (t_numbers : Nat → Int32) (t_signs : Nat → Int32) (t_lowOn : Nat → Int64) (t_highOn : Nat → Int64) (t_isBrothOn : Nat → Int32) (t_lowStored : Nat → Int64) (t_highStored : Nat → Int64) (t_isBrothStored : Nat → Int32) : Option (Int32 × Int32 × Int32 × Int32 × Int32 × Int32 × (Nat → Int32) × (Nat → Int32) × (Nat → Int64) × (Nat → Int64) × (Nat → Int32) × (Nat → Int64) × (Nat → Int64) × (Nat → Int32)) :=
  gb (g_X12_typedMany t_tokens t_spoons t_mostSpoons t_storeMany t_s t_numbers t_signs t_lowOn t_highOn t_isBrothOn t_lowStored t_highStored t_isBrothStored) fun r1 =>
  some (r1.1, 0, r1.2.1, r1.2.2.1, r1.2.2.2.1, r1.2.2.2.2.1, r1.2.2.2.2.2.1, r1.2.2.2.2.2.2.1, r1.2.2.2.2.2.2.2.1, r1.2.2.2.2.2.2.2.2.1, r1.2.2.2.2.2.2.2.2.2.1, r1.2.2.2.2.2.2.2.2.2.2.1, r1.2.2.2.2.2.2.2.2.2.2.2.1, r1.2.2.2.2.2.2.2.2.2.2.2.2)
def g_X12_content (t_s : Nat → Int32) (t_f : Nat → UInt32) (p1 : Int32) : Option (Int32) :=
  gb (g_X12_isBroth t_s p1) fun r1 =>
  if r1 = 0 then
    gb (g_X12_of t_s p1 (3 : Int32)) fun r2 =>
    some (r2)
  else
    gc (inb p1 6) <|
    gl (FP.f2i (t_f p1.toNatClampNeg)) fun v3 =>
    some (v3)
def g_X12_spellsWith_b105 (t_s : Nat → Int32) (p1 : Int32) (p2 : Int32) (k5 : (Nat → Int32) → (Nat → Int32) → Int32 → Int32 → Int32 → Int32 → Int32 → Option (Int32 × Int32 × Int32 × Int32 × (Nat → Int32) × (Nat → Int32))) (t_numbers_105 : Nat → Int32) (t_signs_105 : Nat → Int32) (t_tokens_105 : Int32) (t_spoons_105 : Int32) (t_mostSpoons_105 : Int32) (x4_105 : Int32) (s0_105 : Int32) (s1_105 : Int32) : Option (Int32 × Int32 × Int32 × Int32 × (Nat → Int32) × (Nat → Int32)) :=
  gl (s0_105 + s1_105) fun v1 =>
  gl (x4_105 + 1) fun v2 =>
  k5 t_numbers_105 t_signs_105 t_tokens_105 t_spoons_105 t_mostSpoons_105 v1 v2
def g_X12_spellsWith_b86 (t_s : Nat → Int32) (p1 : Int32) (p2 : Int32) (k5 : (Nat → Int32) → (Nat → Int32) → Int32 → Int32 → Int32 → Int32 → Int32 → Option (Int32 × Int32 × Int32 × Int32 × (Nat → Int32) × (Nat → Int32))) (k28 : (Nat → Int32) → (Nat → Int32) → Int32 → Int32 → Int32 → Int32 → Int32 → Int32 → Int32 → Option (Int32 × Int32 × Int32 × Int32 × (Nat → Int32) × (Nat → Int32))) (t_numbers_86 : Nat → Int32) (t_signs_86 : Nat → Int32) (t_tokens_86 : Int32) (t_spoons_86 : Int32) (t_mostSpoons_86 : Int32) (x3_86 : Int32) (x4_86 : Int32) (x6_86 : Int32) (s0_86 : Int32) : Option (Int32 × Int32 × Int32 × Int32 × (Nat → Int32) × (Nat → Int32)) :=
  gl (x6_86 + 1) fun v3 =>
  k28 t_numbers_86 t_signs_86 t_tokens_86 t_spoons_86 t_mostSpoons_86 x3_86 x4_86 s0_86 v3
def g_X12_spellsWith_b85 (t_s : Nat → Int32) (p1 : Int32) (p2 : Int32) (k5 : (Nat → Int32) → (Nat → Int32) → Int32 → Int32 → Int32 → Int32 → Int32 → Option (Int32 × Int32 × Int32 × Int32 × (Nat → Int32) × (Nat → Int32))) (k28 : (Nat → Int32) → (Nat → Int32) → Int32 → Int32 → Int32 → Int32 → Int32 → Int32 → Int32 → Option (Int32 × Int32 × Int32 × Int32 × (Nat → Int32) × (Nat → Int32))) (t_numbers_85 : Nat → Int32) (t_signs_85 : Nat → Int32) (t_tokens_85 : Int32) (t_spoons_85 : Int32) (t_mostSpoons_85 : Int32) (x3_85 : Int32) (x4_85 : Int32) (x6_85 : Int32) : Option (Int32 × Int32 × Int32 × Int32 × (Nat → Int32) × (Nat → Int32)) :=
  g_X12_spellsWith_b86 t_s p1 p2 k5 k28 t_numbers_85 t_signs_85 t_tokens_85 t_spoons_85 t_mostSpoons_85 x3_85 x4_85 x6_85 0
def g_X12_spellsWith_b81 (t_s : Nat → Int32) (p1 : Int32) (p2 : Int32) (k5 : (Nat → Int32) → (Nat → Int32) → Int32 → Int32 → Int32 → Int32 → Int32 → Option (Int32 × Int32 × Int32 × Int32 × (Nat → Int32) × (Nat → Int32))) (k28 : (Nat → Int32) → (Nat → Int32) → Int32 → Int32 → Int32 → Int32 → Int32 → Int32 → Int32 → Option (Int32 × Int32 × Int32 × Int32 × (Nat → Int32) × (Nat → Int32))) (t_numbers_81 : Nat → Int32) (t_signs_81 : Nat → Int32) (t_tokens_81 : Int32) (t_spoons_81 : Int32) (t_mostSpoons_81 : Int32) (x3_81 : Int32) (x4_81 : Int32) (x6_81 : Int32) : Option (Int32 × Int32 × Int32 × Int32 × (Nat → Int32) × (Nat → Int32)) :=
  g_X12_spellsWith_b86 t_s p1 p2 k5 k28 t_numbers_81 t_signs_81 t_tokens_81 t_spoons_81 t_mostSpoons_81 x3_81 x4_81 x6_81 1
def g_X12_spellsWith_b70 (t_s : Nat → Int32) (p1 : Int32) (p2 : Int32) (k5 : (Nat → Int32) → (Nat → Int32) → Int32 → Int32 → Int32 → Int32 → Int32 → Option (Int32 × Int32 × Int32 × Int32 × (Nat → Int32) × (Nat → Int32))) (k28 : (Nat → Int32) → (Nat → Int32) → Int32 → Int32 → Int32 → Int32 → Int32 → Int32 → Int32 → Option (Int32 × Int32 × Int32 × Int32 × (Nat → Int32) × (Nat → Int32))) (t_numbers_70 : Nat → Int32) (t_signs_70 : Nat → Int32) (t_tokens_70 : Int32) (t_spoons_70 : Int32) (t_mostSpoons_70 : Int32) (x3_70 : Int32) (x4_70 : Int32) (x6_70 : Int32) : Option (Int32 × Int32 × Int32 × Int32 × (Nat → Int32) × (Nat → Int32)) :=
  gc (inb x6_70 60) <|
  if (t_numbers_70 x6_70.toNatClampNeg) = p1 then
    g_X12_spellsWith_b81 t_s p1 p2 k5 k28 t_numbers_70 t_signs_70 t_tokens_70 t_spoons_70 t_mostSpoons_70 x3_70 x4_70 x6_70
  else
    g_X12_spellsWith_b85 t_s p1 p2 k5 k28 t_numbers_70 t_signs_70 t_tokens_70 t_spoons_70 t_mostSpoons_70 x3_70 x4_70 x6_70
def g_X12_spellsWith_b28 (t_s : Nat → Int32) (p1 : Int32) (p2 : Int32) (k5 : (Nat → Int32) → (Nat → Int32) → Int32 → Int32 → Int32 → Int32 → Int32 → Option (Int32 × Int32 × Int32 × Int32 × (Nat → Int32) × (Nat → Int32))) : Nat → (Nat → Int32) → (Nat → Int32) → Int32 → Int32 → Int32 → Int32 → Int32 → Int32 → Int32 → Option (Int32 × Int32 × Int32 × Int32 × (Nat → Int32) × (Nat → Int32))
  | 0, _, _, _, _, _, _, _, _, _ => none
  | n + 1, t_numbers_28, t_signs_28, t_tokens_28, t_spoons_28, t_mostSpoons_28, x3_28, x4_28, x5_28, x6_28 =>
    if t_tokens_28 ≤ x6_28 then
      if x5_28 = 0 then
        g_X12_spellsWith_b105 t_s p1 p2 k5 t_numbers_28 t_signs_28 t_tokens_28 t_spoons_28 t_mostSpoons_28 x4_28 x3_28 0
      else
        g_X12_spellsWith_b105 t_s p1 p2 k5 t_numbers_28 t_signs_28 t_tokens_28 t_spoons_28 t_mostSpoons_28 x4_28 x3_28 1
    else
      if x5_28 = 0 then
        if p2 = 0 then
          gb (g_X12_isLetter t_signs_28 x6_28) fun r4 =>
          if r4 = 0 then
            g_X12_spellsWith_b85 t_s p1 p2 k5 (g_X12_spellsWith_b28 t_s p1 p2 k5 n) t_numbers_28 t_signs_28 t_tokens_28 t_spoons_28 t_mostSpoons_28 x3_28 x4_28 x6_28
          else
            g_X12_spellsWith_b70 t_s p1 p2 k5 (g_X12_spellsWith_b28 t_s p1 p2 k5 n) t_numbers_28 t_signs_28 t_tokens_28 t_spoons_28 t_mostSpoons_28 x3_28 x4_28 x6_28
        else
          gc (inb x6_28 60) <|
          if (t_signs_28 x6_28.toNatClampNeg) = 61 then
            g_X12_spellsWith_b70 t_s p1 p2 k5 (g_X12_spellsWith_b28 t_s p1 p2 k5 n) t_numbers_28 t_signs_28 t_tokens_28 t_spoons_28 t_mostSpoons_28 x3_28 x4_28 x6_28
          else
            g_X12_spellsWith_b85 t_s p1 p2 k5 (g_X12_spellsWith_b28 t_s p1 p2 k5 n) t_numbers_28 t_signs_28 t_tokens_28 t_spoons_28 t_mostSpoons_28 x3_28 x4_28 x6_28
      else
        g_X12_spellsWith_b81 t_s p1 p2 k5 (g_X12_spellsWith_b28 t_s p1 p2 k5 n) t_numbers_28 t_signs_28 t_tokens_28 t_spoons_28 t_mostSpoons_28 x3_28 x4_28 x6_28
def g_X12_spellsWith_b5 (t_s : Nat → Int32) (p1 : Int32) (p2 : Int32) : Nat → (Nat → Int32) → (Nat → Int32) → Int32 → Int32 → Int32 → Int32 → Int32 → Option (Int32 × Int32 × Int32 × Int32 × (Nat → Int32) × (Nat → Int32))
  | 0, _, _, _, _, _, _, _ => none
  | n + 1, t_numbers_5, t_signs_5, t_tokens_5, t_spoons_5, t_mostSpoons_5, x3_5, x4_5 =>
    gc (inb (1 : Int32) 282) <|
    if (t_s (1 : Int32).toNatClampNeg) ≤ x4_5 then
      some (x3_5, t_tokens_5, t_spoons_5, t_mostSpoons_5, t_numbers_5, t_signs_5)
    else
      gb (g_X12_tells t_tokens_5 t_spoons_5 t_mostSpoons_5 t_s t_numbers_5 t_signs_5 x4_5) fun r5 =>
      g_X12_spellsWith_b28 t_s p1 p2 (g_X12_spellsWith_b5 t_s p1 p2 n) 100 r5.2.2.2.1 r5.2.2.2.2 r5.1 r5.2.1 r5.2.2.1 x3_5 x4_5 0 0
def g_X12_spellsWith (t_tokens : Int32) (t_spoons : Int32) (t_mostSpoons : Int32) (t_s : Nat → Int32) (t_numbers : Nat → Int32) (t_signs : Nat → Int32) (p1 : Int32) (p2 : Int32) : Option (Int32 × Int32 × Int32 × Int32 × (Nat → Int32) × (Nat → Int32)) :=
  g_X12_spellsWith_b5 t_s p1 p2 100 t_numbers t_signs t_tokens t_spoons t_mostSpoons 0 0
def g_X12_cauldronOf_b95 (t_tokens : Int32) (t_spoons : Int32) (t_mostSpoons : Int32) (t_s : Nat → Int32) (t_numbers : Nat → Int32) (t_signs : Nat → Int32) (p1 : Int32) (p2 : Int32) (t_thrown_95 : Int32) : Option (Int32 × Int32 × Int32 × Int32 × Int32 × (Nat → Int32) × (Nat → Int32)) :=
  gb (g_X12_of t_s p1 p2) fun r3 =>
  some (r3, t_thrown_95, t_tokens, t_spoons, t_mostSpoons, t_numbers, t_signs)
def g_X12_cauldronOf_b91 (t_tokens : Int32) (t_spoons : Int32) (t_mostSpoons : Int32) (t_s : Nat → Int32) (t_numbers : Nat → Int32) (t_signs : Nat → Int32) (p1 : Int32) (t_thrown_91 : Int32) (s2_91 : Int32) : Option (Int32 × Int32 × Int32 × Int32 × Int32 × (Nat → Int32) × (Nat → Int32)) :=
  gb (g_X12_spellsWith t_tokens t_spoons t_mostSpoons t_s t_numbers t_signs p1 s2_91) fun r4 =>
  some (r4.1, t_thrown_91, r4.2.1, r4.2.2.1, r4.2.2.2.1, r4.2.2.2.2.1, r4.2.2.2.2.2)
def g_X12_cauldronOf_b78 (t_tokens : Int32) (t_spoons : Int32) (t_mostSpoons : Int32) (t_s : Nat → Int32) (t_numbers : Nat → Int32) (t_signs : Nat → Int32) (p1 : Int32) (p2 : Int32) (t_thrown_78 : Int32) : Option (Int32 × Int32 × Int32 × Int32 × Int32 × (Nat → Int32) × (Nat → Int32)) :=
  if p2 = 6 then
    g_X12_cauldronOf_b91 t_tokens t_spoons t_mostSpoons t_s t_numbers t_signs p1 t_thrown_78 1
  else
    g_X12_cauldronOf_b91 t_tokens t_spoons t_mostSpoons t_s t_numbers t_signs p1 t_thrown_78 0
def g_X12_cauldronOf_b30 (t_tokens : Int32) (t_spoons : Int32) (t_mostSpoons : Int32) (t_s : Nat → Int32) (t_f : Nat → UInt32) (t_numbers : Nat → Int32) (t_signs : Nat → Int32) (p1 : Int32) (p2 : Int32) (s1_30 : Int32) : Option (Int32 × Int32 × Int32 × Int32 × Int32 × (Nat → Int32) × (Nat → Int32)) :=
  if s1_30 ≤ 0 then
    if p2 = 3 then
      gb (g_X12_content t_s t_f p1) fun r5 =>
      some (r5, s1_30, t_tokens, t_spoons, t_mostSpoons, t_numbers, t_signs)
    else
      if p2 = 4 then
        g_X12_cauldronOf_b95 t_tokens t_spoons t_mostSpoons t_s t_numbers t_signs p1 p2 s1_30
      else
        if p2 = 5 then
          g_X12_cauldronOf_b78 t_tokens t_spoons t_mostSpoons t_s t_numbers t_signs p1 p2 s1_30
        else
          if p2 = 6 then
            g_X12_cauldronOf_b78 t_tokens t_spoons t_mostSpoons t_s t_numbers t_signs p1 p2 s1_30
          else
            g_X12_cauldronOf_b95 t_tokens t_spoons t_mostSpoons t_s t_numbers t_signs p1 p2 s1_30
  else
    some (0, s1_30, t_tokens, t_spoons, t_mostSpoons, t_numbers, t_signs)
def g_X12_cauldronOf (t_thrown : Int32) (t_tokens : Int32) (t_spoons : Int32) (t_mostSpoons : Int32) (t_s : Nat → Int32) (t_f : Nat → UInt32) (t_numbers : Nat → Int32) (t_signs : Nat → Int32) (p1 : Int32) (p2 : Int32) : Option (Int32 × Int32 × Int32 × Int32 × Int32 × (Nat → Int32) × (Nat → Int32)) :=
  gb (g_X12_isCauldron t_s p1) fun r1 =>
  if r1 = 0 then
    g_X12_cauldronOf_b30 t_tokens t_spoons t_mostSpoons t_s t_f t_numbers t_signs p1 p2 1
  else
    gb (g_X12_in p2.toInt64 (0 : Int64) (6 : Int64)) fun r2 =>
    if r2 = 0 then
      g_X12_cauldronOf_b30 t_tokens t_spoons t_mostSpoons t_s t_f t_numbers t_signs p1 p2 2
    else
      g_X12_cauldronOf_b30 t_tokens t_spoons t_mostSpoons t_s t_f t_numbers t_signs p1 p2 0
def g_X12_cups_b26 (t_f : Nat → UInt32) (p1 : Int32) (s1_26 : Int32) : Option (UInt32 × Int32) :=
  if s1_26 ≤ 0 then
    gc (inb p1 6) <|
    gl (t_f p1.toNatClampNeg) fun v3 =>
    some (v3, s1_26)
  else
    some (FP.fconst0, s1_26)
def g_X12_cups (t_thrown : Int32) (t_s : Nat → Int32) (t_f : Nat → UInt32) (p1 : Int32) : Option (UInt32 × Int32) :=
  gb (g_X12_isCauldron t_s p1) fun r1 =>
  if r1 = 0 then
    g_X12_cups_b26 t_f p1 1
  else
    gb (g_X12_isBroth t_s p1) fun r2 =>
    if r2 = 0 then
      g_X12_cups_b26 t_f p1 2
    else
      g_X12_cups_b26 t_f p1 0
def g_X12_asFloat (t_s : Nat → Int32) (t_f : Nat → UInt32) (p1 : Int32) : Option (UInt32) :=
  gb (g_X12_isBroth t_s p1) fun r1 =>
  if r1 = 0 then
    gb (g_X12_of t_s p1 (3 : Int32)) fun r2 =>
    gl (FP.i2f r2) fun v3 =>
    some (v3)
  else
    gc (inb p1 6) <|
    gl (t_f p1.toNatClampNeg) fun v4 =>
    some (v4)
def g_X12_bits_b14 (t_s : Nat → Int32) (t_f : Nat → UInt32) (p1 : Int32) (s1_14 : Int32) : Option (Int32 × Int32) :=
  if s1_14 ≤ 0 then
    gb (g_X12_asFloat t_s t_f p1) fun r2 =>
    gb (g_Jxf58ca_floatToIntBits_5c35a r2) fun r3 =>
    some (r3, s1_14)
  else
    some (0, s1_14)
def g_X12_bits (t_thrown : Int32) (t_s : Nat → Int32) (t_f : Nat → UInt32) (p1 : Int32) : Option (Int32 × Int32) :=
  gb (g_X12_isCauldron t_s p1) fun r1 =>
  if r1 = 0 then
    g_X12_bits_b14 t_s t_f p1 1
  else
    g_X12_bits_b14 t_s t_f p1 0
def g_X12_storesOf_b34 (k9 : (Nat → Int32) → (Nat → Int32) → Int32 → Int32 → Int32 → Int32 → Int32 → Option (Int32 × Int32 × Int32 × Int32 × (Nat → Int32) × (Nat → Int32))) (t_numbers_34 : Nat → Int32) (t_signs_34 : Nat → Int32) (t_tokens_34 : Int32) (t_spoons_34 : Int32) (t_mostSpoons_34 : Int32) (x3_34 : Int32) (s0_34 : Int32) (s1_34 : Int32) : Option (Int32 × Int32 × Int32 × Int32 × (Nat → Int32) × (Nat → Int32)) :=
  gl (s0_34 + s1_34) fun v2 =>
  gl (x3_34 + 1) fun v3 =>
  k9 t_numbers_34 t_signs_34 t_tokens_34 t_spoons_34 t_mostSpoons_34 v2 v3
def g_X12_storesOf_b9 : Nat → (Nat → Int32) → (Nat → Int32) → Int32 → Int32 → Int32 → Int32 → Int32 → Option (Int32 × Int32 × Int32 × Int32 × (Nat → Int32) × (Nat → Int32))
  | 0, _, _, _, _, _, _, _ => none
  | n + 1, t_numbers_9, t_signs_9, t_tokens_9, t_spoons_9, t_mostSpoons_9, x2_9, x3_9 =>
    if t_tokens_9 ≤ x3_9 then
      some (x2_9, t_tokens_9, t_spoons_9, t_mostSpoons_9, t_numbers_9, t_signs_9)
    else
      gc (inb x3_9 60) <|
      if (t_signs_9 x3_9.toNatClampNeg) = 61 then
        g_X12_storesOf_b34 (g_X12_storesOf_b9 n) t_numbers_9 t_signs_9 t_tokens_9 t_spoons_9 t_mostSpoons_9 x3_9 x2_9 1
      else
        g_X12_storesOf_b34 (g_X12_storesOf_b9 n) t_numbers_9 t_signs_9 t_tokens_9 t_spoons_9 t_mostSpoons_9 x3_9 x2_9 0
def g_X12_storesOf (t_tokens : Int32) (t_spoons : Int32) (t_mostSpoons : Int32) (t_s : Nat → Int32) (t_numbers : Nat → Int32) (t_signs : Nat → Int32) (p1 : Int32) : Option (Int32 × Int32 × Int32 × Int32 × (Nat → Int32) × (Nat → Int32)) :=
  gb (g_X12_tells t_tokens t_spoons t_mostSpoons t_s t_numbers t_signs p1) fun r1 =>
  g_X12_storesOf_b9 100 r1.2.2.2.1 r1.2.2.2.2 r1.1 r1.2.1 r1.2.2.1 0 0
def g_X12_spellOf_b30 (t_tokens : Int32) (t_spoons : Int32) (t_mostSpoons : Int32) (t_storeMany : Int32) (t_s : Nat → Int32) (t_numbers : Nat → Int32) (t_signs : Nat → Int32) (t_lowOn : Nat → Int64) (t_highOn : Nat → Int64) (t_isBrothOn : Nat → Int32) (t_lowStored : Nat → Int64) (t_highStored : Nat → Int64) (t_isBrothStored : Nat → Int32) (p1 : Int32) (p2 : Int32) (s1_30 : Int32) : Option (Int32 × Int32 × Int32 × Int32 × Int32 × Int32 × (Nat → Int32) × (Nat → Int32) × (Nat → Int64) × (Nat → Int64) × (Nat → Int32) × (Nat → Int64) × (Nat → Int64) × (Nat → Int32)) :=
  if s1_30 ≤ 0 then
    gb (g_X12_storesOf t_tokens t_spoons t_mostSpoons t_s t_numbers t_signs p1) fun r3 =>
    if p2 = 0 then
      some (r3.2.1, s1_30, r3.2.1, r3.2.2.1, r3.2.2.2.1, t_storeMany, r3.2.2.2.2.1, r3.2.2.2.2.2, t_lowOn, t_highOn, t_isBrothOn, t_lowStored, t_highStored, t_isBrothStored)
    else
      if p2 = 1 then
        some (r3.1, s1_30, r3.2.1, r3.2.2.1, r3.2.2.2.1, t_storeMany, r3.2.2.2.2.1, r3.2.2.2.2.2, t_lowOn, t_highOn, t_isBrothOn, t_lowStored, t_highStored, t_isBrothStored)
      else
        if p2 = 2 then
          some (r3.2.2.2.1, s1_30, r3.2.1, r3.2.2.1, r3.2.2.2.1, t_storeMany, r3.2.2.2.2.1, r3.2.2.2.2.2, t_lowOn, t_highOn, t_isBrothOn, t_lowStored, t_highStored, t_isBrothStored)
        else
          if p2 = 3 then
            gb (g_X12_faultOf r3.2.1 r3.2.2.1 r3.2.2.2.1 t_storeMany t_s r3.2.2.2.2.1 r3.2.2.2.2.2 t_lowOn t_highOn t_isBrothOn t_lowStored t_highStored t_isBrothStored p1) fun r4 =>
            if 0 ≤ r4.1 then
              some (0, s1_30, r4.2.1, r4.2.2.1, r4.2.2.2.1, r4.2.2.2.2.1, r4.2.2.2.2.2.1, r4.2.2.2.2.2.2.1, r4.2.2.2.2.2.2.2.1, r4.2.2.2.2.2.2.2.2.1, r4.2.2.2.2.2.2.2.2.2.1, r4.2.2.2.2.2.2.2.2.2.2.1, r4.2.2.2.2.2.2.2.2.2.2.2.1, r4.2.2.2.2.2.2.2.2.2.2.2.2)
            else
              some (1, s1_30, r4.2.1, r4.2.2.1, r4.2.2.2.1, r4.2.2.2.2.1, r4.2.2.2.2.2.1, r4.2.2.2.2.2.2.1, r4.2.2.2.2.2.2.2.1, r4.2.2.2.2.2.2.2.2.1, r4.2.2.2.2.2.2.2.2.2.1, r4.2.2.2.2.2.2.2.2.2.2.1, r4.2.2.2.2.2.2.2.2.2.2.2.1, r4.2.2.2.2.2.2.2.2.2.2.2.2)
          else
            gc (inb (34 + (62 * p1)) 282) <|
            gl (t_s (34 + (62 * p1)).toNatClampNeg) fun v5 =>
            some (v5, s1_30, r3.2.1, r3.2.2.1, r3.2.2.2.1, t_storeMany, r3.2.2.2.2.1, r3.2.2.2.2.2, t_lowOn, t_highOn, t_isBrothOn, t_lowStored, t_highStored, t_isBrothStored)
  else
    some (0, s1_30, t_tokens, t_spoons, t_mostSpoons, t_storeMany, t_numbers, t_signs, t_lowOn, t_highOn, t_isBrothOn, t_lowStored, t_highStored, t_isBrothStored)
def g_X12_spellOf (t_thrown : Int32) (t_tokens : Int32) (t_spoons : Int32) (t_mostSpoons : Int32) (t_storeMany : Int32) (t_s : Nat → Int32) (t_numbers : Nat → Int32) (t_signs : Nat → Int32) (t_lowOn : Nat → Int64) (t_highOn : Nat → Int64) (t_isBrothOn : Nat → Int32) (t_lowStored : Nat → Int64) (t_highStored : Nat → Int64) (t_isBrothStored : Nat → Int32) (p1 : Int32) (p2 : Int32) : Option (Int32 × Int32 × Int32 × Int32 × Int32 × Int32 × (Nat → Int32) × (Nat → Int32) × (Nat → Int64) × (Nat → Int64) × (Nat → Int32) × (Nat → Int64) × (Nat → Int64) × (Nat → Int32)) :=
  gb (g_X12_isSpell t_s p1) fun r1 =>
  if r1 = 0 then
    g_X12_spellOf_b30 t_tokens t_spoons t_mostSpoons t_storeMany t_s t_numbers t_signs t_lowOn t_highOn t_isBrothOn t_lowStored t_highStored t_isBrothStored p1 p2 1
  else
    gb (g_X12_in p2.toInt64 (0 : Int64) (4 : Int64)) fun r2 =>
    if r2 = 0 then
      g_X12_spellOf_b30 t_tokens t_spoons t_mostSpoons t_storeMany t_s t_numbers t_signs t_lowOn t_highOn t_isBrothOn t_lowStored t_highStored t_isBrothStored p1 p2 2
    else
      g_X12_spellOf_b30 t_tokens t_spoons t_mostSpoons t_storeMany t_s t_numbers t_signs t_lowOn t_highOn t_isBrothOn t_lowStored t_highStored t_isBrothStored p1 p2 0
def g_X12_token_b54 (p2 : Int32) (t_numbers_54 : Nat → Int32) (t_signs_54 : Nat → Int32) (t_thrown_54 : Int32) (t_tokens_54 : Int32) (t_spoons_54 : Int32) (t_mostSpoons_54 : Int32) (s1_54 : Int32) : Option (Int32 × Int32 × Int32 × Int32 × Int32 × (Nat → Int32) × (Nat → Int32)) :=
  if s1_54 ≤ 0 then
    gc (inb p2 60) <|
    gl (t_signs_54 p2.toNatClampNeg) fun v2 =>
    gc (cho v2) <|
    some (v2, s1_54, t_tokens_54, t_spoons_54, t_mostSpoons_54, t_numbers_54, t_signs_54)
  else
    some (32, s1_54, t_tokens_54, t_spoons_54, t_mostSpoons_54, t_numbers_54, t_signs_54)
def g_X12_token_b14 (t_tokens : Int32) (t_spoons : Int32) (t_mostSpoons : Int32) (t_s : Nat → Int32) (t_numbers : Nat → Int32) (t_signs : Nat → Int32) (p1 : Int32) (p2 : Int32) (s1_14 : Int32) : Option (Int32 × Int32 × Int32 × Int32 × Int32 × (Nat → Int32) × (Nat → Int32)) :=
  if s1_14 ≤ 0 then
    gb (g_X12_tells t_tokens t_spoons t_mostSpoons t_s t_numbers t_signs p1) fun r3 =>
    gb (g_X12_in p2.toInt64 (0 : Int64) ((r3.1 - 1).toInt64)) fun r4 =>
    if r4 = 0 then
      g_X12_token_b54 p2 r3.2.2.2.1 r3.2.2.2.2 s1_14 r3.1 r3.2.1 r3.2.2.1 2
    else
      g_X12_token_b54 p2 r3.2.2.2.1 r3.2.2.2.2 s1_14 r3.1 r3.2.1 r3.2.2.1 0
  else
    some (32, s1_14, t_tokens, t_spoons, t_mostSpoons, t_numbers, t_signs)
def g_X12_token (t_thrown : Int32) (t_tokens : Int32) (t_spoons : Int32) (t_mostSpoons : Int32) (t_s : Nat → Int32) (t_numbers : Nat → Int32) (t_signs : Nat → Int32) (p1 : Int32) (p2 : Int32) : Option (Int32 × Int32 × Int32 × Int32 × Int32 × (Nat → Int32) × (Nat → Int32)) :=
  gb (g_X12_isSpell t_s p1) fun r1 =>
  if r1 = 0 then
    g_X12_token_b14 t_tokens t_spoons t_mostSpoons t_s t_numbers t_signs p1 p2 1
  else
    g_X12_token_b14 t_tokens t_spoons t_mostSpoons t_s t_numbers t_signs p1 p2 0
def g_X12_thinks (t_s : Nat → Int32) (t_aside : Nat → Int32) (t_f : Nat → UInt32) (t_asideF : Nat → UInt32) : Option ((Nat → Int32) × (Nat → UInt32)) :=
  gc (cpok (0 : Int32) (0 : Int32) (282 : Int32) 282 282) <|
  gc (cpok (0 : Int32) (0 : Int32) (6 : Int32) 6 6) <|
  some ((va_cpy t_s t_aside (0 : Int32).toNatClampNeg (0 : Int32).toNatClampNeg (282 : Int32).toNatClampNeg), (va_cpy t_f t_asideF (0 : Int32).toNatClampNeg (0 : Int32).toNatClampNeg (6 : Int32).toNatClampNeg))
def g_X12_forgets (t_aside : Nat → Int32) (t_s : Nat → Int32) (t_asideF : Nat → UInt32) (t_f : Nat → UInt32) : Option ((Nat → Int32) × (Nat → UInt32)) :=
  gc (cpok (0 : Int32) (0 : Int32) (282 : Int32) 282 282) <|
  gc (cpok (0 : Int32) (0 : Int32) (6 : Int32) 6 6) <|
  some ((va_cpy t_aside t_s (0 : Int32).toNatClampNeg (0 : Int32).toNatClampNeg (282 : Int32).toNatClampNeg), (va_cpy t_asideF t_f (0 : Int32).toNatClampNeg (0 : Int32).toNatClampNeg (6 : Int32).toNatClampNeg))
def g_X12_would_b40 (p2 : Int32) (t_aside_40 : Nat → Int32) (t_asideF_40 : Nat → UInt32) (t_brothOn_40 : Nat → UInt32) (t_dramsOn_40 : Nat → Int64) (t_f_40 : Nat → UInt32) (t_isBrothOn_40 : Nat → Int32) (t_numbers_40 : Nat → Int32) (t_s_40 : Nat → Int32) (t_signs_40 : Nat → Int32) (t_tokens_40 : Int32) (t_spoons_40 : Int32) (t_mostSpoons_40 : Int32) (t_cause_40 : Int32) (t_causeDetail_40 : Int32) (s1_40 : Int32) : Option (Int32 × Int32 × Int32 × Int32 × Int32 × Int32 × Int32 × (Nat → Int32) × (Nat → Int32) × (Nat → UInt32) × (Nat → UInt32) × (Nat → Int32) × (Nat → Int32) × (Nat → Int32) × (Nat → Int64) × (Nat → UInt32)) :=
  gb (g_X12_content t_s_40 t_f_40 p2) fun r5 =>
  gb (g_X12_forgets t_aside_40 t_s_40 t_asideF_40 t_f_40) fun r6 =>
  if s1_40 ≤ 0 then
    some (r5, s1_40, t_tokens_40, t_spoons_40, t_mostSpoons_40, t_cause_40, t_causeDetail_40, r6.1, t_aside_40, r6.2, t_asideF_40, t_numbers_40, t_signs_40, t_isBrothOn_40, t_dramsOn_40, t_brothOn_40)
  else
    some (0, s1_40, t_tokens_40, t_spoons_40, t_mostSpoons_40, t_cause_40, t_causeDetail_40, r6.1, t_aside_40, r6.2, t_asideF_40, t_numbers_40, t_signs_40, t_isBrothOn_40, t_dramsOn_40, t_brothOn_40)
def g_X12_would_b16 (t_thrown : Int32) (t_tokens : Int32) (t_spoons : Int32) (t_mostSpoons : Int32) (t_cause : Int32) (t_causeDetail : Int32) (t_s : Nat → Int32) (t_aside : Nat → Int32) (t_f : Nat → UInt32) (t_asideF : Nat → UInt32) (t_numbers : Nat → Int32) (t_signs : Nat → Int32) (t_isBrothOn : Nat → Int32) (t_dramsOn : Nat → Int64) (t_brothOn : Nat → UInt32) : Option (Int32 × Int32 × Int32 × Int32 × Int32 × Int32 × Int32 × (Nat → Int32) × (Nat → Int32) × (Nat → UInt32) × (Nat → UInt32) × (Nat → Int32) × (Nat → Int32) × (Nat → Int32) × (Nat → Int64) × (Nat → UInt32)) :=
  gb (g_X12_fails t_thrown (1 : Int32)) fun r7 =>
  some (r7.1, r7.2, t_tokens, t_spoons, t_mostSpoons, t_cause, t_causeDetail, t_s, t_aside, t_f, t_asideF, t_numbers, t_signs, t_isBrothOn, t_dramsOn, t_brothOn)
def g_X12_would (t_thrown : Int32) (t_tokens : Int32) (t_spoons : Int32) (t_mostSpoons : Int32) (t_cause : Int32) (t_causeDetail : Int32) (t_s : Nat → Int32) (t_aside : Nat → Int32) (t_f : Nat → UInt32) (t_asideF : Nat → UInt32) (t_numbers : Nat → Int32) (t_signs : Nat → Int32) (t_isBrothOn : Nat → Int32) (t_dramsOn : Nat → Int64) (t_brothOn : Nat → UInt32) (p1 : Int32) (p2 : Int32) : Option (Int32 × Int32 × Int32 × Int32 × Int32 × Int32 × Int32 × (Nat → Int32) × (Nat → Int32) × (Nat → UInt32) × (Nat → UInt32) × (Nat → Int32) × (Nat → Int32) × (Nat → Int32) × (Nat → Int64) × (Nat → UInt32)) :=
  gb (g_X12_isSpell t_s p1) fun r1 =>
  if r1 = 0 then
    g_X12_would_b16 t_thrown t_tokens t_spoons t_mostSpoons t_cause t_causeDetail t_s t_aside t_f t_asideF t_numbers t_signs t_isBrothOn t_dramsOn t_brothOn
  else
    gb (g_X12_isCauldron t_s p2) fun r2 =>
    if r2 = 0 then
      g_X12_would_b16 t_thrown t_tokens t_spoons t_mostSpoons t_cause t_causeDetail t_s t_aside t_f t_asideF t_numbers t_signs t_isBrothOn t_dramsOn t_brothOn
    else
      gb (g_X12_thinks t_s t_aside t_f t_asideF) fun r3 =>
      gb (g_X12_cooks t_tokens t_spoons t_mostSpoons t_cause t_causeDetail t_s t_numbers t_signs t_isBrothOn t_dramsOn t_f t_brothOn p1) fun r4 =>
      if 0 ≤ r4.1 then
        g_X12_would_b40 p2 r3.1 r3.2 r4.2.2.2.2.2.2.2.2.2.2.2.2 r4.2.2.2.2.2.2.2.2.2.2.1 r4.2.2.2.2.2.2.2.2.2.2.2.1 r4.2.2.2.2.2.2.2.2.2.1 r4.2.2.2.2.2.2.2.1 r4.2.2.2.2.2.2.1 r4.2.2.2.2.2.2.2.2.1 r4.2.1 r4.2.2.1 r4.2.2.2.1 r4.2.2.2.2.1 r4.2.2.2.2.2.1 2
      else
        g_X12_would_b40 p2 r3.1 r3.2 r4.2.2.2.2.2.2.2.2.2.2.2.2 r4.2.2.2.2.2.2.2.2.2.2.1 r4.2.2.2.2.2.2.2.2.2.2.2.1 r4.2.2.2.2.2.2.2.2.2.1 r4.2.2.2.2.2.2.2.1 r4.2.2.2.2.2.2.1 r4.2.2.2.2.2.2.2.2.1 r4.2.1 r4.2.2.1 r4.2.2.2.1 r4.2.2.2.2.1 r4.2.2.2.2.2.1 0
def g_X12_wouldAgain (t_thrown : Int32) (t_tokens : Int32) (t_spoons : Int32) (t_mostSpoons : Int32) (t_cause : Int32) (t_causeDetail : Int32) (t_s : Nat → Int32) (t_aside : Nat → Int32) (t_f : Nat → UInt32) (t_asideF : Nat → UInt32) (t_numbers : Nat → Int32) (t_signs : Nat → Int32) (t_isBrothOn : Nat → Int32) (t_dramsOn : Nat → Int64) (t_brothOn : Nat → UInt32) (p1 : Int32) (p2 : Int32) : Option (Int32 × Int32 × Int32 × Int32 × Int32 × Int32 × Int32 × (Nat → Int32) × (Nat → Int32) × (Nat → UInt32) × (Nat → UInt32) × (Nat → Int32) × (Nat → Int32) × (Nat → Int32) × (Nat → Int64) × (Nat → UInt32)) :=
  gb (g_X12_would t_thrown t_tokens t_spoons t_mostSpoons t_cause t_causeDetail t_s t_aside t_f t_asideF t_numbers t_signs t_isBrothOn t_dramsOn t_brothOn p1 p2) fun r1 =>
  some (r1.1, r1.2.1, r1.2.2.1, r1.2.2.2.1, r1.2.2.2.2.1, r1.2.2.2.2.2.1, r1.2.2.2.2.2.2.1, r1.2.2.2.2.2.2.2.1, r1.2.2.2.2.2.2.2.2.1, r1.2.2.2.2.2.2.2.2.2.1, r1.2.2.2.2.2.2.2.2.2.2.1, r1.2.2.2.2.2.2.2.2.2.2.2.1, r1.2.2.2.2.2.2.2.2.2.2.2.2.1, r1.2.2.2.2.2.2.2.2.2.2.2.2.2.1, r1.2.2.2.2.2.2.2.2.2.2.2.2.2.2.1, r1.2.2.2.2.2.2.2.2.2.2.2.2.2.2.2)
def g_X12_boils_b38 (t_aside_38 : Nat → Int32) (t_asideF_38 : Nat → UInt32) (t_brothOn_38 : Nat → UInt32) (t_dramsOn_38 : Nat → Int64) (t_f_38 : Nat → UInt32) (t_isBrothOn_38 : Nat → Int32) (t_numbers_38 : Nat → Int32) (t_s_38 : Nat → Int32) (t_signs_38 : Nat → Int32) (t_tokens_38 : Int32) (t_spoons_38 : Int32) (t_mostSpoons_38 : Int32) (t_cause_38 : Int32) (t_causeDetail_38 : Int32) (x2_38 : Int32) (s1_38 : Int32) : Option (Int32 × Int32 × Int32 × Int32 × Int32 × Int32 × Int32 × (Nat → Int32) × (Nat → Int32) × (Nat → UInt32) × (Nat → UInt32) × (Nat → Int32) × (Nat → Int32) × (Nat → Int32) × (Nat → Int64) × (Nat → UInt32)) :=
  if s1_38 ≤ 0 then
    some (x2_38, s1_38, t_tokens_38, t_spoons_38, t_mostSpoons_38, t_cause_38, t_causeDetail_38, t_s_38, t_aside_38, t_f_38, t_asideF_38, t_numbers_38, t_signs_38, t_isBrothOn_38, t_dramsOn_38, t_brothOn_38)
  else
    some (0, s1_38, t_tokens_38, t_spoons_38, t_mostSpoons_38, t_cause_38, t_causeDetail_38, t_s_38, t_aside_38, t_f_38, t_asideF_38, t_numbers_38, t_signs_38, t_isBrothOn_38, t_dramsOn_38, t_brothOn_38)
def g_X12_boils (t_thrown : Int32) (t_tokens : Int32) (t_spoons : Int32) (t_mostSpoons : Int32) (t_cause : Int32) (t_causeDetail : Int32) (t_s : Nat → Int32) (t_aside : Nat → Int32) (t_f : Nat → UInt32) (t_asideF : Nat → UInt32) (t_numbers : Nat → Int32) (t_signs : Nat → Int32) (t_isBrothOn : Nat → Int32) (t_dramsOn : Nat → Int64) (t_brothOn : Nat → UInt32) (p1 : Int32) : Option (Int32 × Int32 × Int32 × Int32 × Int32 × Int32 × Int32 × (Nat → Int32) × (Nat → Int32) × (Nat → UInt32) × (Nat → UInt32) × (Nat → Int32) × (Nat → Int32) × (Nat → Int32) × (Nat → Int64) × (Nat → UInt32)) :=
  gb (g_X12_isSpell t_s p1) fun r1 =>
  if r1 = 0 then
    gb (g_X12_fails t_thrown (1 : Int32)) fun r5 =>
    some (r5.1, r5.2, t_tokens, t_spoons, t_mostSpoons, t_cause, t_causeDetail, t_s, t_aside, t_f, t_asideF, t_numbers, t_signs, t_isBrothOn, t_dramsOn, t_brothOn)
  else
    gb (g_X12_thinks t_s t_aside t_f t_asideF) fun r2 =>
    gb (g_X12_cooks t_tokens t_spoons t_mostSpoons t_cause t_causeDetail t_s t_numbers t_signs t_isBrothOn t_dramsOn t_f t_brothOn p1) fun r3 =>
    gb (g_X12_forgets r2.1 r3.2.2.2.2.2.2.1 r2.2 r3.2.2.2.2.2.2.2.2.2.2.2.1) fun r4 =>
    if 0 ≤ r3.1 then
      g_X12_boils_b38 r2.1 r2.2 r3.2.2.2.2.2.2.2.2.2.2.2.2 r3.2.2.2.2.2.2.2.2.2.2.1 r4.2 r3.2.2.2.2.2.2.2.2.2.1 r3.2.2.2.2.2.2.2.1 r4.1 r3.2.2.2.2.2.2.2.2.1 r3.2.1 r3.2.2.1 r3.2.2.2.1 r3.2.2.2.2.1 r3.2.2.2.2.2.1 r3.1 0
    else
      g_X12_boils_b38 r2.1 r2.2 r3.2.2.2.2.2.2.2.2.2.2.2.2 r3.2.2.2.2.2.2.2.2.2.2.1 r4.2 r3.2.2.2.2.2.2.2.2.2.1 r3.2.2.2.2.2.2.2.1 r4.1 r3.2.2.2.2.2.2.2.2.1 r3.2.1 r3.2.2.1 r3.2.2.2.1 r3.2.2.2.2.1 r3.2.2.2.2.2.1 r3.1 2
def g_X12_lasts_b119 (t_aside_119 : Nat → Int32) (t_asideF_119 : Nat → UInt32) (t_brothOn_119 : Nat → UInt32) (t_dramsOn_119 : Nat → Int64) (t_f_119 : Nat → UInt32) (t_isBrothOn_119 : Nat → Int32) (t_numbers_119 : Nat → Int32) (t_s_119 : Nat → Int32) (t_signs_119 : Nat → Int32) (t_step_119 : Nat → Int32) (t_stepF_119 : Nat → UInt32) (t_thrown_119 : Int32) (t_tokens_119 : Int32) (t_spoons_119 : Int32) (t_mostSpoons_119 : Int32) (t_cause_119 : Int32) (t_causeDetail_119 : Int32) (x2_119 : Int32) : Option (Int32 × Int32 × Int32 × Int32 × Int32 × Int32 × Int32 × (Nat → Int32) × (Nat → Int32) × (Nat → UInt32) × (Nat → UInt32) × (Nat → Int32) × (Nat → UInt32) × (Nat → Int32) × (Nat → Int32) × (Nat → Int32) × (Nat → Int64) × (Nat → UInt32)) :=
  gb (g_X12_forgets t_aside_119 t_s_119 t_asideF_119 t_f_119) fun r2 =>
  some (x2_119, t_thrown_119, t_tokens_119, t_spoons_119, t_mostSpoons_119, t_cause_119, t_causeDetail_119, r2.1, t_aside_119, r2.2, t_asideF_119, t_step_119, t_stepF_119, t_numbers_119, t_signs_119, t_isBrothOn_119, t_dramsOn_119, t_brothOn_119)
def g_X12_lasts_b114 (p1 : Int32) (k34 : (Nat → Int32) → (Nat → UInt32) → (Nat → UInt32) → (Nat → Int64) → (Nat → UInt32) → (Nat → Int32) → (Nat → Int32) → (Nat → Int32) → (Nat → Int32) → (Nat → Int32) → (Nat → UInt32) → Int32 → Int32 → Int32 → Int32 → Int32 → Int32 → Int32 → Int32 → Option (Int32 × Int32 × Int32 × Int32 × Int32 × Int32 × Int32 × (Nat → Int32) × (Nat → Int32) × (Nat → UInt32) × (Nat → UInt32) × (Nat → Int32) × (Nat → UInt32) × (Nat → Int32) × (Nat → Int32) × (Nat → Int32) × (Nat → Int64) × (Nat → UInt32))) (t_aside_114 : Nat → Int32) (t_asideF_114 : Nat → UInt32) (t_brothOn_114 : Nat → UInt32) (t_dramsOn_114 : Nat → Int64) (t_f_114 : Nat → UInt32) (t_isBrothOn_114 : Nat → Int32) (t_numbers_114 : Nat → Int32) (t_s_114 : Nat → Int32) (t_signs_114 : Nat → Int32) (t_step_114 : Nat → Int32) (t_stepF_114 : Nat → UInt32) (t_thrown_114 : Int32) (t_tokens_114 : Int32) (t_spoons_114 : Int32) (t_mostSpoons_114 : Int32) (t_cause_114 : Int32) (t_causeDetail_114 : Int32) (x3_114 : Int32) (s0_114 : Int32) (s1_114 : Int32) : Option (Int32 × Int32 × Int32 × Int32 × Int32 × Int32 × Int32 × (Nat → Int32) × (Nat → Int32) × (Nat → UInt32) × (Nat → UInt32) × (Nat → Int32) × (Nat → UInt32) × (Nat → Int32) × (Nat → Int32) × (Nat → Int32) × (Nat → Int64) × (Nat → UInt32)) :=
  gl (s0_114 + s1_114) fun v3 =>
  k34 t_aside_114 t_asideF_114 t_brothOn_114 t_dramsOn_114 t_f_114 t_isBrothOn_114 t_numbers_114 t_s_114 t_signs_114 t_step_114 t_stepF_114 t_thrown_114 t_tokens_114 t_spoons_114 t_mostSpoons_114 t_cause_114 t_causeDetail_114 v3 x3_114
def g_X12_lasts_b103 (p1 : Int32) (k34 : (Nat → Int32) → (Nat → UInt32) → (Nat → UInt32) → (Nat → Int64) → (Nat → UInt32) → (Nat → Int32) → (Nat → Int32) → (Nat → Int32) → (Nat → Int32) → (Nat → Int32) → (Nat → UInt32) → Int32 → Int32 → Int32 → Int32 → Int32 → Int32 → Int32 → Int32 → Option (Int32 × Int32 × Int32 × Int32 × Int32 × Int32 × Int32 × (Nat → Int32) × (Nat → Int32) × (Nat → UInt32) × (Nat → UInt32) × (Nat → Int32) × (Nat → UInt32) × (Nat → Int32) × (Nat → Int32) × (Nat → Int32) × (Nat → Int64) × (Nat → UInt32))) (t_aside_103 : Nat → Int32) (t_asideF_103 : Nat → UInt32) (t_brothOn_103 : Nat → UInt32) (t_dramsOn_103 : Nat → Int64) (t_f_103 : Nat → UInt32) (t_isBrothOn_103 : Nat → Int32) (t_numbers_103 : Nat → Int32) (t_s_103 : Nat → Int32) (t_signs_103 : Nat → Int32) (t_step_103 : Nat → Int32) (t_stepF_103 : Nat → UInt32) (t_thrown_103 : Int32) (t_tokens_103 : Int32) (t_spoons_103 : Int32) (t_mostSpoons_103 : Int32) (t_cause_103 : Int32) (t_causeDetail_103 : Int32) (x2_103 : Int32) (s0_103 : Int32) : Option (Int32 × Int32 × Int32 × Int32 × Int32 × Int32 × Int32 × (Nat → Int32) × (Nat → Int32) × (Nat → UInt32) × (Nat → UInt32) × (Nat → Int32) × (Nat → UInt32) × (Nat → Int32) × (Nat → Int32) × (Nat → Int32) × (Nat → Int64) × (Nat → UInt32)) :=
  if s0_103 = 0 then
    g_X12_lasts_b114 p1 k34 t_aside_103 t_asideF_103 t_brothOn_103 t_dramsOn_103 t_f_103 t_isBrothOn_103 t_numbers_103 t_s_103 t_signs_103 t_step_103 t_stepF_103 t_thrown_103 t_tokens_103 t_spoons_103 t_mostSpoons_103 t_cause_103 t_causeDetail_103 s0_103 x2_103 0
  else
    g_X12_lasts_b114 p1 k34 t_aside_103 t_asideF_103 t_brothOn_103 t_dramsOn_103 t_f_103 t_isBrothOn_103 t_numbers_103 t_s_103 t_signs_103 t_step_103 t_stepF_103 t_thrown_103 t_tokens_103 t_spoons_103 t_mostSpoons_103 t_cause_103 t_causeDetail_103 s0_103 x2_103 1
def g_X12_lasts_b102 (p1 : Int32) (k34 : (Nat → Int32) → (Nat → UInt32) → (Nat → UInt32) → (Nat → Int64) → (Nat → UInt32) → (Nat → Int32) → (Nat → Int32) → (Nat → Int32) → (Nat → Int32) → (Nat → Int32) → (Nat → UInt32) → Int32 → Int32 → Int32 → Int32 → Int32 → Int32 → Int32 → Int32 → Option (Int32 × Int32 × Int32 × Int32 × Int32 × Int32 × Int32 × (Nat → Int32) × (Nat → Int32) × (Nat → UInt32) × (Nat → UInt32) × (Nat → Int32) × (Nat → UInt32) × (Nat → Int32) × (Nat → Int32) × (Nat → Int32) × (Nat → Int64) × (Nat → UInt32))) (t_aside_102 : Nat → Int32) (t_asideF_102 : Nat → UInt32) (t_brothOn_102 : Nat → UInt32) (t_dramsOn_102 : Nat → Int64) (t_f_102 : Nat → UInt32) (t_isBrothOn_102 : Nat → Int32) (t_numbers_102 : Nat → Int32) (t_s_102 : Nat → Int32) (t_signs_102 : Nat → Int32) (t_step_102 : Nat → Int32) (t_stepF_102 : Nat → UInt32) (t_thrown_102 : Int32) (t_tokens_102 : Int32) (t_spoons_102 : Int32) (t_mostSpoons_102 : Int32) (t_cause_102 : Int32) (t_causeDetail_102 : Int32) (x2_102 : Int32) : Option (Int32 × Int32 × Int32 × Int32 × Int32 × Int32 × Int32 × (Nat → Int32) × (Nat → Int32) × (Nat → UInt32) × (Nat → UInt32) × (Nat → Int32) × (Nat → UInt32) × (Nat → Int32) × (Nat → Int32) × (Nat → Int32) × (Nat → Int64) × (Nat → UInt32)) :=
  g_X12_lasts_b103 p1 k34 t_aside_102 t_asideF_102 t_brothOn_102 t_dramsOn_102 t_f_102 t_isBrothOn_102 t_numbers_102 t_s_102 t_signs_102 t_step_102 t_stepF_102 t_thrown_102 t_tokens_102 t_spoons_102 t_mostSpoons_102 t_cause_102 t_causeDetail_102 x2_102 0
def g_X12_lasts_b34 (p1 : Int32) : Nat → (Nat → Int32) → (Nat → UInt32) → (Nat → UInt32) → (Nat → Int64) → (Nat → UInt32) → (Nat → Int32) → (Nat → Int32) → (Nat → Int32) → (Nat → Int32) → (Nat → Int32) → (Nat → UInt32) → Int32 → Int32 → Int32 → Int32 → Int32 → Int32 → Int32 → Int32 → Option (Int32 × Int32 × Int32 × Int32 × Int32 × Int32 × Int32 × (Nat → Int32) × (Nat → Int32) × (Nat → UInt32) × (Nat → UInt32) × (Nat → Int32) × (Nat → UInt32) × (Nat → Int32) × (Nat → Int32) × (Nat → Int32) × (Nat → Int64) × (Nat → UInt32))
  | 0, _, _, _, _, _, _, _, _, _, _, _, _, _, _, _, _, _, _, _ => none
  | n + 1, t_aside_34, t_asideF_34, t_brothOn_34, t_dramsOn_34, t_f_34, t_isBrothOn_34, t_numbers_34, t_s_34, t_signs_34, t_step_34, t_stepF_34, t_thrown_34, t_tokens_34, t_spoons_34, t_mostSpoons_34, t_cause_34, t_causeDetail_34, x2_34, x3_34 =>
    if x3_34 = 0 then
      g_X12_lasts_b119 t_aside_34 t_asideF_34 t_brothOn_34 t_dramsOn_34 t_f_34 t_isBrothOn_34 t_numbers_34 t_s_34 t_signs_34 t_step_34 t_stepF_34 t_thrown_34 t_tokens_34 t_spoons_34 t_mostSpoons_34 t_cause_34 t_causeDetail_34 x2_34
    else
      if 50 ≤ x2_34 then
        g_X12_lasts_b119 t_aside_34 t_asideF_34 t_brothOn_34 t_dramsOn_34 t_f_34 t_isBrothOn_34 t_numbers_34 t_s_34 t_signs_34 t_step_34 t_stepF_34 t_thrown_34 t_tokens_34 t_spoons_34 t_mostSpoons_34 t_cause_34 t_causeDetail_34 x2_34
      else
        gc (cpok (0 : Int32) (0 : Int32) (282 : Int32) 282 282) <|
        gc (cpok (0 : Int32) (0 : Int32) (6 : Int32) 6 6) <|
        gb (g_X12_cooks t_tokens_34 t_spoons_34 t_mostSpoons_34 t_cause_34 t_causeDetail_34 t_s_34 t_numbers_34 t_signs_34 t_isBrothOn_34 t_dramsOn_34 t_f_34 t_brothOn_34 p1) fun r4 =>
        if 0 ≤ r4.1 then
          g_X12_lasts_b102 p1 (g_X12_lasts_b34 p1 n) t_aside_34 t_asideF_34 r4.2.2.2.2.2.2.2.2.2.2.2.2 r4.2.2.2.2.2.2.2.2.2.2.1 r4.2.2.2.2.2.2.2.2.2.2.2.1 r4.2.2.2.2.2.2.2.2.2.1 r4.2.2.2.2.2.2.2.1 r4.2.2.2.2.2.2.1 r4.2.2.2.2.2.2.2.2.1 (va_cpy t_s_34 t_step_34 (0 : Int32).toNatClampNeg (0 : Int32).toNatClampNeg (282 : Int32).toNatClampNeg) (va_cpy t_f_34 t_stepF_34 (0 : Int32).toNatClampNeg (0 : Int32).toNatClampNeg (6 : Int32).toNatClampNeg) t_thrown_34 r4.2.1 r4.2.2.1 r4.2.2.2.1 r4.2.2.2.2.1 r4.2.2.2.2.2.1 x2_34
        else
          gb (g_X12_unlike 282 6 (va_cpy t_s_34 t_step_34 (0 : Int32).toNatClampNeg (0 : Int32).toNatClampNeg (282 : Int32).toNatClampNeg) (va_cpy t_f_34 t_stepF_34 (0 : Int32).toNatClampNeg (0 : Int32).toNatClampNeg (6 : Int32).toNatClampNeg) r4.2.2.2.2.2.2.1 r4.2.2.2.2.2.2.2.2.2.2.2.1) fun r5 =>
          if r5 ≤ 0 then
            g_X12_lasts_b102 p1 (g_X12_lasts_b34 p1 n) t_aside_34 t_asideF_34 r4.2.2.2.2.2.2.2.2.2.2.2.2 r4.2.2.2.2.2.2.2.2.2.2.1 r4.2.2.2.2.2.2.2.2.2.2.2.1 r4.2.2.2.2.2.2.2.2.2.1 r4.2.2.2.2.2.2.2.1 r4.2.2.2.2.2.2.1 r4.2.2.2.2.2.2.2.2.1 (va_cpy t_s_34 t_step_34 (0 : Int32).toNatClampNeg (0 : Int32).toNatClampNeg (282 : Int32).toNatClampNeg) (va_cpy t_f_34 t_stepF_34 (0 : Int32).toNatClampNeg (0 : Int32).toNatClampNeg (6 : Int32).toNatClampNeg) t_thrown_34 r4.2.1 r4.2.2.1 r4.2.2.2.1 r4.2.2.2.2.1 r4.2.2.2.2.2.1 x2_34
          else
            g_X12_lasts_b103 p1 (g_X12_lasts_b34 p1 n) t_aside_34 t_asideF_34 r4.2.2.2.2.2.2.2.2.2.2.2.2 r4.2.2.2.2.2.2.2.2.2.2.1 r4.2.2.2.2.2.2.2.2.2.2.2.1 r4.2.2.2.2.2.2.2.2.2.1 r4.2.2.2.2.2.2.2.1 r4.2.2.2.2.2.2.1 r4.2.2.2.2.2.2.2.2.1 (va_cpy t_s_34 t_step_34 (0 : Int32).toNatClampNeg (0 : Int32).toNatClampNeg (282 : Int32).toNatClampNeg) (va_cpy t_f_34 t_stepF_34 (0 : Int32).toNatClampNeg (0 : Int32).toNatClampNeg (6 : Int32).toNatClampNeg) t_thrown_34 r4.2.1 r4.2.2.1 r4.2.2.2.1 r4.2.2.2.2.1 r4.2.2.2.2.2.1 x2_34 1
def g_X12_lasts_b14 (t_tokens : Int32) (t_spoons : Int32) (t_mostSpoons : Int32) (t_cause : Int32) (t_causeDetail : Int32) (t_s : Nat → Int32) (t_aside : Nat → Int32) (t_f : Nat → UInt32) (t_asideF : Nat → UInt32) (t_step : Nat → Int32) (t_stepF : Nat → UInt32) (t_numbers : Nat → Int32) (t_signs : Nat → Int32) (t_isBrothOn : Nat → Int32) (t_dramsOn : Nat → Int64) (t_brothOn : Nat → UInt32) (p1 : Int32) (s1_14 : Int32) : Option (Int32 × Int32 × Int32 × Int32 × Int32 × Int32 × Int32 × (Nat → Int32) × (Nat → Int32) × (Nat → UInt32) × (Nat → UInt32) × (Nat → Int32) × (Nat → UInt32) × (Nat → Int32) × (Nat → Int32) × (Nat → Int32) × (Nat → Int64) × (Nat → UInt32)) :=
  if s1_14 ≤ 0 then
    gb (g_X12_thinks t_s t_aside t_f t_asideF) fun r6 =>
    g_X12_lasts_b34 p1 100 r6.1 r6.2 t_brothOn t_dramsOn t_f t_isBrothOn t_numbers t_s t_signs t_step t_stepF s1_14 t_tokens t_spoons t_mostSpoons t_cause t_causeDetail 0 1
  else
    some (0, s1_14, t_tokens, t_spoons, t_mostSpoons, t_cause, t_causeDetail, t_s, t_aside, t_f, t_asideF, t_step, t_stepF, t_numbers, t_signs, t_isBrothOn, t_dramsOn, t_brothOn)
def g_X12_lasts (t_thrown : Int32) (t_tokens : Int32) (t_spoons : Int32) (t_mostSpoons : Int32) (t_cause : Int32) (t_causeDetail : Int32) (t_s : Nat → Int32) (t_aside : Nat → Int32) (t_f : Nat → UInt32) (t_asideF : Nat → UInt32) (t_step : Nat → Int32) (t_stepF : Nat → UInt32) (t_numbers : Nat → Int32) (t_signs : Nat → Int32) (t_isBrothOn : Nat → Int32) (t_dramsOn : Nat → Int64) (t_brothOn : Nat → UInt32) (p1 : Int32) : Option (Int32 × Int32 × Int32 × Int32 × Int32 × Int32 × Int32 × (Nat → Int32) × (Nat → Int32) × (Nat → UInt32) × (Nat → UInt32) × (Nat → Int32) × (Nat → UInt32) × (Nat → Int32) × (Nat → Int32) × (Nat → Int32) × (Nat → Int64) × (Nat → UInt32)) :=
  gb (g_X12_isSpell t_s p1) fun r1 =>
  if r1 = 0 then
    g_X12_lasts_b14 t_tokens t_spoons t_mostSpoons t_cause t_causeDetail t_s t_aside t_f t_asideF t_step t_stepF t_numbers t_signs t_isBrothOn t_dramsOn t_brothOn p1 1
  else
    g_X12_lasts_b14 t_tokens t_spoons t_mostSpoons t_cause t_causeDetail t_s t_aside t_f t_asideF t_step t_stepF t_numbers t_signs t_isBrothOn t_dramsOn t_brothOn p1 0
def g_X12_isAhead_b42 (p1 : Int32) (p2 : Int32) (t_numbers_42 : Nat → Int32) (t_signs_42 : Nat → Int32) (t_tokens_42 : Int32) (t_spoons_42 : Int32) (t_mostSpoons_42 : Int32) (s0_42 : Int32) : Option (Int32 × Int32 × Int32 × Int32 × (Nat → Int32) × (Nat → Int32)) :=
  if 0 < s0_42 then
    some (1, t_tokens_42, t_spoons_42, t_mostSpoons_42, t_numbers_42, t_signs_42)
  else
    if s0_42 = 0 then
      if p2 ≤ p1 then
        some (0, t_tokens_42, t_spoons_42, t_mostSpoons_42, t_numbers_42, t_signs_42)
      else
        some (1, t_tokens_42, t_spoons_42, t_mostSpoons_42, t_numbers_42, t_signs_42)
    else
      some (0, t_tokens_42, t_spoons_42, t_mostSpoons_42, t_numbers_42, t_signs_42)
def g_X12_isAhead (t_tokens : Int32) (t_spoons : Int32) (t_mostSpoons : Int32) (t_s : Nat → Int32) (t_numbers : Nat → Int32) (t_signs : Nat → Int32) (p1 : Int32) (p2 : Int32) : Option (Int32 × Int32 × Int32 × Int32 × (Nat → Int32) × (Nat → Int32)) :=
  gb (g_X12_storesOf t_tokens t_spoons t_mostSpoons t_s t_numbers t_signs p1) fun r1 =>
  gb (g_X12_storesOf r1.2.1 r1.2.2.1 r1.2.2.2.1 t_s r1.2.2.2.2.1 r1.2.2.2.2.2 p2) fun r2 =>
  if r2.2.1 = r1.2.1 then
    g_X12_isAhead_b42 p1 p2 r2.2.2.2.2.1 r2.2.2.2.2.2 r2.2.1 r2.2.2.1 r2.2.2.2.1 (r1.1 - r2.1)
  else
    g_X12_isAhead_b42 p1 p2 r2.2.2.2.2.1 r2.2.2.2.2.2 r2.2.1 r2.2.2.1 r2.2.2.2.1 (r2.2.1 - r1.2.1)
def g_X12_ranked_b92 (t_s : Nat → Int32) (p1 : Int32) (k21 : (Nat → Int32) → (Nat → Int32) → Int32 → Int32 → Int32 → Int32 → Int32 → Int32 → Option (Int32 × Int32 × Int32 × Int32 × Int32 × (Nat → Int32) × (Nat → Int32))) (t_numbers_92 : Nat → Int32) (t_signs_92 : Nat → Int32) (t_thrown_92 : Int32) (t_tokens_92 : Int32) (t_spoons_92 : Int32) (t_mostSpoons_92 : Int32) (x3_92 : Int32) (s0_92 : Int32) : Option (Int32 × Int32 × Int32 × Int32 × Int32 × (Nat → Int32) × (Nat → Int32)) :=
  gl (x3_92 + 1) fun v2 =>
  k21 t_numbers_92 t_signs_92 t_thrown_92 t_tokens_92 t_spoons_92 t_mostSpoons_92 s0_92 v2
def g_X12_ranked_b72 (t_s : Nat → Int32) (p1 : Int32) (k21 : (Nat → Int32) → (Nat → Int32) → Int32 → Int32 → Int32 → Int32 → Int32 → Int32 → Option (Int32 × Int32 × Int32 × Int32 × Int32 × (Nat → Int32) × (Nat → Int32))) (k44 : (Nat → Int32) → (Nat → Int32) → Int32 → Int32 → Int32 → Int32 → Int32 → Int32 → Int32 → Int32 → Option (Int32 × Int32 × Int32 × Int32 × Int32 × (Nat → Int32) × (Nat → Int32))) (t_numbers_72 : Nat → Int32) (t_signs_72 : Nat → Int32) (t_thrown_72 : Int32) (t_tokens_72 : Int32) (t_spoons_72 : Int32) (t_mostSpoons_72 : Int32) (x2_72 : Int32) (x3_72 : Int32) (x5_72 : Int32) (s0_72 : Int32) (s1_72 : Int32) : Option (Int32 × Int32 × Int32 × Int32 × Int32 × (Nat → Int32) × (Nat → Int32)) :=
  gl (s0_72 + s1_72) fun v3 =>
  gl (x5_72 + 1) fun v4 =>
  k44 t_numbers_72 t_signs_72 t_thrown_72 t_tokens_72 t_spoons_72 t_mostSpoons_72 x2_72 x3_72 v3 v4
def g_X12_ranked_b44 (t_s : Nat → Int32) (p1 : Int32) (k21 : (Nat → Int32) → (Nat → Int32) → Int32 → Int32 → Int32 → Int32 → Int32 → Int32 → Option (Int32 × Int32 × Int32 × Int32 × Int32 × (Nat → Int32) × (Nat → Int32))) : Nat → (Nat → Int32) → (Nat → Int32) → Int32 → Int32 → Int32 → Int32 → Int32 → Int32 → Int32 → Int32 → Option (Int32 × Int32 × Int32 × Int32 × Int32 × (Nat → Int32) × (Nat → Int32))
  | 0, _, _, _, _, _, _, _, _, _, _ => none
  | n + 1, t_numbers_44, t_signs_44, t_thrown_44, t_tokens_44, t_spoons_44, t_mostSpoons_44, x2_44, x3_44, x4_44, x5_44 =>
    gc (inb (1 : Int32) 282) <|
    if (t_s (1 : Int32).toNatClampNeg) ≤ x5_44 then
      if x4_44 = p1 then
        g_X12_ranked_b92 t_s p1 k21 t_numbers_44 t_signs_44 t_thrown_44 t_tokens_44 t_spoons_44 t_mostSpoons_44 x3_44 x3_44
      else
        g_X12_ranked_b92 t_s p1 k21 t_numbers_44 t_signs_44 t_thrown_44 t_tokens_44 t_spoons_44 t_mostSpoons_44 x3_44 x2_44
    else
      gb (g_X12_isAhead t_tokens_44 t_spoons_44 t_mostSpoons_44 t_s t_numbers_44 t_signs_44 x5_44 x3_44) fun r5 =>
      if r5.1 = 0 then
        g_X12_ranked_b72 t_s p1 k21 (g_X12_ranked_b44 t_s p1 k21 n) r5.2.2.2.2.1 r5.2.2.2.2.2 t_thrown_44 r5.2.1 r5.2.2.1 r5.2.2.2.1 x2_44 x3_44 x5_44 x4_44 0
      else
        g_X12_ranked_b72 t_s p1 k21 (g_X12_ranked_b44 t_s p1 k21 n) r5.2.2.2.2.1 r5.2.2.2.2.2 t_thrown_44 r5.2.1 r5.2.2.1 r5.2.2.2.1 x2_44 x3_44 x5_44 x4_44 1
def g_X12_ranked_b21 (t_s : Nat → Int32) (p1 : Int32) : Nat → (Nat → Int32) → (Nat → Int32) → Int32 → Int32 → Int32 → Int32 → Int32 → Int32 → Option (Int32 × Int32 × Int32 × Int32 × Int32 × (Nat → Int32) × (Nat → Int32))
  | 0, _, _, _, _, _, _, _, _ => none
  | n + 1, t_numbers_21, t_signs_21, t_thrown_21, t_tokens_21, t_spoons_21, t_mostSpoons_21, x2_21, x3_21 =>
    gc (inb (1 : Int32) 282) <|
    if (t_s (1 : Int32).toNatClampNeg) ≤ x3_21 then
      some (x2_21, t_thrown_21, t_tokens_21, t_spoons_21, t_mostSpoons_21, t_numbers_21, t_signs_21)
    else
      if t_thrown_21 = 0 then
        g_X12_ranked_b44 t_s p1 (g_X12_ranked_b21 t_s p1 n) 100 t_numbers_21 t_signs_21 t_thrown_21 t_tokens_21 t_spoons_21 t_mostSpoons_21 x2_21 x3_21 0 0
      else
        some (x2_21, t_thrown_21, t_tokens_21, t_spoons_21, t_mostSpoons_21, t_numbers_21, t_signs_21)
def g_X12_ranked_b14 (t_tokens : Int32) (t_spoons : Int32) (t_mostSpoons : Int32) (t_s : Nat → Int32) (t_numbers : Nat → Int32) (t_signs : Nat → Int32) (p1 : Int32) (s1_14 : Int32) : Option (Int32 × Int32 × Int32 × Int32 × Int32 × (Nat → Int32) × (Nat → Int32)) :=
  g_X12_ranked_b21 t_s p1 100 t_numbers t_signs s1_14 t_tokens t_spoons t_mostSpoons 0 0
def g_X12_ranked (t_thrown : Int32) (t_tokens : Int32) (t_spoons : Int32) (t_mostSpoons : Int32) (t_s : Nat → Int32) (t_numbers : Nat → Int32) (t_signs : Nat → Int32) (p1 : Int32) : Option (Int32 × Int32 × Int32 × Int32 × Int32 × (Nat → Int32) × (Nat → Int32)) :=
  gb (g_X12_isSpell t_s p1) fun r1 =>
  if r1 = 0 then
    g_X12_ranked_b14 t_tokens t_spoons t_mostSpoons t_s t_numbers t_signs p1 1
  else
    g_X12_ranked_b14 t_tokens t_spoons t_mostSpoons t_s t_numbers t_signs p1 0
def g_X12_widest_b91 (x1_91 : Int32) (s1_91 : Int32) : Option (Int32 × Int32) :=
  if s1_91 ≤ 0 then
    some (x1_91, s1_91)
  else
    some (0, s1_91)
def g_X12_widest_b74 (t_s : Nat → Int32) (k4 : Int32 → Int32 → Option (Int32 × Int32)) (x2_74 : Int32) (s0_74 : Int32) : Option (Int32 × Int32) :=
  gl (x2_74 + 1) fun v1 =>
  k4 s0_74 v1
def g_X12_widest_b73 (t_s : Nat → Int32) (k4 : Int32 → Int32 → Option (Int32 × Int32)) (x1_73 : Int32) (x2_73 : Int32) : Option (Int32 × Int32) :=
  g_X12_widest_b74 t_s k4 x2_73 x1_73
def g_X12_widest_b54 (t_s : Nat → Int32) (k4 : Int32 → Int32 → Option (Int32 × Int32)) (x1_54 : Int32) (x2_54 : Int32) (s0_54 : Int32) : Option (Int32 × Int32) :=
  gb (g_X12_isBroth t_s x2_54) fun r2 =>
  if r2 = 0 then
    if s0_54 = 0 then
      g_X12_widest_b73 t_s k4 x1_54 x2_54
    else
      g_X12_widest_b74 t_s k4 x2_54 x2_54
  else
    g_X12_widest_b73 t_s k4 x1_54 x2_54
def g_X12_widest_b49 (t_s : Nat → Int32) (k4 : Int32 → Int32 → Option (Int32 × Int32)) (x1_49 : Int32) (x2_49 : Int32) : Option (Int32 × Int32) :=
  g_X12_widest_b54 t_s k4 x1_49 x2_49 1
def g_X12_widest_b4 (t_s : Nat → Int32) : Nat → Int32 → Int32 → Option (Int32 × Int32)
  | 0, _, _ => none
  | n + 1, x1_4, x2_4 =>
    gc (inb (0 : Int32) 282) <|
    if (t_s (0 : Int32).toNatClampNeg) ≤ x2_4 then
      if 0 ≤ x1_4 then
        g_X12_widest_b91 x1_4 0
      else
        g_X12_widest_b91 x1_4 1
    else
      gb (g_X12_of t_s x2_4 (2 : Int32)) fun r3 =>
      gb (g_X12_of t_s x2_4 (1 : Int32)) fun r4 =>
      gl (r3 - r4) fun v5 =>
      if x1_4 < 0 then
        g_X12_widest_b49 t_s (g_X12_widest_b4 t_s n) x1_4 x2_4
      else
        gb (g_X12_of t_s x1_4 (2 : Int32)) fun r6 =>
        gb (g_X12_of t_s x1_4 (1 : Int32)) fun r7 =>
        if v5 ≤ (r6 - r7) then
          g_X12_widest_b54 t_s (g_X12_widest_b4 t_s n) x1_4 x2_4 0
        else
          g_X12_widest_b49 t_s (g_X12_widest_b4 t_s n) x1_4 x2_4
def g_X12_widest (t_thrown : Int32) (t_s : Nat → Int32) : Option (Int32 × Int32) :=
  g_X12_widest_b4 t_s 100 (-1) 0
def g_X12_isSafe (t_thrown : Int32) : Option (Int32 × Int32) :=
  some (1, 0)
def g_X12_says (t_lineMany : Int32) (t_line : Nat → Int32) (p1 : Int32) : Option (Int32 × (Nat → Int32)) :=
  gc (inb t_lineMany 80) <|
  gl (t_lineMany + 1) fun v1 =>
  some (v1, (upd t_line t_lineMany.toNatClampNeg (vp_nar .char p1)))
def g_X12_saysNumber : Nat → Int32 → (Nat → Int32) → Int64 → Option (Int32 × (Nat → Int32))
  | 0, _, _, _ => none
  | n + 1, t_lineMany, t_line, p1 =>
    if 0 ≤ (lg_cmp p1 0) then
      gl (if 0 < p1 then p1 else -p1) fun v1 =>
      if (lg_cmp v1 (9 : Int64)) ≤ 0 then
        gc (decide (¬ (10 : Int64) = 0)) <|
        gb (g_X12_says t_lineMany t_line (((((48 : Int64) + (v1 - v1 / (10 : Int64) * (10 : Int64))).toInt32).toUInt32 % 65536).toInt32)) fun r2 =>
        some (r2.1, r2.2)
      else
        gc (decide (¬ (10 : Int64) = 0)) <|
        gb (g_X12_saysNumber n t_lineMany t_line (v1 / (10 : Int64))) fun r3 =>
        gc (decide (¬ (10 : Int64) = 0)) <|
        gb (g_X12_says r3.1 r3.2 (((((48 : Int64) + (v1 - v1 / (10 : Int64) * (10 : Int64))).toInt32).toUInt32 % 65536).toInt32)) fun r4 =>
        some (r4.1, r4.2)
    else
      gb (g_X12_says t_lineMany t_line (45 : Int32)) fun r5 =>
      gl (if 0 < p1 then p1 else -p1) fun v6 =>
      if (lg_cmp v6 (9 : Int64)) ≤ 0 then
        gc (decide (¬ (10 : Int64) = 0)) <|
        gb (g_X12_says r5.1 r5.2 (((((48 : Int64) + (v6 - v6 / (10 : Int64) * (10 : Int64))).toInt32).toUInt32 % 65536).toInt32)) fun r7 =>
        some (r7.1, r7.2)
      else
        gc (decide (¬ (10 : Int64) = 0)) <|
        gb (g_X12_saysNumber n r5.1 r5.2 (v6 / (10 : Int64))) fun r8 =>
        gc (decide (¬ (10 : Int64) = 0)) <|
        gb (g_X12_says r8.1 r8.2 (((((48 : Int64) + (v6 - v6 / (10 : Int64) * (10 : Int64))).toInt32).toUInt32 % 65536).toInt32)) fun r9 =>
        some (r9.1, r9.2)
def g_X12_tell_b41 (t_s : Nat → Int32) : Nat → (Nat → Int32) → Int32 → Int32 → Int32 → Int32 → Option (Int32 × Int32 × Int32 × (Nat → Int32))
  | 0, _, _, _, _, _ => none
  | n + 1, t_line_41, t_thrown_41, t_lineMany_41, x2_41, x3_41 =>
    gc (inb (x2_41 + 1) 282) <|
    if (t_s (x2_41 + 1).toNatClampNeg) ≤ x3_41 then
      some (t_lineMany_41, t_thrown_41, t_lineMany_41, t_line_41)
    else
      gc (inb ((x2_41 + 2) + x3_41) 282) <|
      gb (g_X12_says t_lineMany_41 t_line_41 (((t_s ((x2_41 + 2) + x3_41).toNatClampNeg).toUInt32 % 65536).toInt32)) fun r2 =>
      gl (x3_41 + 1) fun v3 =>
      (g_X12_tell_b41 t_s n) r2.2 t_thrown_41 r2.1 x2_41 v3
def g_X12_tell_b14 (t_lineMany : Int32) (t_s : Nat → Int32) (t_line : Nat → Int32) (p1 : Int32) (s1_14 : Int32) : Option (Int32 × Int32 × Int32 × (Nat → Int32)) :=
  if s1_14 ≤ 0 then
    gl (34 + (62 * p1)) fun v4 =>
    g_X12_tell_b41 t_s 100 t_line s1_14 0 v4 0
  else
    some (0, s1_14, t_lineMany, t_line)
def g_X12_tell (t_thrown : Int32) (t_lineMany : Int32) (t_s : Nat → Int32) (t_line : Nat → Int32) (p1 : Int32) : Option (Int32 × Int32 × Int32 × (Nat → Int32)) :=
  gb (g_X12_isSpell t_s p1) fun r1 =>
  if r1 = 0 then
    g_X12_tell_b14 t_lineMany t_s t_line p1 1
  else
    g_X12_tell_b14 t_lineMany t_s t_line p1 0
def g_X12_tellCauldron_b14 (t_lineMany : Int32) (t_s : Nat → Int32) (t_line : Nat → Int32) (t_f : Nat → UInt32) (p1 : Int32) (s1_14 : Int32) : Option (Int32 × Int32 × Int32 × (Nat → Int32)) :=
  if s1_14 ≤ 0 then
    gb (g_X12_says 0 t_line (((97 + p1).toUInt32 % 65536).toInt32)) fun r2 =>
    gb (g_X12_says r2.1 r2.2 (58 : Int32)) fun r3 =>
    gb (g_X12_content t_s t_f p1) fun r4 =>
    gb (g_X12_saysNumber 12 r3.1 r3.2 r4.toInt64) fun r5 =>
    gb (g_X12_isBroth t_s p1) fun r6 =>
    if r6 = 0 then
      gb (g_X12_says r5.1 r5.2 (91 : Int32)) fun r7 =>
      gb (g_X12_of t_s p1 (1 : Int32)) fun r8 =>
      gb (g_X12_saysNumber 12 r7.1 r7.2 r8.toInt64) fun r9 =>
      gb (g_X12_says r9.1 r9.2 (44 : Int32)) fun r10 =>
      gb (g_X12_of t_s p1 (2 : Int32)) fun r11 =>
      gb (g_X12_saysNumber 12 r10.1 r10.2 r11.toInt64) fun r12 =>
      gb (g_X12_says r12.1 r12.2 (93 : Int32)) fun r13 =>
      some (r13.1, s1_14, r13.1, r13.2)
    else
      gb (g_X12_says r5.1 r5.2 (126 : Int32)) fun r14 =>
      some (r14.1, s1_14, r14.1, r14.2)
  else
    some (0, s1_14, t_lineMany, t_line)
def g_X12_tellCauldron (t_thrown : Int32) (t_lineMany : Int32) (t_s : Nat → Int32) (t_line : Nat → Int32) (t_f : Nat → UInt32) (p1 : Int32) : Option (Int32 × Int32 × Int32 × (Nat → Int32)) :=
  gb (g_X12_isCauldron t_s p1) fun r1 =>
  if r1 = 0 then
    g_X12_tellCauldron_b14 t_lineMany t_s t_line t_f p1 1
  else
    g_X12_tellCauldron_b14 t_lineMany t_s t_line t_f p1 0
def g_X12_character_b22 (t_line : Nat → Int32) (p1 : Int32) (s1_22 : Int32) : Option (Int32 × Int32) :=
  if s1_22 ≤ 0 then
    gc (inb p1 80) <|
    gl (t_line p1.toNatClampNeg) fun v2 =>
    gc (cho v2) <|
    some (v2, s1_22)
  else
    some (32, s1_22)
def g_X12_character (t_thrown : Int32) (t_lineMany : Int32) (t_line : Nat → Int32) (p1 : Int32) : Option (Int32 × Int32) :=
  gb (g_X12_in p1.toInt64 (0 : Int64) ((t_lineMany - 1).toInt64)) fun r1 =>
  if r1 = 0 then
    g_X12_character_b22 t_line p1 1
  else
    g_X12_character_b22 t_line p1 0
def g_X12_meanBits_b60 (t_s : Nat → Int32) (t_f : Nat → UInt32) (k25 : Int32 → Int32 → UInt64 → Int32 → Option (Int64 × Int32)) (t_thrown_60 : Int32) (x1_60 : Int32) (x4_60 : Int32) (s0_60 : UInt64) (s1_60 : UInt64) : Option (Int64 × Int32) :=
  gc (n64 (FP.dadd s0_60 s1_60)) <|
  gl (FP.dadd s0_60 s1_60) fun v2 =>
  gl (x4_60 + 1) fun v3 =>
  k25 t_thrown_60 x1_60 v2 v3
def g_X12_meanBits_b25 (t_s : Nat → Int32) (t_f : Nat → UInt32) : Nat → Int32 → Int32 → UInt64 → Int32 → Option (Int64 × Int32)
  | 0, _, _, _, _ => none
  | n + 1, t_thrown_25, x1_25, x2_25, x4_25 =>
    if x1_25 ≤ x4_25 then
      if t_thrown_25 ≤ 0 then
        gc (n64 (FP.ddiv x2_25 (FP.i2d x1_25))) <|
        gb (g_Jxe99ae_doubleToLongBits_ccdee (FP.ddiv x2_25 (FP.i2d x1_25))) fun r4 =>
        some (r4, t_thrown_25)
      else
        some (0, t_thrown_25)
    else
      gb (g_X12_isBroth t_s x4_25) fun r5 =>
      if r5 = 0 then
        gb (g_X12_of t_s x4_25 (3 : Int32)) fun r6 =>
        g_X12_meanBits_b60 t_s t_f (g_X12_meanBits_b25 t_s t_f n) t_thrown_25 x1_25 x4_25 x2_25 (FP.i2d r6)
      else
        gc (inb x4_25 6) <|
        gc (n64 (FP.f2d (t_f x4_25.toNatClampNeg))) <|
        g_X12_meanBits_b60 t_s t_f (g_X12_meanBits_b25 t_s t_f n) t_thrown_25 x1_25 x4_25 x2_25 (FP.f2d (t_f x4_25.toNatClampNeg))
def g_X12_meanBits_b17 (t_s : Nat → Int32) (t_f : Nat → UInt32) (x1_17 : Int32) (s1_17 : Int32) : Option (Int64 × Int32) :=
  g_X12_meanBits_b25 t_s t_f 100 s1_17 x1_17 FP.dconst0 0
def g_X12_meanBits (t_thrown : Int32) (t_s : Nat → Int32) (t_f : Nat → UInt32) : Option (Int64 × Int32) :=
  gc (inb (0 : Int32) 282) <|
  gl (t_s (0 : Int32).toNatClampNeg) fun v1 =>
  if v1 = 0 then
    g_X12_meanBits_b17 t_s t_f v1 1
  else
    g_X12_meanBits_b17 t_s t_f v1 0
def g_X12_typedShare_b17 (t_tokens : Int32) (t_spoons : Int32) (t_mostSpoons : Int32) (t_storeMany : Int32) (t_s : Nat → Int32) (t_numbers : Nat → Int32) (t_signs : Nat → Int32) (t_lowOn : Nat → Int64) (t_highOn : Nat → Int64) (t_isBrothOn : Nat → Int32) (t_lowStored : Nat → Int64) (t_highStored : Nat → Int64) (t_isBrothStored : Nat → Int32) (x1_17 : Int32) (s1_17 : Int32) : Option (UInt32 × Int32 × Int32 × Int32 × Int32 × Int32 × (Nat → Int32) × (Nat → Int32) × (Nat → Int64) × (Nat → Int64) × (Nat → Int32) × (Nat → Int64) × (Nat → Int64) × (Nat → Int32)) :=
  if s1_17 ≤ 0 then
    gb (g_X12_typedMany t_tokens t_spoons t_mostSpoons t_storeMany t_s t_numbers t_signs t_lowOn t_highOn t_isBrothOn t_lowStored t_highStored t_isBrothStored) fun r2 =>
    gc (n32 (FP.fdiv (FP.i2f r2.1) (FP.i2f x1_17))) <|
    gl (FP.fdiv (FP.i2f r2.1) (FP.i2f x1_17)) fun v3 =>
    some (v3, s1_17, r2.2.1, r2.2.2.1, r2.2.2.2.1, r2.2.2.2.2.1, r2.2.2.2.2.2.1, r2.2.2.2.2.2.2.1, r2.2.2.2.2.2.2.2.1, r2.2.2.2.2.2.2.2.2.1, r2.2.2.2.2.2.2.2.2.2.1, r2.2.2.2.2.2.2.2.2.2.2.1, r2.2.2.2.2.2.2.2.2.2.2.2.1, r2.2.2.2.2.2.2.2.2.2.2.2.2)
  else
    some (FP.fconst0, s1_17, t_tokens, t_spoons, t_mostSpoons, t_storeMany, t_numbers, t_signs, t_lowOn, t_highOn, t_isBrothOn, t_lowStored, t_highStored, t_isBrothStored)
def g_X12_typedShare (t_thrown : Int32) (t_tokens : Int32) (t_spoons : Int32) (t_mostSpoons : Int32) (t_storeMany : Int32) (t_s : Nat → Int32) (t_numbers : Nat → Int32) (t_signs : Nat → Int32) (t_lowOn : Nat → Int64) (t_highOn : Nat → Int64) (t_isBrothOn : Nat → Int32) (t_lowStored : Nat → Int64) (t_highStored : Nat → Int64) (t_isBrothStored : Nat → Int32) : Option (UInt32 × Int32 × Int32 × Int32 × Int32 × Int32 × (Nat → Int32) × (Nat → Int32) × (Nat → Int64) × (Nat → Int64) × (Nat → Int32) × (Nat → Int64) × (Nat → Int64) × (Nat → Int32)) :=
  gc (inb (1 : Int32) 282) <|
  gl (t_s (1 : Int32).toNatClampNeg) fun v1 =>
  if v1 = 0 then
    g_X12_typedShare_b17 t_tokens t_spoons t_mostSpoons t_storeMany t_s t_numbers t_signs t_lowOn t_highOn t_isBrothOn t_lowStored t_highStored t_isBrothStored v1 1
  else
    g_X12_typedShare_b17 t_tokens t_spoons t_mostSpoons t_storeMany t_s t_numbers t_signs t_lowOn t_highOn t_isBrothOn t_lowStored t_highStored t_isBrothStored v1 0
def g_X12_all_b34 (t_s : Nat → Int32) (p1 : Int32) (k4 : Int32 → Int32 → Option (Int32)) (x3_34 : Int32) (s0_34 : Int32) (s1_34 : Int32) : Option (Int32) :=
  gl (s0_34 + s1_34) fun v1 =>
  gl (x3_34 + 1) fun v2 =>
  k4 v1 v2
def g_X12_all_b4 (t_s : Nat → Int32) (p1 : Int32) : Nat → Int32 → Int32 → Option (Int32)
  | 0, _, _ => none
  | n + 1, x2_4, x3_4 =>
    gc (inb (0 : Int32) 282) <|
    if (t_s (0 : Int32).toNatClampNeg) ≤ x3_4 then
      some (x2_4)
    else
      if p1 = 0 then
        gb (g_X12_of t_s x3_4 (0 : Int32)) fun r3 =>
        g_X12_all_b34 t_s p1 (g_X12_all_b4 t_s p1 n) x3_4 x2_4 r3
      else
        gb (g_X12_of t_s x3_4 (3 : Int32)) fun r4 =>
        g_X12_all_b34 t_s p1 (g_X12_all_b4 t_s p1 n) x3_4 x2_4 r4
def g_X12_all (t_s : Nat → Int32) (p1 : Int32) : Option (Int32) :=
  g_X12_all_b4 t_s p1 100 0 0
def g_X12_account_b93 (t_tokens : Int32) (t_spoons : Int32) (t_mostSpoons : Int32) (t_storeMany : Int32) (t_s : Nat → Int32) (t_numbers : Nat → Int32) (t_signs : Nat → Int32) (t_lowOn : Nat → Int64) (t_highOn : Nat → Int64) (t_isBrothOn : Nat → Int32) (t_lowStored : Nat → Int64) (t_highStored : Nat → Int64) (t_isBrothStored : Nat → Int32) (t_thrown_93 : Int32) (s1_93 : Int32) : Option (Int32 × Int32 × Int32 × Int32 × Int32 × Int32 × (Nat → Int32) × (Nat → Int32) × (Nat → Int64) × (Nat → Int64) × (Nat → Int32) × (Nat → Int64) × (Nat → Int64) × (Nat → Int32)) :=
  gb (g_X12_all t_s s1_93) fun r2 =>
  some (r2, t_thrown_93, t_tokens, t_spoons, t_mostSpoons, t_storeMany, t_numbers, t_signs, t_lowOn, t_highOn, t_isBrothOn, t_lowStored, t_highStored, t_isBrothStored)
def g_X12_account_b81 (t_tokens : Int32) (t_spoons : Int32) (t_mostSpoons : Int32) (t_storeMany : Int32) (t_s : Nat → Int32) (t_numbers : Nat → Int32) (t_signs : Nat → Int32) (t_lowOn : Nat → Int64) (t_highOn : Nat → Int64) (t_isBrothOn : Nat → Int32) (t_lowStored : Nat → Int64) (t_highStored : Nat → Int64) (t_isBrothStored : Nat → Int32) (p1 : Int32) (t_thrown_81 : Int32) : Option (Int32 × Int32 × Int32 × Int32 × Int32 × Int32 × (Nat → Int32) × (Nat → Int32) × (Nat → Int64) × (Nat → Int64) × (Nat → Int32) × (Nat → Int64) × (Nat → Int64) × (Nat → Int32)) :=
  if p1 = 7 then
    g_X12_account_b93 t_tokens t_spoons t_mostSpoons t_storeMany t_s t_numbers t_signs t_lowOn t_highOn t_isBrothOn t_lowStored t_highStored t_isBrothStored t_thrown_81 1
  else
    g_X12_account_b93 t_tokens t_spoons t_mostSpoons t_storeMany t_s t_numbers t_signs t_lowOn t_highOn t_isBrothOn t_lowStored t_highStored t_isBrothStored t_thrown_81 0
def g_X12_account_b18 (t_pastMany : Int32) (t_boiled : Int32) (t_length : Int32) (t_tokens : Int32) (t_spoons : Int32) (t_mostSpoons : Int32) (t_storeMany : Int32) (t_s : Nat → Int32) (t_numbers : Nat → Int32) (t_signs : Nat → Int32) (t_lowOn : Nat → Int64) (t_highOn : Nat → Int64) (t_isBrothOn : Nat → Int32) (t_lowStored : Nat → Int64) (t_highStored : Nat → Int64) (t_isBrothStored : Nat → Int32) (p1 : Int32) (s1_18 : Int32) : Option (Int32 × Int32 × Int32 × Int32 × Int32 × Int32 × (Nat → Int32) × (Nat → Int32) × (Nat → Int64) × (Nat → Int64) × (Nat → Int32) × (Nat → Int64) × (Nat → Int64) × (Nat → Int32)) :=
  if s1_18 ≤ 0 then
    if p1 = 2 then
      gb (g_X12_typedMany t_tokens t_spoons t_mostSpoons t_storeMany t_s t_numbers t_signs t_lowOn t_highOn t_isBrothOn t_lowStored t_highStored t_isBrothStored) fun r3 =>
      some (r3.1, s1_18, r3.2.1, r3.2.2.1, r3.2.2.2.1, r3.2.2.2.2.1, r3.2.2.2.2.2.1, r3.2.2.2.2.2.2.1, r3.2.2.2.2.2.2.2.1, r3.2.2.2.2.2.2.2.2.1, r3.2.2.2.2.2.2.2.2.2.1, r3.2.2.2.2.2.2.2.2.2.2.1, r3.2.2.2.2.2.2.2.2.2.2.2.1, r3.2.2.2.2.2.2.2.2.2.2.2.2)
    else
      if p1 = 3 then
        g_X12_account_b81 t_tokens t_spoons t_mostSpoons t_storeMany t_s t_numbers t_signs t_lowOn t_highOn t_isBrothOn t_lowStored t_highStored t_isBrothStored p1 s1_18
      else
        if p1 = 4 then
          gc (inb (2 : Int32) 282) <|
          gl (t_s (2 : Int32).toNatClampNeg) fun v4 =>
          some (v4, s1_18, t_tokens, t_spoons, t_mostSpoons, t_storeMany, t_numbers, t_signs, t_lowOn, t_highOn, t_isBrothOn, t_lowStored, t_highStored, t_isBrothStored)
        else
          if p1 = 5 then
            gc (inb (3 : Int32) 282) <|
            gl (t_s (3 : Int32).toNatClampNeg) fun v5 =>
            some (v5, s1_18, t_tokens, t_spoons, t_mostSpoons, t_storeMany, t_numbers, t_signs, t_lowOn, t_highOn, t_isBrothOn, t_lowStored, t_highStored, t_isBrothStored)
          else
            if p1 = 6 then
              some (t_boiled, s1_18, t_tokens, t_spoons, t_mostSpoons, t_storeMany, t_numbers, t_signs, t_lowOn, t_highOn, t_isBrothOn, t_lowStored, t_highStored, t_isBrothStored)
            else
              if p1 = 7 then
                g_X12_account_b81 t_tokens t_spoons t_mostSpoons t_storeMany t_s t_numbers t_signs t_lowOn t_highOn t_isBrothOn t_lowStored t_highStored t_isBrothStored p1 s1_18
              else
                if p1 = 8 then
                  some (t_length, s1_18, t_tokens, t_spoons, t_mostSpoons, t_storeMany, t_numbers, t_signs, t_lowOn, t_highOn, t_isBrothOn, t_lowStored, t_highStored, t_isBrothStored)
                else
                  if p1 = 9 then
                    some (t_pastMany, s1_18, t_tokens, t_spoons, t_mostSpoons, t_storeMany, t_numbers, t_signs, t_lowOn, t_highOn, t_isBrothOn, t_lowStored, t_highStored, t_isBrothStored)
                  else
                    gc (inb p1 282) <|
                    gl (t_s p1.toNatClampNeg) fun v6 =>
                    some (v6, s1_18, t_tokens, t_spoons, t_mostSpoons, t_storeMany, t_numbers, t_signs, t_lowOn, t_highOn, t_isBrothOn, t_lowStored, t_highStored, t_isBrothStored)
  else
    some (0, s1_18, t_tokens, t_spoons, t_mostSpoons, t_storeMany, t_numbers, t_signs, t_lowOn, t_highOn, t_isBrothOn, t_lowStored, t_highStored, t_isBrothStored)
def g_X12_account (t_pastMany : Int32) (t_boiled : Int32) (t_thrown : Int32) (t_length : Int32) (t_tokens : Int32) (t_spoons : Int32) (t_mostSpoons : Int32) (t_storeMany : Int32) (t_s : Nat → Int32) (t_numbers : Nat → Int32) (t_signs : Nat → Int32) (t_lowOn : Nat → Int64) (t_highOn : Nat → Int64) (t_isBrothOn : Nat → Int32) (t_lowStored : Nat → Int64) (t_highStored : Nat → Int64) (t_isBrothStored : Nat → Int32) (p1 : Int32) : Option (Int32 × Int32 × Int32 × Int32 × Int32 × Int32 × (Nat → Int32) × (Nat → Int32) × (Nat → Int64) × (Nat → Int64) × (Nat → Int32) × (Nat → Int64) × (Nat → Int64) × (Nat → Int32)) :=
  gb (g_X12_in p1.toInt64 (0 : Int64) (9 : Int64)) fun r1 =>
  if r1 = 0 then
    g_X12_account_b18 t_pastMany t_boiled t_length t_tokens t_spoons t_mostSpoons t_storeMany t_s t_numbers t_signs t_lowOn t_highOn t_isBrothOn t_lowStored t_highStored t_isBrothStored p1 1
  else
    g_X12_account_b18 t_pastMany t_boiled t_length t_tokens t_spoons t_mostSpoons t_storeMany t_s t_numbers t_signs t_lowOn t_highOn t_isBrothOn t_lowStored t_highStored t_isBrothStored p1 0
def g_X12_undo_b13 (t_pastMany : Int32) (t_past : Nat → Int32) (t_s : Nat → Int32) (t_pastF : Nat → UInt32) (t_f : Nat → UInt32) (s1_13 : Int32) : Option (Int32 × Int32 × Int32 × (Nat → Int32) × (Nat → UInt32)) :=
  if s1_13 ≤ 0 then
    gl (t_pastMany - 1) fun v1 =>
    gc (cpok (282 * v1) (0 : Int32) (282 : Int32) 1692 282) <|
    gc (cpok (6 * v1) (0 : Int32) (6 : Int32) 36 6) <|
    some (v1, v1, s1_13, (va_cpy t_past t_s (282 * v1).toNatClampNeg (0 : Int32).toNatClampNeg (282 : Int32).toNatClampNeg), (va_cpy t_pastF t_f (6 * v1).toNatClampNeg (0 : Int32).toNatClampNeg (6 : Int32).toNatClampNeg))
  else
    some (0, t_pastMany, s1_13, t_s, t_f)
def g_X12_undo (t_pastMany : Int32) (t_thrown : Int32) (t_past : Nat → Int32) (t_s : Nat → Int32) (t_pastF : Nat → UInt32) (t_f : Nat → UInt32) : Option (Int32 × Int32 × Int32 × (Nat → Int32) × (Nat → UInt32)) :=
  if t_pastMany = 0 then
    g_X12_undo_b13 t_pastMany t_past t_s t_pastF t_f 1
  else
    g_X12_undo_b13 t_pastMany t_past t_s t_pastF t_f 0
def g_X12_save (t_isSaved : Int32) (t_thrown : Int32) (t_s : Nat → Int32) (t_saved : Nat → Int32) (t_f : Nat → UInt32) (t_savedF : Nat → UInt32) : Option (Int32 × Int32 × Int32 × (Nat → Int32) × (Nat → UInt32)) :=
  gc (cpok (0 : Int32) (0 : Int32) (282 : Int32) 282 282) <|
  gc (cpok (0 : Int32) (0 : Int32) (6 : Int32) 6 6) <|
  gc (inb (1 : Int32) 282) <|
  gl (t_s (1 : Int32).toNatClampNeg) fun v1 =>
  some (v1, 1, 0, (va_cpy t_s t_saved (0 : Int32).toNatClampNeg (0 : Int32).toNatClampNeg (282 : Int32).toNatClampNeg), (va_cpy t_f t_savedF (0 : Int32).toNatClampNeg (0 : Int32).toNatClampNeg (6 : Int32).toNatClampNeg))
def g_X12_restore_b13 (t_pastMany : Int32) (t_saved : Nat → Int32) (t_s : Nat → Int32) (t_savedF : Nat → UInt32) (t_f : Nat → UInt32) (s1_13 : Int32) : Option (Int32 × Int32 × Int32 × (Nat → Int32) × (Nat → UInt32)) :=
  if s1_13 ≤ 0 then
    gc (cpok (0 : Int32) (0 : Int32) (282 : Int32) 282 282) <|
    gc (cpok (0 : Int32) (0 : Int32) (6 : Int32) 6 6) <|
    gc (inb (1 : Int32) 282) <|
    gl ((va_cpy t_saved t_s (0 : Int32).toNatClampNeg (0 : Int32).toNatClampNeg (282 : Int32).toNatClampNeg) (1 : Int32).toNatClampNeg) fun v1 =>
    some (v1, 0, s1_13, (va_cpy t_saved t_s (0 : Int32).toNatClampNeg (0 : Int32).toNatClampNeg (282 : Int32).toNatClampNeg), (va_cpy t_savedF t_f (0 : Int32).toNatClampNeg (0 : Int32).toNatClampNeg (6 : Int32).toNatClampNeg))
  else
    some (0, t_pastMany, s1_13, t_s, t_f)
def g_X12_restore (t_isSaved : Int32) (t_pastMany : Int32) (t_thrown : Int32) (t_saved : Nat → Int32) (t_s : Nat → Int32) (t_savedF : Nat → UInt32) (t_f : Nat → UInt32) : Option (Int32 × Int32 × Int32 × (Nat → Int32) × (Nat → UInt32)) :=
  if t_isSaved = 0 then
    g_X12_restore_b13 t_pastMany t_saved t_s t_savedF t_f 1
  else
    g_X12_restore_b13 t_pastMany t_saved t_s t_savedF t_f 0
def g_X11_needBounds_b17 : Option (Int32) :=
  some 1
def g_X11_needBounds (p1 : Int32) (p2 : Int32) : Option (Int32) :=
  if p1 < (-99) then
    g_X11_needBounds_b17
  else
    if 99 < p2 then
      g_X11_needBounds_b17
    else
      if p1 ≤ p2 then
        some (0)
      else
        g_X11_needBounds_b17
def g_X11_needRoomForCauldron (t_book_cauldrons : Int32) (t_refusal_isKept : Int32) (t_refusal_reason : Int32) (t_refusal_detail : Int32) (t_refusal_hasCause : Int32) : Option (Int32 × Int32 × Int32 × Int32 × Int32) :=
  if t_book_cauldrons < 6 then
    some (0, t_refusal_isKept, t_refusal_reason, t_refusal_detail, t_refusal_hasCause)
  else
    gb (g_X7_keep t_refusal_isKept t_refusal_reason t_refusal_detail t_refusal_hasCause (1 : Int32) t_book_cauldrons) fun r1 =>
    some (4, r1.1, r1.2.1, r1.2.2.1, r1.2.2.2)
def g_X11_drams (LS : List Nat) (SE : Nat → SV) (t_book_cauldrons : Int32) (t_book_spells : Int32) (t_book_cookedSoFar : Int32) (t_book_storesSoFar : Int32) (t_refusal_isKept : Int32) (t_refusal_reason : Int32) (t_refusal_detail : Int32) (t_refusal_hasCause : Int32) (t_history_next : Int32) (t_history_changes : Int32) (t_history_books : Nat → Option Nat) (bk_cauldrons : Int32) (bk_spells : Int32) (bk_cookedSoFar : Int32) (bk_storesSoFar : Int32) (bk_contents_many : Nat → Int32) (t_book_contents_many : Nat → Int32) (bk_contents_much : Nat → UInt32) (t_book_contents_much : Nat → UInt32) (bk_isBroth : Nat → Int32) (t_book_isBroth : Nat → Int32) (bk_low : Nat → Int32) (t_book_low : Nat → Int32) (bk_high : Nat → Int32) (t_book_high : Nat → Int32) (bk_storesIn : Nat → Int32) (t_book_storesIn : Nat → Int32) (bk_texts : Nat → Option Nat) (t_book_texts : Nat → Option Nat) (bk_cooked : Nat → Int32) (t_book_cooked : Nat → Int32) (p1 : Int32) (p2 : Int32) (a_bk : Nat) : Option (Int32 × Int32 × Int32 × Int32 × Int32 × Int32 × Int32 × Int32 × Int32 × Int32 × Int32 × Int32 × Int32 × (Nat → Int32) × (Nat → Int32) × (Nat → UInt32) × (Nat → UInt32) × (Nat → Int32) × (Nat → Int32) × (Nat → Int32) × (Nat → Int32) × (Nat → Int32) × (Nat → Int32) × (Nat → Int32) × (Nat → Int32) × (Nat → Option Nat) × (Nat → Int32)) :=
  gb (g_X11_needBounds p1 p2) fun r1 =>
  if r1 = 0 then
    gb (g_X11_needRoomForCauldron t_book_cauldrons t_refusal_isKept t_refusal_reason t_refusal_detail t_refusal_hasCause) fun r2 =>
    if r2.1 = 0 then
      gb (g_X4_remember LS SE t_history_next t_history_changes t_book_cauldrons t_book_spells t_book_cookedSoFar t_book_storesSoFar t_history_books bk_cauldrons bk_spells bk_cookedSoFar bk_storesSoFar bk_contents_many t_book_contents_many bk_contents_much t_book_contents_much bk_isBroth t_book_isBroth bk_low t_book_low bk_high t_book_high bk_storesIn t_book_storesIn bk_texts t_book_texts bk_cooked t_book_cooked a_bk) fun r3 =>
      gb (g_X0_setUp t_book_cauldrons t_book_isBroth t_book_low t_book_high t_book_contents_many t_book_contents_much t_book_storesIn (0 : Int32) p1 p2) fun r4 =>
      some (0, r4.1, r4.2.1, r2.2.1, r2.2.2.1, r2.2.2.2.1, r2.2.2.2.2, r3.1, r3.2.1, r3.2.2.1, r3.2.2.2.1, r3.2.2.2.2.1, r3.2.2.2.2.2.1, r3.2.2.2.2.2.2.1, r4.2.2.2.2.2.1, r3.2.2.2.2.2.2.2.1, r4.2.2.2.2.2.2.1, r3.2.2.2.2.2.2.2.2.1, r4.2.2.1, r3.2.2.2.2.2.2.2.2.2.1, r4.2.2.2.1, r3.2.2.2.2.2.2.2.2.2.2.1, r4.2.2.2.2.1, r3.2.2.2.2.2.2.2.2.2.2.2.1, r4.2.2.2.2.2.2.2, r3.2.2.2.2.2.2.2.2.2.2.2.2.1, r3.2.2.2.2.2.2.2.2.2.2.2.2.2)
    else
      some (r2.1, 0, t_book_cauldrons, r2.2.1, r2.2.2.1, r2.2.2.2.1, r2.2.2.2.2, t_history_next, t_history_changes, bk_cauldrons, bk_spells, bk_cookedSoFar, bk_storesSoFar, bk_contents_many, t_book_contents_many, bk_contents_much, t_book_contents_much, bk_isBroth, t_book_isBroth, bk_low, t_book_low, bk_high, t_book_high, bk_storesIn, t_book_storesIn, bk_texts, bk_cooked)
  else
    some (r1, 0, t_book_cauldrons, t_refusal_isKept, t_refusal_reason, t_refusal_detail, t_refusal_hasCause, t_history_next, t_history_changes, bk_cauldrons, bk_spells, bk_cookedSoFar, bk_storesSoFar, bk_contents_many, t_book_contents_many, bk_contents_much, t_book_contents_much, bk_isBroth, t_book_isBroth, bk_low, t_book_low, bk_high, t_book_high, bk_storesIn, t_book_storesIn, bk_texts, bk_cooked)
def g_X11_broth (LS : List Nat) (SE : Nat → SV) (t_book_cauldrons : Int32) (t_book_spells : Int32) (t_book_cookedSoFar : Int32) (t_book_storesSoFar : Int32) (t_refusal_isKept : Int32) (t_refusal_reason : Int32) (t_refusal_detail : Int32) (t_refusal_hasCause : Int32) (t_history_next : Int32) (t_history_changes : Int32) (t_history_books : Nat → Option Nat) (bk_cauldrons : Int32) (bk_spells : Int32) (bk_cookedSoFar : Int32) (bk_storesSoFar : Int32) (bk_contents_many : Nat → Int32) (t_book_contents_many : Nat → Int32) (bk_contents_much : Nat → UInt32) (t_book_contents_much : Nat → UInt32) (bk_isBroth : Nat → Int32) (t_book_isBroth : Nat → Int32) (bk_low : Nat → Int32) (t_book_low : Nat → Int32) (bk_high : Nat → Int32) (t_book_high : Nat → Int32) (bk_storesIn : Nat → Int32) (t_book_storesIn : Nat → Int32) (bk_texts : Nat → Option Nat) (t_book_texts : Nat → Option Nat) (bk_cooked : Nat → Int32) (t_book_cooked : Nat → Int32) (a_bk : Nat) : Option (Int32 × Int32 × Int32 × Int32 × Int32 × Int32 × Int32 × Int32 × Int32 × Int32 × Int32 × Int32 × Int32 × (Nat → Int32) × (Nat → Int32) × (Nat → UInt32) × (Nat → UInt32) × (Nat → Int32) × (Nat → Int32) × (Nat → Int32) × (Nat → Int32) × (Nat → Int32) × (Nat → Int32) × (Nat → Int32) × (Nat → Int32) × (Nat → Option Nat) × (Nat → Int32)) :=
  gb (g_X11_needRoomForCauldron t_book_cauldrons t_refusal_isKept t_refusal_reason t_refusal_detail t_refusal_hasCause) fun r1 =>
  if r1.1 = 0 then
    gb (g_X4_remember LS SE t_history_next t_history_changes t_book_cauldrons t_book_spells t_book_cookedSoFar t_book_storesSoFar t_history_books bk_cauldrons bk_spells bk_cookedSoFar bk_storesSoFar bk_contents_many t_book_contents_many bk_contents_much t_book_contents_much bk_isBroth t_book_isBroth bk_low t_book_low bk_high t_book_high bk_storesIn t_book_storesIn bk_texts t_book_texts bk_cooked t_book_cooked a_bk) fun r2 =>
    gb (g_X0_setUp t_book_cauldrons t_book_isBroth t_book_low t_book_high t_book_contents_many t_book_contents_much t_book_storesIn (1 : Int32) (-99 : Int32) (99 : Int32)) fun r3 =>
    some (0, r3.1, r3.2.1, r1.2.1, r1.2.2.1, r1.2.2.2.1, r1.2.2.2.2, r2.1, r2.2.1, r2.2.2.1, r2.2.2.2.1, r2.2.2.2.2.1, r2.2.2.2.2.2.1, r2.2.2.2.2.2.2.1, r3.2.2.2.2.2.1, r2.2.2.2.2.2.2.2.1, r3.2.2.2.2.2.2.1, r2.2.2.2.2.2.2.2.2.1, r3.2.2.1, r2.2.2.2.2.2.2.2.2.2.1, r3.2.2.2.1, r2.2.2.2.2.2.2.2.2.2.2.1, r3.2.2.2.2.1, r2.2.2.2.2.2.2.2.2.2.2.2.1, r3.2.2.2.2.2.2.2, r2.2.2.2.2.2.2.2.2.2.2.2.2.1, r2.2.2.2.2.2.2.2.2.2.2.2.2.2)
  else
    some (r1.1, 0, t_book_cauldrons, r1.2.1, r1.2.2.1, r1.2.2.2.1, r1.2.2.2.2, t_history_next, t_history_changes, bk_cauldrons, bk_spells, bk_cookedSoFar, bk_storesSoFar, bk_contents_many, t_book_contents_many, bk_contents_much, t_book_contents_much, bk_isBroth, t_book_isBroth, bk_low, t_book_low, bk_high, t_book_high, bk_storesIn, t_book_storesIn, bk_texts, bk_cooked)
def g_X11_needCauldron_b15 : Option (Int32) :=
  some 2
def g_X11_needCauldron (t_book_cauldrons : Int32) (p1 : Int32) : Option (Int32) :=
  if p1 < 0 then
    g_X11_needCauldron_b15
  else
    if p1 < t_book_cauldrons then
      some (0)
    else
      g_X11_needCauldron_b15
def g_X11_needDrams (t_book_isBroth : Nat → Int32) (t_refusal_isKept : Int32) (t_refusal_reason : Int32) (t_refusal_detail : Int32) (t_refusal_hasCause : Int32) (p1 : Int32) : Option (Int32 × Int32 × Int32 × Int32 × Int32) :=
  gc (inb p1 6) <|
  if (t_book_isBroth p1.toNatClampNeg) = 0 then
    some (0, t_refusal_isKept, t_refusal_reason, t_refusal_detail, t_refusal_hasCause)
  else
    gb (g_X7_keep t_refusal_isKept t_refusal_reason t_refusal_detail t_refusal_hasCause (2 : Int32) p1) fun r1 =>
    some (4, r1.1, r1.2.1, r1.2.2.1, r1.2.2.2)
def g_X11_pour (LS : List Nat) (SE : Nat → SV) (t_book_cauldrons : Int32) (t_book_spells : Int32) (t_book_cookedSoFar : Int32) (t_book_storesSoFar : Int32) (t_book_isBroth : Nat → Int32) (t_refusal_isKept : Int32) (t_refusal_reason : Int32) (t_refusal_detail : Int32) (t_refusal_hasCause : Int32) (t_book_low : Nat → Int32) (t_book_high : Nat → Int32) (t_history_next : Int32) (t_history_changes : Int32) (t_history_books : Nat → Option Nat) (bk_cauldrons : Int32) (bk_spells : Int32) (bk_cookedSoFar : Int32) (bk_storesSoFar : Int32) (bk_contents_many : Nat → Int32) (t_book_contents_many : Nat → Int32) (bk_contents_much : Nat → UInt32) (t_book_contents_much : Nat → UInt32) (bk_isBroth : Nat → Int32) (bk_low : Nat → Int32) (bk_high : Nat → Int32) (bk_storesIn : Nat → Int32) (t_book_storesIn : Nat → Int32) (bk_texts : Nat → Option Nat) (t_book_texts : Nat → Option Nat) (bk_cooked : Nat → Int32) (t_book_cooked : Nat → Int32) (p1 : Int32) (p2 : Int32) (a_bk : Nat) : Option (Int32 × Int32 × Int32 × Int32 × Int32 × Int32 × Int32 × Int32 × Int32 × Int32 × Int32 × Int32 × (Nat → Int32) × (Nat → Int32) × (Nat → UInt32) × (Nat → Int32) × (Nat → Int32) × (Nat → Int32) × (Nat → Int32) × (Nat → Option Nat) × (Nat → Int32)) :=
  gb (g_X11_needCauldron t_book_cauldrons p1) fun r1 =>
  if r1 = 0 then
    gb (g_X11_needDrams t_book_isBroth t_refusal_isKept t_refusal_reason t_refusal_detail t_refusal_hasCause p1) fun r2 =>
    if r2.1 = 0 then
      gb (g_X0_holds t_book_low t_book_high p1 p2.toInt64) fun r3 =>
      if r3 = 0 then
        gb (g_X7_keep r2.2.1 r2.2.2.1 r2.2.2.2.1 r2.2.2.2.2 (3 : Int32) p2) fun r6 =>
        some (4, 0, r6.1, r6.2.1, r6.2.2.1, r6.2.2.2, t_history_next, t_history_changes, bk_cauldrons, bk_spells, bk_cookedSoFar, bk_storesSoFar, bk_contents_many, t_book_contents_many, bk_contents_much, bk_isBroth, bk_low, bk_high, bk_storesIn, bk_texts, bk_cooked)
      else
        gb (g_X4_remember LS SE t_history_next t_history_changes t_book_cauldrons t_book_spells t_book_cookedSoFar t_book_storesSoFar t_history_books bk_cauldrons bk_spells bk_cookedSoFar bk_storesSoFar bk_contents_many t_book_contents_many bk_contents_much t_book_contents_much bk_isBroth t_book_isBroth bk_low t_book_low bk_high t_book_high bk_storesIn t_book_storesIn bk_texts t_book_texts bk_cooked t_book_cooked a_bk) fun r4 =>
        gc (inb p1 6) <|
        gl (t_book_contents_many p1.toNatClampNeg) fun v5 =>
        gc (inb p1 6) <|
        some (0, v5, r2.2.1, r2.2.2.1, r2.2.2.2.1, r2.2.2.2.2, r4.1, r4.2.1, r4.2.2.1, r4.2.2.2.1, r4.2.2.2.2.1, r4.2.2.2.2.2.1, r4.2.2.2.2.2.2.1, (upd t_book_contents_many p1.toNatClampNeg p2), r4.2.2.2.2.2.2.2.1, r4.2.2.2.2.2.2.2.2.1, r4.2.2.2.2.2.2.2.2.2.1, r4.2.2.2.2.2.2.2.2.2.2.1, r4.2.2.2.2.2.2.2.2.2.2.2.1, r4.2.2.2.2.2.2.2.2.2.2.2.2.1, r4.2.2.2.2.2.2.2.2.2.2.2.2.2)
    else
      some (r2.1, 0, r2.2.1, r2.2.2.1, r2.2.2.2.1, r2.2.2.2.2, t_history_next, t_history_changes, bk_cauldrons, bk_spells, bk_cookedSoFar, bk_storesSoFar, bk_contents_many, t_book_contents_many, bk_contents_much, bk_isBroth, bk_low, bk_high, bk_storesIn, bk_texts, bk_cooked)
  else
    some (r1, 0, t_refusal_isKept, t_refusal_reason, t_refusal_detail, t_refusal_hasCause, t_history_next, t_history_changes, bk_cauldrons, bk_spells, bk_cookedSoFar, bk_storesSoFar, bk_contents_many, t_book_contents_many, bk_contents_much, bk_isBroth, bk_low, bk_high, bk_storesIn, bk_texts, bk_cooked)
def g_X11_ladle_b19 (t_history_next : Int32) (t_history_changes : Int32) (bk_cauldrons : Int32) (bk_spells : Int32) (bk_cookedSoFar : Int32) (bk_storesSoFar : Int32) (bk_contents_many : Nat → Int32) (bk_contents_much : Nat → UInt32) (t_book_contents_much : Nat → UInt32) (bk_isBroth : Nat → Int32) (bk_low : Nat → Int32) (bk_high : Nat → Int32) (bk_storesIn : Nat → Int32) (bk_texts : Nat → Option Nat) (bk_cooked : Nat → Int32) (t_refusal_isKept : Int32) (t_refusal_reason : Int32) (t_refusal_detail : Int32) (t_refusal_hasCause : Int32) : Option (Int32 × Int32 × Int32 × Int32 × Int32 × Int32 × Int32 × Int32 × (Nat → Int32) × (Nat → UInt32) × (Nat → UInt32) × (Nat → Int32) × (Nat → Int32) × (Nat → Int32) × (Nat → Int32) × (Nat → Option Nat) × (Nat → Int32) × Int32 × Int32 × Int32 × Int32) :=
  some (1, 0, t_history_next, t_history_changes, bk_cauldrons, bk_spells, bk_cookedSoFar, bk_storesSoFar, bk_contents_many, bk_contents_much, t_book_contents_much, bk_isBroth, bk_low, bk_high, bk_storesIn, bk_texts, bk_cooked, t_refusal_isKept, t_refusal_reason, t_refusal_detail, t_refusal_hasCause)
def g_X11_ladle (LS : List Nat) (SE : Nat → SV) (t_book_cauldrons : Int32) (t_book_spells : Int32) (t_book_cookedSoFar : Int32) (t_book_storesSoFar : Int32) (t_book_isBroth : Nat → Int32) (t_history_next : Int32) (t_history_changes : Int32) (t_history_books : Nat → Option Nat) (bk_cauldrons : Int32) (bk_spells : Int32) (bk_cookedSoFar : Int32) (bk_storesSoFar : Int32) (bk_contents_many : Nat → Int32) (t_book_contents_many : Nat → Int32) (bk_contents_much : Nat → UInt32) (t_book_contents_much : Nat → UInt32) (bk_isBroth : Nat → Int32) (bk_low : Nat → Int32) (t_book_low : Nat → Int32) (bk_high : Nat → Int32) (t_book_high : Nat → Int32) (bk_storesIn : Nat → Int32) (t_book_storesIn : Nat → Int32) (bk_texts : Nat → Option Nat) (t_book_texts : Nat → Option Nat) (bk_cooked : Nat → Int32) (t_book_cooked : Nat → Int32) (t_refusal_isKept : Int32) (t_refusal_reason : Int32) (t_refusal_detail : Int32) (t_refusal_hasCause : Int32) (p1 : Int32) (p2 : Int32) (a_bk : Nat) : Option (Int32 × Int32 × Int32 × Int32 × Int32 × Int32 × Int32 × Int32 × (Nat → Int32) × (Nat → UInt32) × (Nat → UInt32) × (Nat → Int32) × (Nat → Int32) × (Nat → Int32) × (Nat → Int32) × (Nat → Option Nat) × (Nat → Int32) × Int32 × Int32 × Int32 × Int32) :=
  gb (g_X11_needCauldron t_book_cauldrons p1) fun r1 =>
  if r1 = 0 then
    if p2 < (-9999) then
      g_X11_ladle_b19 t_history_next t_history_changes bk_cauldrons bk_spells bk_cookedSoFar bk_storesSoFar bk_contents_many bk_contents_much t_book_contents_much bk_isBroth bk_low bk_high bk_storesIn bk_texts bk_cooked t_refusal_isKept t_refusal_reason t_refusal_detail t_refusal_hasCause
    else
      if p2 ≤ 9999 then
        gc (inb p1 6) <|
        if (t_book_isBroth p1.toNatClampNeg) = 0 then
          gb (g_X7_keep t_refusal_isKept t_refusal_reason t_refusal_detail t_refusal_hasCause (4 : Int32) p1) fun r4 =>
          some (4, 0, t_history_next, t_history_changes, bk_cauldrons, bk_spells, bk_cookedSoFar, bk_storesSoFar, bk_contents_many, bk_contents_much, t_book_contents_much, bk_isBroth, bk_low, bk_high, bk_storesIn, bk_texts, bk_cooked, r4.1, r4.2.1, r4.2.2.1, r4.2.2.2)
        else
          gb (g_X4_remember LS SE t_history_next t_history_changes t_book_cauldrons t_book_spells t_book_cookedSoFar t_book_storesSoFar t_history_books bk_cauldrons bk_spells bk_cookedSoFar bk_storesSoFar bk_contents_many t_book_contents_many bk_contents_much t_book_contents_much bk_isBroth t_book_isBroth bk_low t_book_low bk_high t_book_high bk_storesIn t_book_storesIn bk_texts t_book_texts bk_cooked t_book_cooked a_bk) fun r2 =>
          gc (inb p1 6) <|
          gb (g_X5_bitsOf (t_book_contents_much p1.toNatClampNeg)) fun r3 =>
          gc (n32 (FP.fdiv (FP.i2f p2) (1120403456 : UInt32))) <|
          gc (inb p1 6) <|
          some (0, r3, r2.1, r2.2.1, r2.2.2.1, r2.2.2.2.1, r2.2.2.2.2.1, r2.2.2.2.2.2.1, r2.2.2.2.2.2.2.1, r2.2.2.2.2.2.2.2.1, (vf_upd t_book_contents_much p1.toNatClampNeg (FP.fdiv (FP.i2f p2) (1120403456 : UInt32))), r2.2.2.2.2.2.2.2.2.1, r2.2.2.2.2.2.2.2.2.2.1, r2.2.2.2.2.2.2.2.2.2.2.1, r2.2.2.2.2.2.2.2.2.2.2.2.1, r2.2.2.2.2.2.2.2.2.2.2.2.2.1, r2.2.2.2.2.2.2.2.2.2.2.2.2.2, t_refusal_isKept, t_refusal_reason, t_refusal_detail, t_refusal_hasCause)
      else
        g_X11_ladle_b19 t_history_next t_history_changes bk_cauldrons bk_spells bk_cookedSoFar bk_storesSoFar bk_contents_many bk_contents_much t_book_contents_much bk_isBroth bk_low bk_high bk_storesIn bk_texts bk_cooked t_refusal_isKept t_refusal_reason t_refusal_detail t_refusal_hasCause
  else
    some (r1, 0, t_history_next, t_history_changes, bk_cauldrons, bk_spells, bk_cookedSoFar, bk_storesSoFar, bk_contents_many, bk_contents_much, t_book_contents_much, bk_isBroth, bk_low, bk_high, bk_storesIn, bk_texts, bk_cooked, t_refusal_isKept, t_refusal_reason, t_refusal_detail, t_refusal_hasCause)
def g_X11_countTyped_b46 (LS : List Nat) (SE : Nat → SV) (t_book_spells : Int32) (t_book_texts : Nat → Option Nat) (t_book_isBroth : Nat → Int32) (t_book_low : Nat → Int32) (t_book_high : Nat → Int32) (k4 : (Nat → Int64) → (Nat → Int32) → (Nat → Int64) → (Nat → Int64) → (Nat → Int32) → (Nat → Int64) → Int32 → Int32 → Int32 → Int32 → Int32 → Option (Int32 × Int32 × Int32 × Int32 × (Nat → Int32) × (Nat → Int64) × (Nat → Int64) × (Nat → Int32) × (Nat → Int64) × (Nat → Int64))) (t_typing_high_46 : Nat → Int64) (t_typing_isBroth_46 : Nat → Int32) (t_typing_low_46 : Nat → Int64) (t_typing_storeHigh_46 : Nat → Int64) (t_typing_storeIsBroth_46 : Nat → Int32) (t_typing_storeLow_46 : Nat → Int64) (t_typing_faultAt_46 : Int32) (t_typing_stores_46 : Int32) (t_typing_spoons_46 : Int32) (x1_46 : Int32) (x2_46 : Int32) : Option (Int32 × Int32 × Int32 × Int32 × (Nat → Int32) × (Nat → Int64) × (Nat → Int64) × (Nat → Int32) × (Nat → Int64) × (Nat → Int64)) :=
  gl (x2_46 + 1) fun v1 =>
  k4 t_typing_high_46 t_typing_isBroth_46 t_typing_low_46 t_typing_storeHigh_46 t_typing_storeIsBroth_46 t_typing_storeLow_46 t_typing_faultAt_46 t_typing_stores_46 t_typing_spoons_46 x1_46 v1
def g_X11_countTyped_b4 (LS : List Nat) (SE : Nat → SV) (t_book_spells : Int32) (t_book_texts : Nat → Option Nat) (t_book_isBroth : Nat → Int32) (t_book_low : Nat → Int32) (t_book_high : Nat → Int32) : Nat → (Nat → Int64) → (Nat → Int32) → (Nat → Int64) → (Nat → Int64) → (Nat → Int32) → (Nat → Int64) → Int32 → Int32 → Int32 → Int32 → Int32 → Option (Int32 × Int32 × Int32 × Int32 × (Nat → Int32) × (Nat → Int64) × (Nat → Int64) × (Nat → Int32) × (Nat → Int64) × (Nat → Int64))
  | 0, _, _, _, _, _, _, _, _, _, _, _ => none
  | n + 1, t_typing_high_4, t_typing_isBroth_4, t_typing_low_4, t_typing_storeHigh_4, t_typing_storeIsBroth_4, t_typing_storeLow_4, t_typing_faultAt_4, t_typing_stores_4, t_typing_spoons_4, x1_4, x2_4 =>
    if t_book_spells ≤ x2_4 then
      some (x1_4, t_typing_faultAt_4, t_typing_stores_4, t_typing_spoons_4, t_typing_isBroth_4, t_typing_low_4, t_typing_high_4, t_typing_storeIsBroth_4, t_typing_storeLow_4, t_typing_storeHigh_4)
    else
      gb (g_X0_spellAt t_book_spells t_book_texts x2_4) fun r2 =>
      go r2 (
        g_X11_countTyped_b46 LS SE t_book_spells t_book_texts t_book_isBroth t_book_low t_book_high (g_X11_countTyped_b4 LS SE t_book_spells t_book_texts t_book_isBroth t_book_low t_book_high n) t_typing_high_4 t_typing_isBroth_4 t_typing_low_4 t_typing_storeHigh_4 t_typing_storeIsBroth_4 t_typing_storeLow_4 t_typing_faultAt_4 t_typing_stores_4 t_typing_spoons_4 x1_4 x2_4) fun a_y20 =>
      gc (inl9 LS a_y20) <|
      gb (g_X9_passes t_typing_faultAt_4 t_typing_stores_4 t_typing_spoons_4 ((SE a_y20).2.2.1) ((SE a_y20).2.2.2.2.2.2.1) ((SE a_y20).2.2.2.2.2.2.2.1) t_book_isBroth t_book_low t_book_high t_typing_isBroth_4 t_typing_low_4 t_typing_high_4 t_typing_storeIsBroth_4 t_typing_storeLow_4 t_typing_storeHigh_4) fun r3 =>
      if r3.1 = 0 then
        g_X11_countTyped_b46 LS SE t_book_spells t_book_texts t_book_isBroth t_book_low t_book_high (g_X11_countTyped_b4 LS SE t_book_spells t_book_texts t_book_isBroth t_book_low t_book_high n) r3.2.2.2.2.2.2.1 r3.2.2.2.2.1 r3.2.2.2.2.2.1 r3.2.2.2.2.2.2.2.2.2 r3.2.2.2.2.2.2.2.1 r3.2.2.2.2.2.2.2.2.1 r3.2.1 r3.2.2.1 r3.2.2.2.1 x1_4 x2_4
      else
        gl (x1_4 + 1) fun v4 =>
        g_X11_countTyped_b46 LS SE t_book_spells t_book_texts t_book_isBroth t_book_low t_book_high (g_X11_countTyped_b4 LS SE t_book_spells t_book_texts t_book_isBroth t_book_low t_book_high n) r3.2.2.2.2.2.2.1 r3.2.2.2.2.1 r3.2.2.2.2.2.1 r3.2.2.2.2.2.2.2.2.2 r3.2.2.2.2.2.2.2.1 r3.2.2.2.2.2.2.2.2.1 r3.2.1 r3.2.2.1 r3.2.2.2.1 v4 x2_4
def g_X11_countTyped (LS : List Nat) (SE : Nat → SV) (t_book_spells : Int32) (t_book_texts : Nat → Option Nat) (t_typing_faultAt : Int32) (t_typing_stores : Int32) (t_typing_spoons : Int32) (t_book_isBroth : Nat → Int32) (t_book_low : Nat → Int32) (t_book_high : Nat → Int32) (t_typing_isBroth : Nat → Int32) (t_typing_low : Nat → Int64) (t_typing_high : Nat → Int64) (t_typing_storeIsBroth : Nat → Int32) (t_typing_storeLow : Nat → Int64) (t_typing_storeHigh : Nat → Int64) : Option (Int32 × Int32 × Int32 × Int32 × (Nat → Int32) × (Nat → Int64) × (Nat → Int64) × (Nat → Int32) × (Nat → Int64) × (Nat → Int64)) :=
  g_X11_countTyped_b4 LS SE t_book_spells t_book_texts t_book_isBroth t_book_low t_book_high 100 t_typing_high t_typing_isBroth t_typing_low t_typing_storeHigh t_typing_storeIsBroth t_typing_storeLow t_typing_faultAt t_typing_stores t_typing_spoons 0 0
def g_X11_bounds_b42 (t_history_next : Int32) (t_history_changes : Int32) (bk_cauldrons : Int32) (bk_spells : Int32) (bk_cookedSoFar : Int32) (bk_storesSoFar : Int32) (bk_contents_many : Nat → Int32) (bk_contents_much : Nat → UInt32) (bk_isBroth : Nat → Int32) (bk_low : Nat → Int32) (t_book_low : Nat → Int32) (bk_high : Nat → Int32) (t_book_high : Nat → Int32) (bk_storesIn : Nat → Int32) (bk_texts : Nat → Option Nat) (bk_cooked : Nat → Int32) (t_typing_faultAt : Int32) (t_typing_stores : Int32) (t_typing_spoons : Int32) (t_typing_isBroth : Nat → Int32) (t_typing_low : Nat → Int64) (t_typing_high : Nat → Int64) (t_typing_storeIsBroth : Nat → Int32) (t_typing_storeLow : Nat → Int64) (t_typing_storeHigh : Nat → Int64) (t_refusal_isKept_42 : Int32) (t_refusal_reason_42 : Int32) (t_refusal_detail_42 : Int32) (t_refusal_hasCause_42 : Int32) (x4_42 : Int32) : Option (Int32 × Int32 × Int32 × Int32 × Int32 × Int32 × Int32 × Int32 × Int32 × Int32 × Int32 × Int32 × (Nat → Int32) × (Nat → UInt32) × (Nat → Int32) × (Nat → Int32) × (Nat → Int32) × (Nat → Int32) × (Nat → Int32) × (Nat → Int32) × (Nat → Option Nat) × (Nat → Int32) × Int32 × Int32 × Int32 × (Nat → Int32) × (Nat → Int64) × (Nat → Int64) × (Nat → Int32) × (Nat → Int64) × (Nat → Int64)) :=
  gb (g_X7_keep t_refusal_isKept_42 t_refusal_reason_42 t_refusal_detail_42 t_refusal_hasCause_42 (3 : Int32) x4_42) fun r9 =>
  some (4, 0, r9.1, r9.2.1, r9.2.2.1, r9.2.2.2, t_history_next, t_history_changes, bk_cauldrons, bk_spells, bk_cookedSoFar, bk_storesSoFar, bk_contents_many, bk_contents_much, bk_isBroth, bk_low, t_book_low, bk_high, t_book_high, bk_storesIn, bk_texts, bk_cooked, t_typing_faultAt, t_typing_stores, t_typing_spoons, t_typing_isBroth, t_typing_low, t_typing_high, t_typing_storeIsBroth, t_typing_storeLow, t_typing_storeHigh)
def g_X11_bounds (LS : List Nat) (SE : Nat → SV) (t_book_cauldrons : Int32) (t_book_spells : Int32) (t_book_cookedSoFar : Int32) (t_book_storesSoFar : Int32) (t_book_isBroth : Nat → Int32) (t_refusal_isKept : Int32) (t_refusal_reason : Int32) (t_refusal_detail : Int32) (t_refusal_hasCause : Int32) (t_book_contents_many : Nat → Int32) (t_history_next : Int32) (t_history_changes : Int32) (t_history_books : Nat → Option Nat) (bk_cauldrons : Int32) (bk_spells : Int32) (bk_cookedSoFar : Int32) (bk_storesSoFar : Int32) (bk_contents_many : Nat → Int32) (bk_contents_much : Nat → UInt32) (t_book_contents_much : Nat → UInt32) (bk_isBroth : Nat → Int32) (bk_low : Nat → Int32) (t_book_low : Nat → Int32) (bk_high : Nat → Int32) (t_book_high : Nat → Int32) (bk_storesIn : Nat → Int32) (t_book_storesIn : Nat → Int32) (bk_texts : Nat → Option Nat) (t_book_texts : Nat → Option Nat) (bk_cooked : Nat → Int32) (t_book_cooked : Nat → Int32) (t_typing_faultAt : Int32) (t_typing_stores : Int32) (t_typing_spoons : Int32) (t_typing_isBroth : Nat → Int32) (t_typing_low : Nat → Int64) (t_typing_high : Nat → Int64) (t_typing_storeIsBroth : Nat → Int32) (t_typing_storeLow : Nat → Int64) (t_typing_storeHigh : Nat → Int64) (p1 : Int32) (p2 : Int32) (p3 : Int32) (a_bk : Nat) : Option (Int32 × Int32 × Int32 × Int32 × Int32 × Int32 × Int32 × Int32 × Int32 × Int32 × Int32 × Int32 × (Nat → Int32) × (Nat → UInt32) × (Nat → Int32) × (Nat → Int32) × (Nat → Int32) × (Nat → Int32) × (Nat → Int32) × (Nat → Int32) × (Nat → Option Nat) × (Nat → Int32) × Int32 × Int32 × Int32 × (Nat → Int32) × (Nat → Int64) × (Nat → Int64) × (Nat → Int32) × (Nat → Int64) × (Nat → Int64)) :=
  gb (g_X11_needCauldron t_book_cauldrons p1) fun r1 =>
  if r1 = 0 then
    gb (g_X11_needBounds p2 p3) fun r2 =>
    if r2 = 0 then
      gb (g_X11_needDrams t_book_isBroth t_refusal_isKept t_refusal_reason t_refusal_detail t_refusal_hasCause p1) fun r3 =>
      if r3.1 = 0 then
        gc (inb p1 6) <|
        gl (t_book_contents_many p1.toNatClampNeg) fun v4 =>
        if v4 < p2 then
          g_X11_bounds_b42 t_history_next t_history_changes bk_cauldrons bk_spells bk_cookedSoFar bk_storesSoFar bk_contents_many bk_contents_much bk_isBroth bk_low t_book_low bk_high t_book_high bk_storesIn bk_texts bk_cooked t_typing_faultAt t_typing_stores t_typing_spoons t_typing_isBroth t_typing_low t_typing_high t_typing_storeIsBroth t_typing_storeLow t_typing_storeHigh r3.2.1 r3.2.2.1 r3.2.2.2.1 r3.2.2.2.2 v4
        else
          if v4 ≤ p3 then
            gb (g_X4_remember LS SE t_history_next t_history_changes t_book_cauldrons t_book_spells t_book_cookedSoFar t_book_storesSoFar t_history_books bk_cauldrons bk_spells bk_cookedSoFar bk_storesSoFar bk_contents_many t_book_contents_many bk_contents_much t_book_contents_much bk_isBroth t_book_isBroth bk_low t_book_low bk_high t_book_high bk_storesIn t_book_storesIn bk_texts t_book_texts bk_cooked t_book_cooked a_bk) fun r5 =>
            gb (g_X11_countTyped LS SE t_book_spells t_book_texts t_typing_faultAt t_typing_stores t_typing_spoons t_book_isBroth t_book_low t_book_high t_typing_isBroth t_typing_low t_typing_high t_typing_storeIsBroth t_typing_storeLow t_typing_storeHigh) fun r6 =>
            gc (inb p1 6) <|
            gc (inb p1 6) <|
            gb (g_X11_countTyped LS SE t_book_spells t_book_texts r6.2.1 r6.2.2.1 r6.2.2.2.1 t_book_isBroth (upd t_book_low p1.toNatClampNeg p2) (upd t_book_high p1.toNatClampNeg p3) r6.2.2.2.2.1 r6.2.2.2.2.2.1 r6.2.2.2.2.2.2.1 r6.2.2.2.2.2.2.2.1 r6.2.2.2.2.2.2.2.2.1 r6.2.2.2.2.2.2.2.2.2) fun r7 =>
            gl (r7.1 - r6.1) fun v8 =>
            some (0, v8, r3.2.1, r3.2.2.1, r3.2.2.2.1, r3.2.2.2.2, r5.1, r5.2.1, r5.2.2.1, r5.2.2.2.1, r5.2.2.2.2.1, r5.2.2.2.2.2.1, r5.2.2.2.2.2.2.1, r5.2.2.2.2.2.2.2.1, r5.2.2.2.2.2.2.2.2.1, r5.2.2.2.2.2.2.2.2.2.1, (upd t_book_low p1.toNatClampNeg p2), r5.2.2.2.2.2.2.2.2.2.2.1, (upd t_book_high p1.toNatClampNeg p3), r5.2.2.2.2.2.2.2.2.2.2.2.1, r5.2.2.2.2.2.2.2.2.2.2.2.2.1, r5.2.2.2.2.2.2.2.2.2.2.2.2.2, r7.2.1, r7.2.2.1, r7.2.2.2.1, r7.2.2.2.2.1, r7.2.2.2.2.2.1, r7.2.2.2.2.2.2.1, r7.2.2.2.2.2.2.2.1, r7.2.2.2.2.2.2.2.2.1, r7.2.2.2.2.2.2.2.2.2)
          else
            g_X11_bounds_b42 t_history_next t_history_changes bk_cauldrons bk_spells bk_cookedSoFar bk_storesSoFar bk_contents_many bk_contents_much bk_isBroth bk_low t_book_low bk_high t_book_high bk_storesIn bk_texts bk_cooked t_typing_faultAt t_typing_stores t_typing_spoons t_typing_isBroth t_typing_low t_typing_high t_typing_storeIsBroth t_typing_storeLow t_typing_storeHigh r3.2.1 r3.2.2.1 r3.2.2.2.1 r3.2.2.2.2 v4
      else
        some (r3.1, 0, r3.2.1, r3.2.2.1, r3.2.2.2.1, r3.2.2.2.2, t_history_next, t_history_changes, bk_cauldrons, bk_spells, bk_cookedSoFar, bk_storesSoFar, bk_contents_many, bk_contents_much, bk_isBroth, bk_low, t_book_low, bk_high, t_book_high, bk_storesIn, bk_texts, bk_cooked, t_typing_faultAt, t_typing_stores, t_typing_spoons, t_typing_isBroth, t_typing_low, t_typing_high, t_typing_storeIsBroth, t_typing_storeLow, t_typing_storeHigh)
    else
      some (r2, 0, t_refusal_isKept, t_refusal_reason, t_refusal_detail, t_refusal_hasCause, t_history_next, t_history_changes, bk_cauldrons, bk_spells, bk_cookedSoFar, bk_storesSoFar, bk_contents_many, bk_contents_much, bk_isBroth, bk_low, t_book_low, bk_high, t_book_high, bk_storesIn, bk_texts, bk_cooked, t_typing_faultAt, t_typing_stores, t_typing_spoons, t_typing_isBroth, t_typing_low, t_typing_high, t_typing_storeIsBroth, t_typing_storeLow, t_typing_storeHigh)
  else
    some (r1, 0, t_refusal_isKept, t_refusal_reason, t_refusal_detail, t_refusal_hasCause, t_history_next, t_history_changes, bk_cauldrons, bk_spells, bk_cookedSoFar, bk_storesSoFar, bk_contents_many, bk_contents_much, bk_isBroth, bk_low, t_book_low, bk_high, t_book_high, bk_storesIn, bk_texts, bk_cooked, t_typing_faultAt, t_typing_stores, t_typing_spoons, t_typing_isBroth, t_typing_low, t_typing_high, t_typing_storeIsBroth, t_typing_storeLow, t_typing_storeHigh)
def g_X11_needSpell (LS : List Nat) (SE : Nat → SV) (t_book_spells : Int32) (t_book_texts : Nat → Option Nat) (p1 : Int32) : Option (Int32 × Option Nat) :=
  gb (g_X0_spellAt t_book_spells t_book_texts p1) fun r1 =>
  go r1 (
    some (2, none)) fun a_y5 =>
  gc (inl9 LS a_y5) <|
  some (0, (some a_y5))
def g_X11_erase (LS : List Nat) (SE : Nat → SV) (t_book_cauldrons : Int32) (t_book_spells : Int32) (t_book_cookedSoFar : Int32) (t_book_storesSoFar : Int32) (t_book_texts : Nat → Option Nat) (t_history_next : Int32) (t_history_changes : Int32) (t_history_books : Nat → Option Nat) (bk_cauldrons : Int32) (bk_spells : Int32) (bk_cookedSoFar : Int32) (bk_storesSoFar : Int32) (bk_contents_many : Nat → Int32) (t_book_contents_many : Nat → Int32) (bk_contents_much : Nat → UInt32) (t_book_contents_much : Nat → UInt32) (bk_isBroth : Nat → Int32) (t_book_isBroth : Nat → Int32) (bk_low : Nat → Int32) (t_book_low : Nat → Int32) (bk_high : Nat → Int32) (t_book_high : Nat → Int32) (bk_storesIn : Nat → Int32) (t_book_storesIn : Nat → Int32) (bk_texts : Nat → Option Nat) (bk_cooked : Nat → Int32) (t_book_cooked : Nat → Int32) (p1 : Int32) (a_bk : Nat) : Option (Int32 × Int32 × Int32 × (Nat → Option Nat) × Int32 × Int32 × Int32 × Int32 × Int32 × Int32 × (Nat → Int32) × (Nat → UInt32) × (Nat → Int32) × (Nat → Int32) × (Nat → Int32) × (Nat → Int32) × (Nat → Option Nat) × (Nat → Int32) × (Nat → Int32)) :=
  gb (g_X11_needSpell LS SE t_book_spells t_book_texts p1) fun r1 =>
  if r1.1 = 0 then
    go r1.2 (
      none) fun a_y2 =>
    gc (inl9 LS a_y2) <|
    gb (g_X4_remember LS SE t_history_next t_history_changes t_book_cauldrons t_book_spells t_book_cookedSoFar t_book_storesSoFar t_history_books bk_cauldrons bk_spells bk_cookedSoFar bk_storesSoFar bk_contents_many t_book_contents_many bk_contents_much t_book_contents_much bk_isBroth t_book_isBroth bk_low t_book_low bk_high t_book_high bk_storesIn t_book_storesIn bk_texts t_book_texts bk_cooked t_book_cooked a_bk) fun r2 =>
    gb (g_X0_strikeOut LS SE t_book_spells t_book_texts t_book_cooked p1) fun r3 =>
    some (0, r3.1, r3.1, r3.2.1, r2.1, r2.2.1, r2.2.2.1, r2.2.2.2.1, r2.2.2.2.2.1, r2.2.2.2.2.2.1, r2.2.2.2.2.2.2.1, r2.2.2.2.2.2.2.2.1, r2.2.2.2.2.2.2.2.2.1, r2.2.2.2.2.2.2.2.2.2.1, r2.2.2.2.2.2.2.2.2.2.2.1, r2.2.2.2.2.2.2.2.2.2.2.2.1, r2.2.2.2.2.2.2.2.2.2.2.2.2.1, r2.2.2.2.2.2.2.2.2.2.2.2.2.2, r3.2.2)
  else
    some (r1.1, 0, t_book_spells, t_book_texts, t_history_next, t_history_changes, bk_cauldrons, bk_spells, bk_cookedSoFar, bk_storesSoFar, bk_contents_many, bk_contents_much, bk_isBroth, bk_low, bk_high, bk_storesIn, bk_texts, bk_cooked, t_book_cooked)
def g_X11_cook (LS : List Nat) (SE : Nat → SV) (t_boiledOver : Int32) (t_book_cauldrons : Int32) (t_book_spells : Int32) (t_book_cookedSoFar : Int32) (t_book_storesSoFar : Int32) (t_book_texts : Nat → Option Nat) (t_cooking_boilsAt : Int32) (t_cooking_cause : Int32) (t_cooking_causeDetail : Int32) (t_cooking_spoons : Int32) (t_cooking_now_many : Nat → Int32) (t_book_contents_many : Nat → Int32) (t_cooking_now_much : Nat → UInt32) (t_book_contents_much : Nat → UInt32) (t_cooking_before_many : Nat → Int32) (t_cooking_before_much : Nat → UInt32) (t_cooking_storesIn : Nat → Int32) (t_book_isBroth : Nat → Int32) (t_cooking_isBroth : Nat → Int32) (t_cooking_many : Nat → Int32) (t_cooking_much : Nat → UInt32) (t_book_low : Nat → Int32) (t_book_high : Nat → Int32) (t_history_next : Int32) (t_history_changes : Int32) (t_history_books : Nat → Option Nat) (bk_cauldrons : Int32) (bk_spells : Int32) (bk_cookedSoFar : Int32) (bk_storesSoFar : Int32) (bk_contents_many : Nat → Int32) (bk_contents_much : Nat → UInt32) (bk_isBroth : Nat → Int32) (bk_low : Nat → Int32) (bk_high : Nat → Int32) (bk_storesIn : Nat → Int32) (t_book_storesIn : Nat → Int32) (bk_texts : Nat → Option Nat) (bk_cooked : Nat → Int32) (t_book_cooked : Nat → Int32) (t_refusal_isKept : Int32) (t_refusal_reason : Int32) (t_refusal_detail : Int32) (t_refusal_hasCause : Int32) (t_refusal_cause : Int32) (t_refusal_causeDetail : Int32) (p1 : Int32) (a_bk : Nat) : Option (Int32 × Int32 × Int32 × Int32 × Int32 × Int32 × Int32 × Int32 × Int32 × (Nat → Int32) × (Nat → Int32) × (Nat → UInt32) × (Nat → UInt32) × (Nat → Int32) × (Nat → UInt32) × (Nat → Int32) × (Nat → Int32) × (Nat → Int32) × (Nat → UInt32) × Int32 × Int32 × Int32 × Int32 × Int32 × Int32 × (Nat → Int32) × (Nat → UInt32) × (Nat → Int32) × (Nat → Int32) × (Nat → Int32) × (Nat → Int32) × (Nat → Int32) × (Nat → Option Nat) × (Nat → Int32) × (Nat → Int32) × Int32 × Int32 × Int32 × Int32 × Int32 × Int32) :=
  gb (g_X11_needSpell LS SE t_book_spells t_book_texts p1) fun r1 =>
  if r1.1 = 0 then
    go r1.2 (
      none) fun a_y2 =>
    gc (inl9 LS a_y2) <|
    gb (g_X2_begin t_cooking_now_many t_book_contents_many t_cooking_now_much t_book_contents_much) fun r2 =>
    gb (g_X2_goesOn t_cooking_boilsAt t_cooking_cause t_cooking_causeDetail t_cooking_spoons ((SE a_y2).2.2.1) t_cooking_before_many r2.1 t_cooking_before_much r2.2 t_cooking_storesIn ((SE a_y2).2.2.2.2.2.2.1) ((SE a_y2).2.2.2.2.2.2.2.1) t_book_isBroth t_cooking_isBroth t_cooking_many t_cooking_much t_book_low t_book_high) fun r3 =>
    if r3.1 = 0 then
      gl (t_boiledOver + 1) fun v7 =>
      gb (g_X7_keepWithCause t_refusal_isKept t_refusal_reason t_refusal_detail t_refusal_hasCause t_refusal_cause t_refusal_causeDetail (6 : Int32) r3.2.1 r3.2.2.1 r3.2.2.2.1) fun r8 =>
      some (4, 0, v7, t_book_cookedSoFar, t_book_storesSoFar, r3.2.1, r3.2.2.1, r3.2.2.2.1, r3.2.2.2.2.1, r3.2.2.2.2.2.2.1, t_book_contents_many, r3.2.2.2.2.2.2.2.2.1, t_book_contents_much, r3.2.2.2.2.2.1, r3.2.2.2.2.2.2.2.1, r3.2.2.2.2.2.2.2.2.2.1, r3.2.2.2.2.2.2.2.2.2.2.1, r3.2.2.2.2.2.2.2.2.2.2.2.1, r3.2.2.2.2.2.2.2.2.2.2.2.2, t_history_next, t_history_changes, bk_cauldrons, bk_spells, bk_cookedSoFar, bk_storesSoFar, bk_contents_many, bk_contents_much, bk_isBroth, bk_low, bk_high, bk_storesIn, t_book_storesIn, bk_texts, bk_cooked, t_book_cooked, r8.1, r8.2.1, r8.2.2.1, r8.2.2.2.1, r8.2.2.2.2.1, r8.2.2.2.2.2)
    else
      gb (g_X4_remember LS SE t_history_next t_history_changes t_book_cauldrons t_book_spells t_book_cookedSoFar t_book_storesSoFar t_history_books bk_cauldrons bk_spells bk_cookedSoFar bk_storesSoFar bk_contents_many t_book_contents_many bk_contents_much t_book_contents_much bk_isBroth t_book_isBroth bk_low t_book_low bk_high t_book_high bk_storesIn t_book_storesIn bk_texts t_book_texts bk_cooked t_book_cooked a_bk) fun r4 =>
      gb (g_X0_settle t_book_cookedSoFar t_book_storesSoFar t_book_contents_many r3.2.2.2.2.2.2.1 t_book_contents_much r3.2.2.2.2.2.2.2.2.1 t_book_cooked t_book_storesIn r3.2.2.2.2.2.2.2.2.2.1 p1) fun r5 =>
      gb (g_X2_changes r3.2.2.2.2.2.2.1 r3.2.2.2.2.2.1 r3.2.2.2.2.2.2.2.2.1 r3.2.2.2.2.2.2.2.1) fun r6 =>
      some (0, r6, t_boiledOver, r5.1, r5.2.1, r3.2.1, r3.2.2.1, r3.2.2.2.1, r3.2.2.2.2.1, r3.2.2.2.2.2.2.1, r5.2.2.1, r3.2.2.2.2.2.2.2.2.1, r5.2.2.2.1, r3.2.2.2.2.2.1, r3.2.2.2.2.2.2.2.1, r3.2.2.2.2.2.2.2.2.2.1, r3.2.2.2.2.2.2.2.2.2.2.1, r3.2.2.2.2.2.2.2.2.2.2.2.1, r3.2.2.2.2.2.2.2.2.2.2.2.2, r4.1, r4.2.1, r4.2.2.1, r4.2.2.2.1, r4.2.2.2.2.1, r4.2.2.2.2.2.1, r4.2.2.2.2.2.2.1, r4.2.2.2.2.2.2.2.1, r4.2.2.2.2.2.2.2.2.1, r4.2.2.2.2.2.2.2.2.2.1, r4.2.2.2.2.2.2.2.2.2.2.1, r4.2.2.2.2.2.2.2.2.2.2.2.1, r5.2.2.2.2.2, r4.2.2.2.2.2.2.2.2.2.2.2.2.1, r4.2.2.2.2.2.2.2.2.2.2.2.2.2, r5.2.2.2.2.1, t_refusal_isKept, t_refusal_reason, t_refusal_detail, t_refusal_hasCause, t_refusal_cause, t_refusal_causeDetail)
  else
    some (r1.1, 0, t_boiledOver, t_book_cookedSoFar, t_book_storesSoFar, t_cooking_boilsAt, t_cooking_cause, t_cooking_causeDetail, t_cooking_spoons, t_cooking_now_many, t_book_contents_many, t_cooking_now_much, t_book_contents_much, t_cooking_before_many, t_cooking_before_much, t_cooking_storesIn, t_cooking_isBroth, t_cooking_many, t_cooking_much, t_history_next, t_history_changes, bk_cauldrons, bk_spells, bk_cookedSoFar, bk_storesSoFar, bk_contents_many, bk_contents_much, bk_isBroth, bk_low, bk_high, bk_storesIn, t_book_storesIn, bk_texts, bk_cooked, t_book_cooked, t_refusal_isKept, t_refusal_reason, t_refusal_detail, t_refusal_hasCause, t_refusal_cause, t_refusal_causeDetail)
def g_X11_cookAll_b125 (LS : List Nat) (SE : Nat → SV) (t_book_spells : Int32) (t_book_texts : Nat → Option Nat) (t_book_isBroth : Nat → Int32) (t_book_low : Nat → Int32) (t_book_high : Nat → Int32) (t_refusal_isKept : Int32) (t_refusal_reason : Int32) (t_refusal_detail : Int32) (t_refusal_hasCause : Int32) (k48 : (Nat → Int32) → (Nat → UInt32) → (Nat → Int32) → (Nat → Int32) → (Nat → Int32) → (Nat → Int32) → (Nat → Int32) → (Nat → Option Nat) → (Nat → Int32) → (Nat → UInt32) → (Nat → Int32) → (Nat → Int32) → (Nat → Int32) → (Nat → UInt32) → (Nat → Int32) → (Nat → Int32) → (Nat → UInt32) → (Nat → Int32) → (Nat → UInt32) → (Nat → Int32) → (Nat → Int64) → (Nat → Int32) → (Nat → Int64) → (Nat → Int64) → (Nat → Int32) → (Nat → Int64) → Int32 → Int32 → Int32 → Int32 → Int32 → Int32 → Int32 → Int32 → Int32 → Int32 → Int32 → Int32 → Int32 → Int32 → Int32 → Int32 → Int32 → Option (Int32 × Int32 × Int32 × Int32 × Int32 × Int32 × Int32 × (Nat → Int32) × (Nat → Int64) × (Nat → Int64) × (Nat → Int32) × (Nat → Int64) × (Nat → Int64) × Int32 × Int32 × Int32 × Int32 × Int32 × Int32 × (Nat → Int32) × (Nat → Int32) × (Nat → UInt32) × (Nat → UInt32) × (Nat → Int32) × (Nat → Int32) × (Nat → Int32) × (Nat → Int32) × (Nat → Int32) × (Nat → Option Nat) × (Nat → Int32) × (Nat → Int32) × Int32 × Int32 × Int32 × Int32 × Int32 × Int32 × Int32 × Int32 × (Nat → Int32) × (Nat → UInt32) × (Nat → Int32) × (Nat → UInt32) × (Nat → Int32) × (Nat → Int32) × (Nat → Int32) × (Nat → UInt32))) (bk_contents_many_125 : Nat → Int32) (bk_contents_much_125 : Nat → UInt32) (bk_cooked_125 : Nat → Int32) (bk_high_125 : Nat → Int32) (bk_isBroth_125 : Nat → Int32) (bk_low_125 : Nat → Int32) (bk_storesIn_125 : Nat → Int32) (bk_texts_125 : Nat → Option Nat) (t_book_contents_many_125 : Nat → Int32) (t_book_contents_much_125 : Nat → UInt32) (t_book_cooked_125 : Nat → Int32) (t_book_storesIn_125 : Nat → Int32) (t_cooking_before_many_125 : Nat → Int32) (t_cooking_before_much_125 : Nat → UInt32) (t_cooking_isBroth_125 : Nat → Int32) (t_cooking_many_125 : Nat → Int32) (t_cooking_much_125 : Nat → UInt32) (t_cooking_now_many_125 : Nat → Int32) (t_cooking_now_much_125 : Nat → UInt32) (t_cooking_storesIn_125 : Nat → Int32) (t_typing_high_125 : Nat → Int64) (t_typing_isBroth_125 : Nat → Int32) (t_typing_low_125 : Nat → Int64) (t_typing_storeHigh_125 : Nat → Int64) (t_typing_storeIsBroth_125 : Nat → Int32) (t_typing_storeLow_125 : Nat → Int64) (bk_cauldrons_125 : Int32) (bk_storesSoFar_125 : Int32) (bk_spells_125 : Int32) (bk_cookedSoFar_125 : Int32) (t_book_storesSoFar_125 : Int32) (t_book_cookedSoFar_125 : Int32) (t_cooking_boilsAt_125 : Int32) (t_cooking_cause_125 : Int32) (t_cooking_causeDetail_125 : Int32) (t_cooking_spoons_125 : Int32) (t_history_next_125 : Int32) (t_history_changes_125 : Int32) (t_typing_faultAt_125 : Int32) (t_typing_stores_125 : Int32) (t_typing_spoons_125 : Int32) (x1_125 : Int32) (x2_125 : Int32) : Option (Int32 × Int32 × Int32 × Int32 × Int32 × Int32 × Int32 × (Nat → Int32) × (Nat → Int64) × (Nat → Int64) × (Nat → Int32) × (Nat → Int64) × (Nat → Int64) × Int32 × Int32 × Int32 × Int32 × Int32 × Int32 × (Nat → Int32) × (Nat → Int32) × (Nat → UInt32) × (Nat → UInt32) × (Nat → Int32) × (Nat → Int32) × (Nat → Int32) × (Nat → Int32) × (Nat → Int32) × (Nat → Option Nat) × (Nat → Int32) × (Nat → Int32) × Int32 × Int32 × Int32 × Int32 × Int32 × Int32 × Int32 × Int32 × (Nat → Int32) × (Nat → UInt32) × (Nat → Int32) × (Nat → UInt32) × (Nat → Int32) × (Nat → Int32) × (Nat → Int32) × (Nat → UInt32)) :=
  gl (x2_125 + 1) fun v4 =>
  k48 bk_contents_many_125 bk_contents_much_125 bk_cooked_125 bk_high_125 bk_isBroth_125 bk_low_125 bk_storesIn_125 bk_texts_125 t_book_contents_many_125 t_book_contents_much_125 t_book_cooked_125 t_book_storesIn_125 t_cooking_before_many_125 t_cooking_before_much_125 t_cooking_isBroth_125 t_cooking_many_125 t_cooking_much_125 t_cooking_now_many_125 t_cooking_now_much_125 t_cooking_storesIn_125 t_typing_high_125 t_typing_isBroth_125 t_typing_low_125 t_typing_storeHigh_125 t_typing_storeIsBroth_125 t_typing_storeLow_125 bk_cauldrons_125 bk_storesSoFar_125 bk_spells_125 bk_cookedSoFar_125 t_book_storesSoFar_125 t_book_cookedSoFar_125 t_cooking_boilsAt_125 t_cooking_cause_125 t_cooking_causeDetail_125 t_cooking_spoons_125 t_history_next_125 t_history_changes_125 t_typing_faultAt_125 t_typing_stores_125 t_typing_spoons_125 x1_125 v4
def g_X11_cookAll_b48 (LS : List Nat) (SE : Nat → SV) (t_book_spells : Int32) (t_book_texts : Nat → Option Nat) (t_book_isBroth : Nat → Int32) (t_book_low : Nat → Int32) (t_book_high : Nat → Int32) (t_refusal_isKept : Int32) (t_refusal_reason : Int32) (t_refusal_detail : Int32) (t_refusal_hasCause : Int32) : Nat → (Nat → Int32) → (Nat → UInt32) → (Nat → Int32) → (Nat → Int32) → (Nat → Int32) → (Nat → Int32) → (Nat → Int32) → (Nat → Option Nat) → (Nat → Int32) → (Nat → UInt32) → (Nat → Int32) → (Nat → Int32) → (Nat → Int32) → (Nat → UInt32) → (Nat → Int32) → (Nat → Int32) → (Nat → UInt32) → (Nat → Int32) → (Nat → UInt32) → (Nat → Int32) → (Nat → Int64) → (Nat → Int32) → (Nat → Int64) → (Nat → Int64) → (Nat → Int32) → (Nat → Int64) → Int32 → Int32 → Int32 → Int32 → Int32 → Int32 → Int32 → Int32 → Int32 → Int32 → Int32 → Int32 → Int32 → Int32 → Int32 → Int32 → Int32 → Option (Int32 × Int32 × Int32 × Int32 × Int32 × Int32 × Int32 × (Nat → Int32) × (Nat → Int64) × (Nat → Int64) × (Nat → Int32) × (Nat → Int64) × (Nat → Int64) × Int32 × Int32 × Int32 × Int32 × Int32 × Int32 × (Nat → Int32) × (Nat → Int32) × (Nat → UInt32) × (Nat → UInt32) × (Nat → Int32) × (Nat → Int32) × (Nat → Int32) × (Nat → Int32) × (Nat → Int32) × (Nat → Option Nat) × (Nat → Int32) × (Nat → Int32) × Int32 × Int32 × Int32 × Int32 × Int32 × Int32 × Int32 × Int32 × (Nat → Int32) × (Nat → UInt32) × (Nat → Int32) × (Nat → UInt32) × (Nat → Int32) × (Nat → Int32) × (Nat → Int32) × (Nat → UInt32))
  | 0, _, _, _, _, _, _, _, _, _, _, _, _, _, _, _, _, _, _, _, _, _, _, _, _, _, _, _, _, _, _, _, _, _, _, _, _, _, _, _, _, _, _, _ => none
  | n + 1, bk_contents_many_48, bk_contents_much_48, bk_cooked_48, bk_high_48, bk_isBroth_48, bk_low_48, bk_storesIn_48, bk_texts_48, t_book_contents_many_48, t_book_contents_much_48, t_book_cooked_48, t_book_storesIn_48, t_cooking_before_many_48, t_cooking_before_much_48, t_cooking_isBroth_48, t_cooking_many_48, t_cooking_much_48, t_cooking_now_many_48, t_cooking_now_much_48, t_cooking_storesIn_48, t_typing_high_48, t_typing_isBroth_48, t_typing_low_48, t_typing_storeHigh_48, t_typing_storeIsBroth_48, t_typing_storeLow_48, bk_cauldrons_48, bk_storesSoFar_48, bk_spells_48, bk_cookedSoFar_48, t_book_storesSoFar_48, t_book_cookedSoFar_48, t_cooking_boilsAt_48, t_cooking_cause_48, t_cooking_causeDetail_48, t_cooking_spoons_48, t_history_next_48, t_history_changes_48, t_typing_faultAt_48, t_typing_stores_48, t_typing_spoons_48, x1_48, x2_48 =>
    if t_book_spells ≤ x2_48 then
      some (0, x1_48, t_book_cookedSoFar_48, t_book_storesSoFar_48, t_typing_faultAt_48, t_typing_stores_48, t_typing_spoons_48, t_typing_isBroth_48, t_typing_low_48, t_typing_high_48, t_typing_storeIsBroth_48, t_typing_storeLow_48, t_typing_storeHigh_48, t_history_next_48, t_history_changes_48, bk_cauldrons_48, bk_spells_48, bk_cookedSoFar_48, bk_storesSoFar_48, bk_contents_many_48, t_book_contents_many_48, bk_contents_much_48, t_book_contents_much_48, bk_isBroth_48, bk_low_48, bk_high_48, bk_storesIn_48, t_book_storesIn_48, bk_texts_48, bk_cooked_48, t_book_cooked_48, t_refusal_isKept, t_refusal_reason, t_refusal_detail, t_refusal_hasCause, t_cooking_boilsAt_48, t_cooking_cause_48, t_cooking_causeDetail_48, t_cooking_spoons_48, t_cooking_now_many_48, t_cooking_now_much_48, t_cooking_before_many_48, t_cooking_before_much_48, t_cooking_storesIn_48, t_cooking_isBroth_48, t_cooking_many_48, t_cooking_much_48)
    else
      gb (g_X0_spellAt t_book_spells t_book_texts x2_48) fun r5 =>
      go r5 (
        g_X11_cookAll_b125 LS SE t_book_spells t_book_texts t_book_isBroth t_book_low t_book_high t_refusal_isKept t_refusal_reason t_refusal_detail t_refusal_hasCause (g_X11_cookAll_b48 LS SE t_book_spells t_book_texts t_book_isBroth t_book_low t_book_high t_refusal_isKept t_refusal_reason t_refusal_detail t_refusal_hasCause n) bk_contents_many_48 bk_contents_much_48 bk_cooked_48 bk_high_48 bk_isBroth_48 bk_low_48 bk_storesIn_48 bk_texts_48 t_book_contents_many_48 t_book_contents_much_48 t_book_cooked_48 t_book_storesIn_48 t_cooking_before_many_48 t_cooking_before_much_48 t_cooking_isBroth_48 t_cooking_many_48 t_cooking_much_48 t_cooking_now_many_48 t_cooking_now_much_48 t_cooking_storesIn_48 t_typing_high_48 t_typing_isBroth_48 t_typing_low_48 t_typing_storeHigh_48 t_typing_storeIsBroth_48 t_typing_storeLow_48 bk_cauldrons_48 bk_storesSoFar_48 bk_spells_48 bk_cookedSoFar_48 t_book_storesSoFar_48 t_book_cookedSoFar_48 t_cooking_boilsAt_48 t_cooking_cause_48 t_cooking_causeDetail_48 t_cooking_spoons_48 t_history_next_48 t_history_changes_48 t_typing_faultAt_48 t_typing_stores_48 t_typing_spoons_48 x1_48 x2_48) fun a_y64 =>
      gc (inl9 LS a_y64) <|
      gb (g_X9_passes t_typing_faultAt_48 t_typing_stores_48 t_typing_spoons_48 ((SE a_y64).2.2.1) ((SE a_y64).2.2.2.2.2.2.1) ((SE a_y64).2.2.2.2.2.2.2.1) t_book_isBroth t_book_low t_book_high t_typing_isBroth_48 t_typing_low_48 t_typing_high_48 t_typing_storeIsBroth_48 t_typing_storeLow_48 t_typing_storeHigh_48) fun r6 =>
      if r6.1 = 0 then
        g_X11_cookAll_b125 LS SE t_book_spells t_book_texts t_book_isBroth t_book_low t_book_high t_refusal_isKept t_refusal_reason t_refusal_detail t_refusal_hasCause (g_X11_cookAll_b48 LS SE t_book_spells t_book_texts t_book_isBroth t_book_low t_book_high t_refusal_isKept t_refusal_reason t_refusal_detail t_refusal_hasCause n) bk_contents_many_48 bk_contents_much_48 bk_cooked_48 bk_high_48 bk_isBroth_48 bk_low_48 bk_storesIn_48 bk_texts_48 t_book_contents_many_48 t_book_contents_much_48 t_book_cooked_48 t_book_storesIn_48 t_cooking_before_many_48 t_cooking_before_much_48 t_cooking_isBroth_48 t_cooking_many_48 t_cooking_much_48 t_cooking_now_many_48 t_cooking_now_much_48 t_cooking_storesIn_48 r6.2.2.2.2.2.2.1 r6.2.2.2.2.1 r6.2.2.2.2.2.1 r6.2.2.2.2.2.2.2.2.2 r6.2.2.2.2.2.2.2.1 r6.2.2.2.2.2.2.2.2.1 bk_cauldrons_48 bk_storesSoFar_48 bk_spells_48 bk_cookedSoFar_48 t_book_storesSoFar_48 t_book_cookedSoFar_48 t_cooking_boilsAt_48 t_cooking_cause_48 t_cooking_causeDetail_48 t_cooking_spoons_48 t_history_next_48 t_history_changes_48 r6.2.1 r6.2.2.1 r6.2.2.2.1 x1_48 x2_48
      else
        gb (g_X2_begin t_cooking_now_many_48 t_book_contents_many_48 t_cooking_now_much_48 t_book_contents_much_48) fun r7 =>
        gb (g_X2_goesOn t_cooking_boilsAt_48 t_cooking_cause_48 t_cooking_causeDetail_48 t_cooking_spoons_48 ((SE a_y64).2.2.1) t_cooking_before_many_48 r7.1 t_cooking_before_much_48 r7.2 t_cooking_storesIn_48 ((SE a_y64).2.2.2.2.2.2.1) ((SE a_y64).2.2.2.2.2.2.2.1) t_book_isBroth t_cooking_isBroth_48 t_cooking_many_48 t_cooking_much_48 t_book_low t_book_high) fun r8 =>
        if r8.1 = 0 then
          g_X11_cookAll_b125 LS SE t_book_spells t_book_texts t_book_isBroth t_book_low t_book_high t_refusal_isKept t_refusal_reason t_refusal_detail t_refusal_hasCause (g_X11_cookAll_b48 LS SE t_book_spells t_book_texts t_book_isBroth t_book_low t_book_high t_refusal_isKept t_refusal_reason t_refusal_detail t_refusal_hasCause n) bk_contents_many_48 bk_contents_much_48 bk_cooked_48 bk_high_48 bk_isBroth_48 bk_low_48 bk_storesIn_48 bk_texts_48 t_book_contents_many_48 t_book_contents_much_48 t_book_cooked_48 t_book_storesIn_48 r8.2.2.2.2.2.1 r8.2.2.2.2.2.2.2.1 r8.2.2.2.2.2.2.2.2.2.2.1 r8.2.2.2.2.2.2.2.2.2.2.2.1 r8.2.2.2.2.2.2.2.2.2.2.2.2 r8.2.2.2.2.2.2.1 r8.2.2.2.2.2.2.2.2.1 r8.2.2.2.2.2.2.2.2.2.1 r6.2.2.2.2.2.2.1 r6.2.2.2.2.1 r6.2.2.2.2.2.1 r6.2.2.2.2.2.2.2.2.2 r6.2.2.2.2.2.2.2.1 r6.2.2.2.2.2.2.2.2.1 bk_cauldrons_48 bk_storesSoFar_48 bk_spells_48 bk_cookedSoFar_48 t_book_storesSoFar_48 t_book_cookedSoFar_48 r8.2.1 r8.2.2.1 r8.2.2.2.1 r8.2.2.2.2.1 t_history_next_48 t_history_changes_48 r6.2.1 r6.2.2.1 r6.2.2.2.1 x1_48 x2_48
        else
          gb (g_X0_settle t_book_cookedSoFar_48 t_book_storesSoFar_48 t_book_contents_many_48 r8.2.2.2.2.2.2.1 t_book_contents_much_48 r8.2.2.2.2.2.2.2.2.1 t_book_cooked_48 t_book_storesIn_48 r8.2.2.2.2.2.2.2.2.2.1 x2_48) fun r9 =>
          g_X11_cookAll_b125 LS SE t_book_spells t_book_texts t_book_isBroth t_book_low t_book_high t_refusal_isKept t_refusal_reason t_refusal_detail t_refusal_hasCause (g_X11_cookAll_b48 LS SE t_book_spells t_book_texts t_book_isBroth t_book_low t_book_high t_refusal_isKept t_refusal_reason t_refusal_detail t_refusal_hasCause n) bk_contents_many_48 bk_contents_much_48 bk_cooked_48 bk_high_48 bk_isBroth_48 bk_low_48 bk_storesIn_48 bk_texts_48 r9.2.2.1 r9.2.2.2.1 r9.2.2.2.2.1 r9.2.2.2.2.2 r8.2.2.2.2.2.1 r8.2.2.2.2.2.2.2.1 r8.2.2.2.2.2.2.2.2.2.2.1 r8.2.2.2.2.2.2.2.2.2.2.2.1 r8.2.2.2.2.2.2.2.2.2.2.2.2 r8.2.2.2.2.2.2.1 r8.2.2.2.2.2.2.2.2.1 r8.2.2.2.2.2.2.2.2.2.1 r6.2.2.2.2.2.2.1 r6.2.2.2.2.1 r6.2.2.2.2.2.1 r6.2.2.2.2.2.2.2.2.2 r6.2.2.2.2.2.2.2.1 r6.2.2.2.2.2.2.2.2.1 bk_cauldrons_48 bk_storesSoFar_48 bk_spells_48 bk_cookedSoFar_48 r9.2.1 r9.1 r8.2.1 r8.2.2.1 r8.2.2.2.1 r8.2.2.2.2.1 t_history_next_48 t_history_changes_48 r6.2.1 r6.2.2.1 r6.2.2.2.1 x1_48 x2_48
def g_X11_cookAll (LS : List Nat) (SE : Nat → SV) (t_book_cauldrons : Int32) (t_book_spells : Int32) (t_book_cookedSoFar : Int32) (t_book_storesSoFar : Int32) (t_book_texts : Nat → Option Nat) (t_typing_faultAt : Int32) (t_typing_stores : Int32) (t_typing_spoons : Int32) (t_book_isBroth : Nat → Int32) (t_book_low : Nat → Int32) (t_book_high : Nat → Int32) (t_typing_isBroth : Nat → Int32) (t_typing_low : Nat → Int64) (t_typing_high : Nat → Int64) (t_typing_storeIsBroth : Nat → Int32) (t_typing_storeLow : Nat → Int64) (t_typing_storeHigh : Nat → Int64) (t_history_next : Int32) (t_history_changes : Int32) (t_history_books : Nat → Option Nat) (bk_cauldrons : Int32) (bk_spells : Int32) (bk_cookedSoFar : Int32) (bk_storesSoFar : Int32) (bk_contents_many : Nat → Int32) (t_book_contents_many : Nat → Int32) (bk_contents_much : Nat → UInt32) (t_book_contents_much : Nat → UInt32) (bk_isBroth : Nat → Int32) (bk_low : Nat → Int32) (bk_high : Nat → Int32) (bk_storesIn : Nat → Int32) (t_book_storesIn : Nat → Int32) (bk_texts : Nat → Option Nat) (bk_cooked : Nat → Int32) (t_book_cooked : Nat → Int32) (t_refusal_isKept : Int32) (t_refusal_reason : Int32) (t_refusal_detail : Int32) (t_refusal_hasCause : Int32) (t_cooking_boilsAt : Int32) (t_cooking_cause : Int32) (t_cooking_causeDetail : Int32) (t_cooking_spoons : Int32) (t_cooking_now_many : Nat → Int32) (t_cooking_now_much : Nat → UInt32) (t_cooking_before_many : Nat → Int32) (t_cooking_before_much : Nat → UInt32) (t_cooking_storesIn : Nat → Int32) (t_cooking_isBroth : Nat → Int32) (t_cooking_many : Nat → Int32) (t_cooking_much : Nat → UInt32) (a_bk : Nat) : Option (Int32 × Int32 × Int32 × Int32 × Int32 × Int32 × Int32 × (Nat → Int32) × (Nat → Int64) × (Nat → Int64) × (Nat → Int32) × (Nat → Int64) × (Nat → Int64) × Int32 × Int32 × Int32 × Int32 × Int32 × Int32 × (Nat → Int32) × (Nat → Int32) × (Nat → UInt32) × (Nat → UInt32) × (Nat → Int32) × (Nat → Int32) × (Nat → Int32) × (Nat → Int32) × (Nat → Int32) × (Nat → Option Nat) × (Nat → Int32) × (Nat → Int32) × Int32 × Int32 × Int32 × Int32 × Int32 × Int32 × Int32 × Int32 × (Nat → Int32) × (Nat → UInt32) × (Nat → Int32) × (Nat → UInt32) × (Nat → Int32) × (Nat → Int32) × (Nat → Int32) × (Nat → UInt32)) :=
  gb (g_X11_countTyped LS SE t_book_spells t_book_texts t_typing_faultAt t_typing_stores t_typing_spoons t_book_isBroth t_book_low t_book_high t_typing_isBroth t_typing_low t_typing_high t_typing_storeIsBroth t_typing_storeLow t_typing_storeHigh) fun r1 =>
  if r1.1 = 0 then
    gb (g_X7_keep t_refusal_isKept t_refusal_reason t_refusal_detail t_refusal_hasCause (9 : Int32) t_book_spells) fun r3 =>
    some (4, 0, t_book_cookedSoFar, t_book_storesSoFar, r1.2.1, r1.2.2.1, r1.2.2.2.1, r1.2.2.2.2.1, r1.2.2.2.2.2.1, r1.2.2.2.2.2.2.1, r1.2.2.2.2.2.2.2.1, r1.2.2.2.2.2.2.2.2.1, r1.2.2.2.2.2.2.2.2.2, t_history_next, t_history_changes, bk_cauldrons, bk_spells, bk_cookedSoFar, bk_storesSoFar, bk_contents_many, t_book_contents_many, bk_contents_much, t_book_contents_much, bk_isBroth, bk_low, bk_high, bk_storesIn, t_book_storesIn, bk_texts, bk_cooked, t_book_cooked, r3.1, r3.2.1, r3.2.2.1, r3.2.2.2, t_cooking_boilsAt, t_cooking_cause, t_cooking_causeDetail, t_cooking_spoons, t_cooking_now_many, t_cooking_now_much, t_cooking_before_many, t_cooking_before_much, t_cooking_storesIn, t_cooking_isBroth, t_cooking_many, t_cooking_much)
  else
    gb (g_X4_remember LS SE t_history_next t_history_changes t_book_cauldrons t_book_spells t_book_cookedSoFar t_book_storesSoFar t_history_books bk_cauldrons bk_spells bk_cookedSoFar bk_storesSoFar bk_contents_many t_book_contents_many bk_contents_much t_book_contents_much bk_isBroth t_book_isBroth bk_low t_book_low bk_high t_book_high bk_storesIn t_book_storesIn bk_texts t_book_texts bk_cooked t_book_cooked a_bk) fun r2 =>
    g_X11_cookAll_b48 LS SE t_book_spells t_book_texts t_book_isBroth t_book_low t_book_high t_refusal_isKept t_refusal_reason t_refusal_detail t_refusal_hasCause 100 r2.2.2.2.2.2.2.1 r2.2.2.2.2.2.2.2.1 r2.2.2.2.2.2.2.2.2.2.2.2.2.2 r2.2.2.2.2.2.2.2.2.2.2.1 r2.2.2.2.2.2.2.2.2.1 r2.2.2.2.2.2.2.2.2.2.1 r2.2.2.2.2.2.2.2.2.2.2.2.1 r2.2.2.2.2.2.2.2.2.2.2.2.2.1 t_book_contents_many t_book_contents_much t_book_cooked t_book_storesIn t_cooking_before_many t_cooking_before_much t_cooking_isBroth t_cooking_many t_cooking_much t_cooking_now_many t_cooking_now_much t_cooking_storesIn r1.2.2.2.2.2.2.1 r1.2.2.2.2.1 r1.2.2.2.2.2.1 r1.2.2.2.2.2.2.2.2.2 r1.2.2.2.2.2.2.2.1 r1.2.2.2.2.2.2.2.2.1 r2.2.2.1 r2.2.2.2.2.2.1 r2.2.2.2.1 r2.2.2.2.2.1 t_book_storesSoFar t_book_cookedSoFar t_cooking_boilsAt t_cooking_cause t_cooking_causeDetail t_cooking_spoons r2.1 r2.2.1 r1.2.1 r1.2.2.1 r1.2.2.2.1 r1.1 0
def g_X11_cauldronOf (LS : List Nat) (SE : Nat → SV) (t_book_cauldrons : Int32) (t_book_spells : Int32) (t_book_isBroth : Nat → Int32) (t_book_low : Nat → Int32) (t_book_high : Nat → Int32) (t_book_contents_many : Nat → Int32) (t_book_contents_much : Nat → UInt32) (t_book_storesIn : Nat → Int32) (t_book_texts : Nat → Option Nat) (p1 : Int32) (p2 : Int32) : Option (Int32 × Int32) :=
  gb (g_X11_needCauldron t_book_cauldrons p1) fun r1 =>
  if r1 = 0 then
    if p2 = 0 then
      gc (inb p1 6) <|
      if (t_book_isBroth p1.toNatClampNeg) = 0 then
        some (0, 0)
      else
        some (0, 1)
    else
      if p2 = 1 then
        gc (inb p1 6) <|
        gl (t_book_low p1.toNatClampNeg) fun v2 =>
        some (0, v2)
      else
        if p2 = 2 then
          gc (inb p1 6) <|
          gl (t_book_high p1.toNatClampNeg) fun v3 =>
          some (0, v3)
        else
          if p2 = 3 then
            gb (g_X0_cutContent t_book_isBroth t_book_contents_many t_book_contents_much p1) fun r4 =>
            some (0, r4)
          else
            if p2 = 4 then
              gc (inb p1 6) <|
              gl (t_book_storesIn p1.toNatClampNeg) fun v5 =>
              some (0, v5)
            else
              if p2 = 5 then
                gb (g_X0_spellsThat LS SE t_book_spells t_book_texts (0 : Int32) p1) fun r6 =>
                some (0, r6)
              else
                if p2 = 6 then
                  gb (g_X0_spellsThat LS SE t_book_spells t_book_texts (7 : Int32) p1) fun r7 =>
                  some (0, r7)
                else
                  some (1, 0)
  else
    some (r1, 0)
def g_X11_cups (t_book_cauldrons : Int32) (t_book_isBroth : Nat → Int32) (t_book_contents_much : Nat → UInt32) (p1 : Int32) : Option (Int32 × UInt32) :=
  gb (g_X11_needCauldron t_book_cauldrons p1) fun r1 =>
  if r1 = 0 then
    gc (inb p1 6) <|
    if (t_book_isBroth p1.toNatClampNeg) = 0 then
      some (3, FP.fconst0)
    else
      gc (inb p1 6) <|
      gl (t_book_contents_much p1.toNatClampNeg) fun v2 =>
      some (0, v2)
  else
    some (r1, FP.fconst0)
def g_X11_bits (t_book_cauldrons : Int32) (t_book_isBroth : Nat → Int32) (t_book_contents_many : Nat → Int32) (t_book_contents_much : Nat → UInt32) (p1 : Int32) : Option (Int32 × Int32) :=
  gb (g_X11_needCauldron t_book_cauldrons p1) fun r1 =>
  if r1 = 0 then
    gc (inb p1 6) <|
    if (t_book_isBroth p1.toNatClampNeg) = 0 then
      gc (inb p1 6) <|
      gb (g_X5_bitsOf (FP.i2f (t_book_contents_many p1.toNatClampNeg))) fun r2 =>
      some (0, r2)
    else
      gc (inb p1 6) <|
      gb (g_X5_bitsOf (t_book_contents_much p1.toNatClampNeg)) fun r3 =>
      some (0, r3)
  else
    some (r1, 0)
def g_X11_spellOf (LS : List Nat) (SE : Nat → SV) (t_book_spells : Int32) (t_book_texts : Nat → Option Nat) (t_typing_faultAt : Int32) (t_typing_stores : Int32) (t_typing_spoons : Int32) (t_book_isBroth : Nat → Int32) (t_book_low : Nat → Int32) (t_book_high : Nat → Int32) (t_typing_isBroth : Nat → Int32) (t_typing_low : Nat → Int64) (t_typing_high : Nat → Int64) (t_typing_storeIsBroth : Nat → Int32) (t_typing_storeLow : Nat → Int64) (t_typing_storeHigh : Nat → Int64) (t_book_cooked : Nat → Int32) (p1 : Int32) (p2 : Int32) : Option (Int32 × Int32 × Int32 × Int32 × Int32 × (Nat → Int32) × (Nat → Int64) × (Nat → Int64) × (Nat → Int32) × (Nat → Int64) × (Nat → Int64)) :=
  gb (g_X11_needSpell LS SE t_book_spells t_book_texts p1) fun r1 =>
  if r1.1 = 0 then
    go r1.2 (
      none) fun a_y2 =>
    gc (inl9 LS a_y2) <|
    if p2 = 0 then
      gl ((SE a_y2).2.2.1) fun v2 =>
      some (0, v2, t_typing_faultAt, t_typing_stores, t_typing_spoons, t_typing_isBroth, t_typing_low, t_typing_high, t_typing_storeIsBroth, t_typing_storeLow, t_typing_storeHigh)
    else
      if p2 = 1 then
        gl ((SE a_y2).2.2.2.1) fun v3 =>
        some (0, v3, t_typing_faultAt, t_typing_stores, t_typing_spoons, t_typing_isBroth, t_typing_low, t_typing_high, t_typing_storeIsBroth, t_typing_storeLow, t_typing_storeHigh)
      else
        if p2 = 2 then
          gl ((SE a_y2).2.2.2.2.1) fun v4 =>
          some (0, v4, t_typing_faultAt, t_typing_stores, t_typing_spoons, t_typing_isBroth, t_typing_low, t_typing_high, t_typing_storeIsBroth, t_typing_storeLow, t_typing_storeHigh)
        else
          if p2 = 3 then
            gb (g_X9_passes t_typing_faultAt t_typing_stores t_typing_spoons ((SE a_y2).2.2.1) ((SE a_y2).2.2.2.2.2.2.1) ((SE a_y2).2.2.2.2.2.2.2.1) t_book_isBroth t_book_low t_book_high t_typing_isBroth t_typing_low t_typing_high t_typing_storeIsBroth t_typing_storeLow t_typing_storeHigh) fun r5 =>
            if r5.1 = 0 then
              some (0, 0, r5.2.1, r5.2.2.1, r5.2.2.2.1, r5.2.2.2.2.1, r5.2.2.2.2.2.1, r5.2.2.2.2.2.2.1, r5.2.2.2.2.2.2.2.1, r5.2.2.2.2.2.2.2.2.1, r5.2.2.2.2.2.2.2.2.2)
            else
              some (0, 1, r5.2.1, r5.2.2.1, r5.2.2.2.1, r5.2.2.2.2.1, r5.2.2.2.2.2.1, r5.2.2.2.2.2.2.1, r5.2.2.2.2.2.2.2.1, r5.2.2.2.2.2.2.2.2.1, r5.2.2.2.2.2.2.2.2.2)
          else
            if p2 = 4 then
              gc (inb p1 4) <|
              gl (t_book_cooked p1.toNatClampNeg) fun v6 =>
              some (0, v6, t_typing_faultAt, t_typing_stores, t_typing_spoons, t_typing_isBroth, t_typing_low, t_typing_high, t_typing_storeIsBroth, t_typing_storeLow, t_typing_storeHigh)
            else
              some (1, 0, t_typing_faultAt, t_typing_stores, t_typing_spoons, t_typing_isBroth, t_typing_low, t_typing_high, t_typing_storeIsBroth, t_typing_storeLow, t_typing_storeHigh)
  else
    some (r1.1, 0, t_typing_faultAt, t_typing_stores, t_typing_spoons, t_typing_isBroth, t_typing_low, t_typing_high, t_typing_storeIsBroth, t_typing_storeLow, t_typing_storeHigh)
def g_X11_token_b18 : Option (Int32 × Int32) :=
  some (3, 0)
def g_X11_token (LS : List Nat) (SE : Nat → SV) (t_book_spells : Int32) (t_book_texts : Nat → Option Nat) (p1 : Int32) (p2 : Int32) : Option (Int32 × Int32) :=
  gb (g_X11_needSpell LS SE t_book_spells t_book_texts p1) fun r1 =>
  if r1.1 = 0 then
    go r1.2 (
      none) fun a_y2 =>
    gc (inl9 LS a_y2) <|
    if p2 < 0 then
      g_X11_token_b18
    else
      if p2 < (SE a_y2).2.2.1 then
        gc (inb p2 24) <|
        gl (((SE a_y2).2.2.2.2.2.1) p2.toNatClampNeg) fun v2 =>
        gc (cho v2) <|
        some (0, v2)
      else
        g_X11_token_b18
  else
    some (r1.1, 0)
def g_X11_types (LS : List Nat) (SE : Nat → SV) (t_book_spells : Int32) (t_book_texts : Nat → Option Nat) (t_typing_faultAt : Int32) (t_typing_stores : Int32) (t_typing_spoons : Int32) (t_book_isBroth : Nat → Int32) (t_book_low : Nat → Int32) (t_book_high : Nat → Int32) (t_typing_isBroth : Nat → Int32) (t_typing_low : Nat → Int64) (t_typing_high : Nat → Int64) (t_typing_storeIsBroth : Nat → Int32) (t_typing_storeLow : Nat → Int64) (t_typing_storeHigh : Nat → Int64) (p1 : Int32) : Option (Int32 × Int32 × Int32 × Int32 × Int32 × (Nat → Int32) × (Nat → Int64) × (Nat → Int64) × (Nat → Int32) × (Nat → Int64) × (Nat → Int64)) :=
  gb (g_X11_needSpell LS SE t_book_spells t_book_texts p1) fun r1 =>
  if r1.1 = 0 then
    go r1.2 (
      none) fun a_y2 =>
    gc (inl9 LS a_y2) <|
    gb (g_X9_passes t_typing_faultAt t_typing_stores t_typing_spoons ((SE a_y2).2.2.1) ((SE a_y2).2.2.2.2.2.2.1) ((SE a_y2).2.2.2.2.2.2.2.1) t_book_isBroth t_book_low t_book_high t_typing_isBroth t_typing_low t_typing_high t_typing_storeIsBroth t_typing_storeLow t_typing_storeHigh) fun r2 =>
    gc (bo r2.1) <|
    some (0, r2.1, r2.2.1, r2.2.2.1, r2.2.2.2.1, r2.2.2.2.2.1, r2.2.2.2.2.2.1, r2.2.2.2.2.2.2.1, r2.2.2.2.2.2.2.2.1, r2.2.2.2.2.2.2.2.2.1, r2.2.2.2.2.2.2.2.2.2)
  else
    some (r1.1, 0, t_typing_faultAt, t_typing_stores, t_typing_spoons, t_typing_isBroth, t_typing_low, t_typing_high, t_typing_storeIsBroth, t_typing_storeLow, t_typing_storeHigh)
def g_X11_typesAgain (LS : List Nat) (SE : Nat → SV) (t_book_spells : Int32) (t_book_texts : Nat → Option Nat) (t_typingByStores_isBroth : Nat → Int32) (t_typingByStores_low : Nat → Int64) (t_typingByStores_high : Nat → Int64) (t_book_isBroth : Nat → Int32) (t_book_low : Nat → Int32) (t_book_high : Nat → Int32) (p1 : Int32) : Option (Int32 × Int32 × (Nat → Int32) × (Nat → Int64) × (Nat → Int64)) :=
  gb (g_X11_needSpell LS SE t_book_spells t_book_texts p1) fun r1 =>
  if r1.1 = 0 then
    go r1.2 (
      none) fun a_y2 =>
    gc (inl9 LS a_y2) <|
    gb (g_X10_passes ((SE a_y2).2.2.1) ((SE a_y2).2.2.2.2.2.2.1) ((SE a_y2).2.2.2.2.2.2.2.2.1) ((SE a_y2).2.2.2.2.2.2.2.1) t_typingByStores_isBroth t_typingByStores_low t_typingByStores_high ((SE a_y2).2.2.2.2.2.2.2.2.2) t_book_isBroth t_book_low t_book_high) fun r2 =>
    gc (bo r2.1) <|
    some (0, r2.1, r2.2.1, r2.2.2.1, r2.2.2.2)
  else
    some (r1.1, 0, t_typingByStores_isBroth, t_typingByStores_low, t_typingByStores_high)
def g_X11_fault (LS : List Nat) (SE : Nat → SV) (t_book_spells : Int32) (t_book_texts : Nat → Option Nat) (t_typing_faultAt : Int32) (t_typing_stores : Int32) (t_typing_spoons : Int32) (t_book_isBroth : Nat → Int32) (t_book_low : Nat → Int32) (t_book_high : Nat → Int32) (t_typing_isBroth : Nat → Int32) (t_typing_low : Nat → Int64) (t_typing_high : Nat → Int64) (t_typing_storeIsBroth : Nat → Int32) (t_typing_storeLow : Nat → Int64) (t_typing_storeHigh : Nat → Int64) (p1 : Int32) : Option (Int32 × Int32 × Int32 × Int32 × Int32 × (Nat → Int32) × (Nat → Int64) × (Nat → Int64) × (Nat → Int32) × (Nat → Int64) × (Nat → Int64)) :=
  gb (g_X11_needSpell LS SE t_book_spells t_book_texts p1) fun r1 =>
  if r1.1 = 0 then
    go r1.2 (
      none) fun a_y2 =>
    gc (inl9 LS a_y2) <|
    gb (g_X9_passes t_typing_faultAt t_typing_stores t_typing_spoons ((SE a_y2).2.2.1) ((SE a_y2).2.2.2.2.2.2.1) ((SE a_y2).2.2.2.2.2.2.2.1) t_book_isBroth t_book_low t_book_high t_typing_isBroth t_typing_low t_typing_high t_typing_storeIsBroth t_typing_storeLow t_typing_storeHigh) fun r2 =>
    if r2.1 = 0 then
      some (0, r2.2.1, r2.2.1, r2.2.2.1, r2.2.2.2.1, r2.2.2.2.2.1, r2.2.2.2.2.2.1, r2.2.2.2.2.2.2.1, r2.2.2.2.2.2.2.2.1, r2.2.2.2.2.2.2.2.2.1, r2.2.2.2.2.2.2.2.2.2)
    else
      some (3, 0, r2.2.1, r2.2.2.1, r2.2.2.2.1, r2.2.2.2.2.1, r2.2.2.2.2.2.1, r2.2.2.2.2.2.2.1, r2.2.2.2.2.2.2.2.1, r2.2.2.2.2.2.2.2.2.1, r2.2.2.2.2.2.2.2.2.2)
  else
    some (r1.1, 0, t_typing_faultAt, t_typing_stores, t_typing_spoons, t_typing_isBroth, t_typing_low, t_typing_high, t_typing_storeIsBroth, t_typing_storeLow, t_typing_storeHigh)
def g_X11_bound_b49 (t_typing_high_49 : Nat → Int64) (t_typing_isBroth_49 : Nat → Int32) (t_typing_low_49 : Nat → Int64) (t_typing_storeHigh_49 : Nat → Int64) (t_typing_storeIsBroth_49 : Nat → Int32) (t_typing_storeLow_49 : Nat → Int64) (t_typing_faultAt_49 : Int32) (t_typing_stores_49 : Int32) (t_typing_spoons_49 : Int32) : Option (Int32 × Int32 × Int32 × Int32 × Int32 × (Nat → Int32) × (Nat → Int64) × (Nat → Int64) × (Nat → Int32) × (Nat → Int64) × (Nat → Int64)) :=
  some (3, 0, t_typing_faultAt_49, t_typing_stores_49, t_typing_spoons_49, t_typing_isBroth_49, t_typing_low_49, t_typing_high_49, t_typing_storeIsBroth_49, t_typing_storeLow_49, t_typing_storeHigh_49)
def g_X11_bound (LS : List Nat) (SE : Nat → SV) (t_book_spells : Int32) (t_book_texts : Nat → Option Nat) (t_typing_faultAt : Int32) (t_typing_stores : Int32) (t_typing_spoons : Int32) (t_book_isBroth : Nat → Int32) (t_book_low : Nat → Int32) (t_book_high : Nat → Int32) (t_typing_isBroth : Nat → Int32) (t_typing_low : Nat → Int64) (t_typing_high : Nat → Int64) (t_typing_storeIsBroth : Nat → Int32) (t_typing_storeLow : Nat → Int64) (t_typing_storeHigh : Nat → Int64) (p1 : Int32) (p2 : Int32) (p3 : Int32) : Option (Int32 × Int32 × Int32 × Int32 × Int32 × (Nat → Int32) × (Nat → Int64) × (Nat → Int64) × (Nat → Int32) × (Nat → Int64) × (Nat → Int64)) :=
  gb (g_X11_needSpell LS SE t_book_spells t_book_texts p1) fun r1 =>
  if r1.1 = 0 then
    go r1.2 (
      none) fun a_y2 =>
    gc (inl9 LS a_y2) <|
    gb (g_X9_passes t_typing_faultAt t_typing_stores t_typing_spoons ((SE a_y2).2.2.1) ((SE a_y2).2.2.2.2.2.2.1) ((SE a_y2).2.2.2.2.2.2.2.1) t_book_isBroth t_book_low t_book_high t_typing_isBroth t_typing_low t_typing_high t_typing_storeIsBroth t_typing_storeLow t_typing_storeHigh) fun r2 =>
    if r2.1 = 0 then
      some (3, 0, r2.2.1, r2.2.2.1, r2.2.2.2.1, r2.2.2.2.2.1, r2.2.2.2.2.2.1, r2.2.2.2.2.2.2.1, r2.2.2.2.2.2.2.2.1, r2.2.2.2.2.2.2.2.2.1, r2.2.2.2.2.2.2.2.2.2)
    else
      if p2 < 0 then
        g_X11_bound_b49 r2.2.2.2.2.2.2.1 r2.2.2.2.2.1 r2.2.2.2.2.2.1 r2.2.2.2.2.2.2.2.2.2 r2.2.2.2.2.2.2.2.1 r2.2.2.2.2.2.2.2.2.1 r2.2.1 r2.2.2.1 r2.2.2.2.1
      else
        if p2 < r2.2.2.1 then
          gc (inb p2 24) <|
          if (r2.2.2.2.2.2.2.2.1 p2.toNatClampNeg) = 0 then
            if p3 = 0 then
              gc (inb p2 24) <|
              gl ((r2.2.2.2.2.2.2.2.2.1 p2.toNatClampNeg).toInt32) fun v3 =>
              some (0, v3, r2.2.1, r2.2.2.1, r2.2.2.2.1, r2.2.2.2.2.1, r2.2.2.2.2.2.1, r2.2.2.2.2.2.2.1, r2.2.2.2.2.2.2.2.1, r2.2.2.2.2.2.2.2.2.1, r2.2.2.2.2.2.2.2.2.2)
            else
              gc (inb p2 24) <|
              gl ((r2.2.2.2.2.2.2.2.2.2 p2.toNatClampNeg).toInt32) fun v4 =>
              some (0, v4, r2.2.1, r2.2.2.1, r2.2.2.2.1, r2.2.2.2.2.1, r2.2.2.2.2.2.1, r2.2.2.2.2.2.2.1, r2.2.2.2.2.2.2.2.1, r2.2.2.2.2.2.2.2.2.1, r2.2.2.2.2.2.2.2.2.2)
          else
            some (3, 0, r2.2.1, r2.2.2.1, r2.2.2.2.1, r2.2.2.2.2.1, r2.2.2.2.2.2.1, r2.2.2.2.2.2.2.1, r2.2.2.2.2.2.2.2.1, r2.2.2.2.2.2.2.2.2.1, r2.2.2.2.2.2.2.2.2.2)
        else
          g_X11_bound_b49 r2.2.2.2.2.2.2.1 r2.2.2.2.2.1 r2.2.2.2.2.2.1 r2.2.2.2.2.2.2.2.2.2 r2.2.2.2.2.2.2.2.1 r2.2.2.2.2.2.2.2.2.1 r2.2.1 r2.2.2.1 r2.2.2.2.1
  else
    some (r1.1, 0, t_typing_faultAt, t_typing_stores, t_typing_spoons, t_typing_isBroth, t_typing_low, t_typing_high, t_typing_storeIsBroth, t_typing_storeLow, t_typing_storeHigh)
def g_X11_typed (LS : List Nat) (SE : Nat → SV) (t_book_spells : Int32) (t_book_texts : Nat → Option Nat) (t_typing_faultAt : Int32) (t_typing_stores : Int32) (t_typing_spoons : Int32) (t_book_isBroth : Nat → Int32) (t_book_low : Nat → Int32) (t_book_high : Nat → Int32) (t_typing_isBroth : Nat → Int32) (t_typing_low : Nat → Int64) (t_typing_high : Nat → Int64) (t_typing_storeIsBroth : Nat → Int32) (t_typing_storeLow : Nat → Int64) (t_typing_storeHigh : Nat → Int64) : Option (Int32 × Int32 × Int32 × Int32 × (Nat → Int32) × (Nat → Int64) × (Nat → Int64) × (Nat → Int32) × (Nat → Int64) × (Nat → Int64)) :=
  gb (g_X11_countTyped LS SE t_book_spells t_book_texts t_typing_faultAt t_typing_stores t_typing_spoons t_book_isBroth t_book_low t_book_high t_typing_isBroth t_typing_low t_typing_high t_typing_storeIsBroth t_typing_storeLow t_typing_storeHigh) fun r1 =>
  some (r1.1, r1.2.1, r1.2.2.1, r1.2.2.2.1, r1.2.2.2.2.1, r1.2.2.2.2.2.1, r1.2.2.2.2.2.2.1, r1.2.2.2.2.2.2.2.1, r1.2.2.2.2.2.2.2.2.1, r1.2.2.2.2.2.2.2.2.2)
def g_X11_would (LS : List Nat) (SE : Nat → SV) (t_book_cauldrons : Int32) (t_book_spells : Int32) (t_book_texts : Nat → Option Nat) (t_cooking_boilsAt : Int32) (t_cooking_cause : Int32) (t_cooking_causeDetail : Int32) (t_cooking_spoons : Int32) (t_cooking_now_many : Nat → Int32) (t_book_contents_many : Nat → Int32) (t_cooking_now_much : Nat → UInt32) (t_book_contents_much : Nat → UInt32) (t_cooking_before_many : Nat → Int32) (t_cooking_before_much : Nat → UInt32) (t_cooking_storesIn : Nat → Int32) (t_book_isBroth : Nat → Int32) (t_cooking_isBroth : Nat → Int32) (t_cooking_many : Nat → Int32) (t_cooking_much : Nat → UInt32) (t_book_low : Nat → Int32) (t_book_high : Nat → Int32) (p1 : Int32) (p2 : Int32) : Option (Int32 × Int32 × Int32 × Int32 × Int32 × Int32 × (Nat → Int32) × (Nat → UInt32) × (Nat → Int32) × (Nat → UInt32) × (Nat → Int32) × (Nat → Int32) × (Nat → Int32) × (Nat → UInt32)) :=
  gb (g_X11_needSpell LS SE t_book_spells t_book_texts p1) fun r1 =>
  if r1.1 = 0 then
    go r1.2 (
      none) fun a_y2 =>
    gc (inl9 LS a_y2) <|
    gb (g_X11_needCauldron t_book_cauldrons p2) fun r2 =>
    if r2 = 0 then
      gb (g_X2_begin t_cooking_now_many t_book_contents_many t_cooking_now_much t_book_contents_much) fun r3 =>
      gb (g_X2_goesOn t_cooking_boilsAt t_cooking_cause t_cooking_causeDetail t_cooking_spoons ((SE a_y2).2.2.1) t_cooking_before_many r3.1 t_cooking_before_much r3.2 t_cooking_storesIn ((SE a_y2).2.2.2.2.2.2.1) ((SE a_y2).2.2.2.2.2.2.2.1) t_book_isBroth t_cooking_isBroth t_cooking_many t_cooking_much t_book_low t_book_high) fun r4 =>
      if r4.1 = 0 then
        some (3, 0, r4.2.1, r4.2.2.1, r4.2.2.2.1, r4.2.2.2.2.1, r4.2.2.2.2.2.2.1, r4.2.2.2.2.2.2.2.2.1, r4.2.2.2.2.2.1, r4.2.2.2.2.2.2.2.1, r4.2.2.2.2.2.2.2.2.2.1, r4.2.2.2.2.2.2.2.2.2.2.1, r4.2.2.2.2.2.2.2.2.2.2.2.1, r4.2.2.2.2.2.2.2.2.2.2.2.2)
      else
        gc (inb p2 6) <|
        gb (g_X1_cut r4.2.2.2.2.2.2.1 r4.2.2.2.2.2.2.2.2.1 (t_book_isBroth p2.toNatClampNeg) p2) fun r5 =>
        some (0, r5, r4.2.1, r4.2.2.1, r4.2.2.2.1, r4.2.2.2.2.1, r4.2.2.2.2.2.2.1, r4.2.2.2.2.2.2.2.2.1, r4.2.2.2.2.2.1, r4.2.2.2.2.2.2.2.1, r4.2.2.2.2.2.2.2.2.2.1, r4.2.2.2.2.2.2.2.2.2.2.1, r4.2.2.2.2.2.2.2.2.2.2.2.1, r4.2.2.2.2.2.2.2.2.2.2.2.2)
    else
      some (r2, 0, t_cooking_boilsAt, t_cooking_cause, t_cooking_causeDetail, t_cooking_spoons, t_cooking_now_many, t_cooking_now_much, t_cooking_before_many, t_cooking_before_much, t_cooking_storesIn, t_cooking_isBroth, t_cooking_many, t_cooking_much)
  else
    some (r1.1, 0, t_cooking_boilsAt, t_cooking_cause, t_cooking_causeDetail, t_cooking_spoons, t_cooking_now_many, t_cooking_now_much, t_cooking_before_many, t_cooking_before_much, t_cooking_storesIn, t_cooking_isBroth, t_cooking_many, t_cooking_much)
def g_X11_wouldAgain (LS : List Nat) (SE : Nat → SV) (t_book_cauldrons : Int32) (t_book_spells : Int32) (t_book_texts : Nat → Option Nat) (t_cookingByStores_isBroth : Nat → Int32) (t_cookingByStores_much : Nat → UInt32) (t_cookingByStores_many : Nat → Int32) (t_book_isBroth : Nat → Int32) (t_book_contents_many : Nat → Int32) (t_book_contents_much : Nat → UInt32) (t_book_low : Nat → Int32) (t_book_high : Nat → Int32) (p1 : Int32) (p2 : Int32) : Option (Int32 × Int32 × (Nat → Int32) × (Nat → UInt32) × (Nat → Int32)) :=
  gb (g_X11_needSpell LS SE t_book_spells t_book_texts p1) fun r1 =>
  if r1.1 = 0 then
    go r1.2 (
      none) fun a_y2 =>
    gc (inl9 LS a_y2) <|
    gb (g_X11_needCauldron t_book_cauldrons p2) fun r2 =>
    if r2 = 0 then
      gb (g_X3_goesWell ((SE a_y2).2.2.1) ((SE a_y2).2.2.2.2.2.2.1) ((SE a_y2).2.2.2.2.2.2.2.2.1) ((SE a_y2).2.2.2.2.2.2.2.1) t_cookingByStores_isBroth t_cookingByStores_much t_cookingByStores_many ((SE a_y2).2.2.2.2.2.2.2.2.2) t_book_isBroth t_book_contents_many t_book_contents_much t_book_low t_book_high) fun r3 =>
      if r3.1 = 0 then
        some (3, 0, r3.2.1, r3.2.2.1, r3.2.2.2)
      else
        gb (g_X3_leaves ((SE a_y2).2.2.1) ((SE a_y2).2.2.2.2.2.2.1) ((SE a_y2).2.2.2.2.2.2.2.1) r3.2.1 r3.2.2.2 r3.2.2.1 t_book_isBroth t_book_contents_many t_book_contents_much p2) fun r4 =>
        some (0, r4, r3.2.1, r3.2.2.1, r3.2.2.2)
    else
      some (r2, 0, t_cookingByStores_isBroth, t_cookingByStores_much, t_cookingByStores_many)
  else
    some (r1.1, 0, t_cookingByStores_isBroth, t_cookingByStores_much, t_cookingByStores_many)
def g_X11_boils (LS : List Nat) (SE : Nat → SV) (t_book_spells : Int32) (t_book_texts : Nat → Option Nat) (t_cooking_boilsAt : Int32) (t_cooking_cause : Int32) (t_cooking_causeDetail : Int32) (t_cooking_spoons : Int32) (t_cooking_now_many : Nat → Int32) (t_book_contents_many : Nat → Int32) (t_cooking_now_much : Nat → UInt32) (t_book_contents_much : Nat → UInt32) (t_cooking_before_many : Nat → Int32) (t_cooking_before_much : Nat → UInt32) (t_cooking_storesIn : Nat → Int32) (t_book_isBroth : Nat → Int32) (t_cooking_isBroth : Nat → Int32) (t_cooking_many : Nat → Int32) (t_cooking_much : Nat → UInt32) (t_book_low : Nat → Int32) (t_book_high : Nat → Int32) (p1 : Int32) : Option (Int32 × Int32 × Int32 × Int32 × Int32 × Int32 × (Nat → Int32) × (Nat → UInt32) × (Nat → Int32) × (Nat → UInt32) × (Nat → Int32) × (Nat → Int32) × (Nat → Int32) × (Nat → UInt32)) :=
  gb (g_X11_needSpell LS SE t_book_spells t_book_texts p1) fun r1 =>
  if r1.1 = 0 then
    go r1.2 (
      none) fun a_y2 =>
    gc (inl9 LS a_y2) <|
    gb (g_X2_begin t_cooking_now_many t_book_contents_many t_cooking_now_much t_book_contents_much) fun r2 =>
    gb (g_X2_goesOn t_cooking_boilsAt t_cooking_cause t_cooking_causeDetail t_cooking_spoons ((SE a_y2).2.2.1) t_cooking_before_many r2.1 t_cooking_before_much r2.2 t_cooking_storesIn ((SE a_y2).2.2.2.2.2.2.1) ((SE a_y2).2.2.2.2.2.2.2.1) t_book_isBroth t_cooking_isBroth t_cooking_many t_cooking_much t_book_low t_book_high) fun r3 =>
    if r3.1 = 0 then
      some (0, r3.2.1, r3.2.1, r3.2.2.1, r3.2.2.2.1, r3.2.2.2.2.1, r3.2.2.2.2.2.2.1, r3.2.2.2.2.2.2.2.2.1, r3.2.2.2.2.2.1, r3.2.2.2.2.2.2.2.1, r3.2.2.2.2.2.2.2.2.2.1, r3.2.2.2.2.2.2.2.2.2.2.1, r3.2.2.2.2.2.2.2.2.2.2.2.1, r3.2.2.2.2.2.2.2.2.2.2.2.2)
    else
      some (3, 0, r3.2.1, r3.2.2.1, r3.2.2.2.1, r3.2.2.2.2.1, r3.2.2.2.2.2.2.1, r3.2.2.2.2.2.2.2.2.1, r3.2.2.2.2.2.1, r3.2.2.2.2.2.2.2.1, r3.2.2.2.2.2.2.2.2.2.1, r3.2.2.2.2.2.2.2.2.2.2.1, r3.2.2.2.2.2.2.2.2.2.2.2.1, r3.2.2.2.2.2.2.2.2.2.2.2.2)
  else
    some (r1.1, 0, t_cooking_boilsAt, t_cooking_cause, t_cooking_causeDetail, t_cooking_spoons, t_cooking_now_many, t_cooking_now_much, t_cooking_before_many, t_cooking_before_much, t_cooking_storesIn, t_cooking_isBroth, t_cooking_many, t_cooking_much)
def g_X11_lasts_b19 (SE : Nat → SV) (t_book_isBroth : Nat → Int32) (t_book_low : Nat → Int32) (t_book_high : Nat → Int32) : Nat → (Nat → Int32) → (Nat → UInt32) → (Nat → Int32) → (Nat → Int32) → (Nat → UInt32) → (Nat → Int32) → (Nat → UInt32) → (Nat → Int32) → Int32 → Int32 → Int32 → Int32 → Nat → Int32 → Option (Int32 × Int32 × Int32 × Int32 × Int32 × Int32 × (Nat → Int32) × (Nat → UInt32) × (Nat → Int32) × (Nat → UInt32) × (Nat → Int32) × (Nat → Int32) × (Nat → Int32) × (Nat → UInt32))
  | 0, _, _, _, _, _, _, _, _, _, _, _, _, _, _ => none
  | n + 1, t_cooking_before_many_19, t_cooking_before_much_19, t_cooking_isBroth_19, t_cooking_many_19, t_cooking_much_19, t_cooking_now_many_19, t_cooking_now_much_19, t_cooking_storesIn_19, t_cooking_boilsAt_19, t_cooking_cause_19, t_cooking_causeDetail_19, t_cooking_spoons_19, a_y2, x3_19 =>
    if 50 ≤ x3_19 then
      some (0, x3_19, t_cooking_boilsAt_19, t_cooking_cause_19, t_cooking_causeDetail_19, t_cooking_spoons_19, t_cooking_now_many_19, t_cooking_now_much_19, t_cooking_before_many_19, t_cooking_before_much_19, t_cooking_storesIn_19, t_cooking_isBroth_19, t_cooking_many_19, t_cooking_much_19)
    else
      gb (g_X2_goesOn t_cooking_boilsAt_19 t_cooking_cause_19 t_cooking_causeDetail_19 t_cooking_spoons_19 ((SE a_y2).2.2.1) t_cooking_before_many_19 t_cooking_now_many_19 t_cooking_before_much_19 t_cooking_now_much_19 t_cooking_storesIn_19 ((SE a_y2).2.2.2.2.2.2.1) ((SE a_y2).2.2.2.2.2.2.2.1) t_book_isBroth t_cooking_isBroth_19 t_cooking_many_19 t_cooking_much_19 t_book_low t_book_high) fun r3 =>
      if r3.1 = 0 then
        some (0, x3_19, r3.2.1, r3.2.2.1, r3.2.2.2.1, r3.2.2.2.2.1, r3.2.2.2.2.2.2.1, r3.2.2.2.2.2.2.2.2.1, r3.2.2.2.2.2.1, r3.2.2.2.2.2.2.2.1, r3.2.2.2.2.2.2.2.2.2.1, r3.2.2.2.2.2.2.2.2.2.2.1, r3.2.2.2.2.2.2.2.2.2.2.2.1, r3.2.2.2.2.2.2.2.2.2.2.2.2)
      else
        gb (g_X2_changes r3.2.2.2.2.2.2.1 r3.2.2.2.2.2.1 r3.2.2.2.2.2.2.2.2.1 r3.2.2.2.2.2.2.2.1) fun r4 =>
        if r4 ≤ 0 then
          some (0, x3_19, r3.2.1, r3.2.2.1, r3.2.2.2.1, r3.2.2.2.2.1, r3.2.2.2.2.2.2.1, r3.2.2.2.2.2.2.2.2.1, r3.2.2.2.2.2.1, r3.2.2.2.2.2.2.2.1, r3.2.2.2.2.2.2.2.2.2.1, r3.2.2.2.2.2.2.2.2.2.2.1, r3.2.2.2.2.2.2.2.2.2.2.2.1, r3.2.2.2.2.2.2.2.2.2.2.2.2)
        else
          gl (x3_19 + 1) fun v5 =>
          (g_X11_lasts_b19 SE t_book_isBroth t_book_low t_book_high n) r3.2.2.2.2.2.1 r3.2.2.2.2.2.2.2.1 r3.2.2.2.2.2.2.2.2.2.2.1 r3.2.2.2.2.2.2.2.2.2.2.2.1 r3.2.2.2.2.2.2.2.2.2.2.2.2 r3.2.2.2.2.2.2.1 r3.2.2.2.2.2.2.2.2.1 r3.2.2.2.2.2.2.2.2.2.1 r3.2.1 r3.2.2.1 r3.2.2.2.1 r3.2.2.2.2.1 a_y2 v5
def g_X11_lasts (LS : List Nat) (SE : Nat → SV) (t_book_spells : Int32) (t_book_texts : Nat → Option Nat) (t_cooking_boilsAt : Int32) (t_cooking_cause : Int32) (t_cooking_causeDetail : Int32) (t_cooking_spoons : Int32) (t_cooking_now_many : Nat → Int32) (t_book_contents_many : Nat → Int32) (t_cooking_now_much : Nat → UInt32) (t_book_contents_much : Nat → UInt32) (t_cooking_before_many : Nat → Int32) (t_cooking_before_much : Nat → UInt32) (t_cooking_storesIn : Nat → Int32) (t_book_isBroth : Nat → Int32) (t_cooking_isBroth : Nat → Int32) (t_cooking_many : Nat → Int32) (t_cooking_much : Nat → UInt32) (t_book_low : Nat → Int32) (t_book_high : Nat → Int32) (p1 : Int32) : Option (Int32 × Int32 × Int32 × Int32 × Int32 × Int32 × (Nat → Int32) × (Nat → UInt32) × (Nat → Int32) × (Nat → UInt32) × (Nat → Int32) × (Nat → Int32) × (Nat → Int32) × (Nat → UInt32)) :=
  gb (g_X11_needSpell LS SE t_book_spells t_book_texts p1) fun r1 =>
  if r1.1 = 0 then
    go r1.2 (
      none) fun a_y2 =>
    gc (inl9 LS a_y2) <|
    gb (g_X2_begin t_cooking_now_many t_book_contents_many t_cooking_now_much t_book_contents_much) fun r2 =>
    g_X11_lasts_b19 SE t_book_isBroth t_book_low t_book_high 100 t_cooking_before_many t_cooking_before_much t_cooking_isBroth t_cooking_many t_cooking_much r2.1 r2.2 t_cooking_storesIn t_cooking_boilsAt t_cooking_cause t_cooking_causeDetail t_cooking_spoons a_y2 0
  else
    some (r1.1, 0, t_cooking_boilsAt, t_cooking_cause, t_cooking_causeDetail, t_cooking_spoons, t_cooking_now_many, t_cooking_now_much, t_cooking_before_many, t_cooking_before_much, t_cooking_storesIn, t_cooking_isBroth, t_cooking_many, t_cooking_much)
def g_X11_ranked_b2 (LS : List Nat) (SE : Nat → SV) (t_book_spells : Int32) (t_book_texts : Nat → Option Nat) (p1 : Int32) : Nat → Int32 → Option (Int32 × Int32)
  | 0, _ => none
  | n + 1, x2_2 =>
    if t_book_spells ≤ x2_2 then
      some (3, 0)
    else
      gb (g_X0_spellsAhead LS SE t_book_spells t_book_texts x2_2) fun r1 =>
      if r1 = p1 then
        some (0, x2_2)
      else
        gl (x2_2 + 1) fun v2 =>
        (g_X11_ranked_b2 LS SE t_book_spells t_book_texts p1 n) v2
def g_X11_ranked (LS : List Nat) (SE : Nat → SV) (t_book_spells : Int32) (t_book_texts : Nat → Option Nat) (p1 : Int32) : Option (Int32 × Int32) :=
  g_X11_ranked_b2 LS SE t_book_spells t_book_texts p1 100 0
def g_X11_widest_b61 (t_book_cauldrons : Int32) (t_book_high : Nat → Int32) (t_book_low : Nat → Int32) (t_book_isBroth : Nat → Int32) (k6 : Int32 → Int32 → Int32 → Option (Int32 × Int32)) (x1_61 : Int32) (x2_61 : Int32) (x3_61 : Int32) : Option (Int32 × Int32) :=
  gl (x3_61 + 1) fun v1 =>
  k6 x1_61 x2_61 v1
def g_X11_widest_b6 (t_book_cauldrons : Int32) (t_book_high : Nat → Int32) (t_book_low : Nat → Int32) (t_book_isBroth : Nat → Int32) : Nat → Int32 → Int32 → Int32 → Option (Int32 × Int32)
  | 0, _, _, _ => none
  | n + 1, x1_6, x2_6, x3_6 =>
    if t_book_cauldrons ≤ x3_6 then
      if x1_6 = (-1) then
        some (3, 0)
      else
        some (0, x1_6)
    else
      gc (inb x3_6 6) <|
      gc (inb x3_6 6) <|
      gl ((t_book_high x3_6.toNatClampNeg) - (t_book_low x3_6.toNatClampNeg)) fun v2 =>
      gc (inb x3_6 6) <|
      if (t_book_isBroth x3_6.toNatClampNeg) = 0 then
        if v2 ≤ x2_6 then
          g_X11_widest_b61 t_book_cauldrons t_book_high t_book_low t_book_isBroth (g_X11_widest_b6 t_book_cauldrons t_book_high t_book_low t_book_isBroth n) x1_6 x2_6 x3_6
        else
          g_X11_widest_b61 t_book_cauldrons t_book_high t_book_low t_book_isBroth (g_X11_widest_b6 t_book_cauldrons t_book_high t_book_low t_book_isBroth n) x3_6 v2 x3_6
      else
        g_X11_widest_b61 t_book_cauldrons t_book_high t_book_low t_book_isBroth (g_X11_widest_b6 t_book_cauldrons t_book_high t_book_low t_book_isBroth n) x1_6 x2_6 x3_6
def g_X11_widest (t_book_cauldrons : Int32) (t_book_high : Nat → Int32) (t_book_low : Nat → Int32) (t_book_isBroth : Nat → Int32) : Option (Int32 × Int32) :=
  g_X11_widest_b6 t_book_cauldrons t_book_high t_book_low t_book_isBroth 100 (-1) (-1) 0
def g_X11_isSafe_b69 (LS : List Nat) (SE : Nat → SV) (t_book_spells : Int32) (t_book_texts : Nat → Option Nat) (t_book_isBroth : Nat → Int32) (t_book_low : Nat → Int32) (t_book_high : Nat → Int32) (t_book_contents_many : Nat → Int32) (t_book_contents_much : Nat → UInt32) (k2 : (Nat → Int32) → (Nat → UInt32) → (Nat → Int32) → (Nat → Int32) → (Nat → UInt32) → (Nat → Int32) → (Nat → UInt32) → (Nat → Int32) → (Nat → Int64) → (Nat → Int32) → (Nat → Int64) → (Nat → Int64) → (Nat → Int32) → (Nat → Int64) → Int32 → Int32 → Int32 → Int32 → Int32 → Int32 → Int32 → Int32 → Option (Int32 × Int32 × Int32 × Int32 × (Nat → Int32) × (Nat → Int64) × (Nat → Int64) × (Nat → Int32) × (Nat → Int64) × (Nat → Int64) × Int32 × Int32 × Int32 × Int32 × (Nat → Int32) × (Nat → UInt32) × (Nat → Int32) × (Nat → UInt32) × (Nat → Int32) × (Nat → Int32) × (Nat → Int32) × (Nat → UInt32))) (t_cooking_before_many_69 : Nat → Int32) (t_cooking_before_much_69 : Nat → UInt32) (t_cooking_isBroth_69 : Nat → Int32) (t_cooking_many_69 : Nat → Int32) (t_cooking_much_69 : Nat → UInt32) (t_cooking_now_many_69 : Nat → Int32) (t_cooking_now_much_69 : Nat → UInt32) (t_cooking_storesIn_69 : Nat → Int32) (t_typing_high_69 : Nat → Int64) (t_typing_isBroth_69 : Nat → Int32) (t_typing_low_69 : Nat → Int64) (t_typing_storeHigh_69 : Nat → Int64) (t_typing_storeIsBroth_69 : Nat → Int32) (t_typing_storeLow_69 : Nat → Int64) (t_cooking_boilsAt_69 : Int32) (t_cooking_cause_69 : Int32) (t_cooking_causeDetail_69 : Int32) (t_cooking_spoons_69 : Int32) (t_typing_faultAt_69 : Int32) (t_typing_stores_69 : Int32) (t_typing_spoons_69 : Int32) (x1_69 : Int32) : Option (Int32 × Int32 × Int32 × Int32 × (Nat → Int32) × (Nat → Int64) × (Nat → Int64) × (Nat → Int32) × (Nat → Int64) × (Nat → Int64) × Int32 × Int32 × Int32 × Int32 × (Nat → Int32) × (Nat → UInt32) × (Nat → Int32) × (Nat → UInt32) × (Nat → Int32) × (Nat → Int32) × (Nat → Int32) × (Nat → UInt32)) :=
  gl (x1_69 + 1) fun v1 =>
  k2 t_cooking_before_many_69 t_cooking_before_much_69 t_cooking_isBroth_69 t_cooking_many_69 t_cooking_much_69 t_cooking_now_many_69 t_cooking_now_much_69 t_cooking_storesIn_69 t_typing_high_69 t_typing_isBroth_69 t_typing_low_69 t_typing_storeHigh_69 t_typing_storeIsBroth_69 t_typing_storeLow_69 t_cooking_boilsAt_69 t_cooking_cause_69 t_cooking_causeDetail_69 t_cooking_spoons_69 t_typing_faultAt_69 t_typing_stores_69 t_typing_spoons_69 v1
def g_X11_isSafe_b2 (LS : List Nat) (SE : Nat → SV) (t_book_spells : Int32) (t_book_texts : Nat → Option Nat) (t_book_isBroth : Nat → Int32) (t_book_low : Nat → Int32) (t_book_high : Nat → Int32) (t_book_contents_many : Nat → Int32) (t_book_contents_much : Nat → UInt32) : Nat → (Nat → Int32) → (Nat → UInt32) → (Nat → Int32) → (Nat → Int32) → (Nat → UInt32) → (Nat → Int32) → (Nat → UInt32) → (Nat → Int32) → (Nat → Int64) → (Nat → Int32) → (Nat → Int64) → (Nat → Int64) → (Nat → Int32) → (Nat → Int64) → Int32 → Int32 → Int32 → Int32 → Int32 → Int32 → Int32 → Int32 → Option (Int32 × Int32 × Int32 × Int32 × (Nat → Int32) × (Nat → Int64) × (Nat → Int64) × (Nat → Int32) × (Nat → Int64) × (Nat → Int64) × Int32 × Int32 × Int32 × Int32 × (Nat → Int32) × (Nat → UInt32) × (Nat → Int32) × (Nat → UInt32) × (Nat → Int32) × (Nat → Int32) × (Nat → Int32) × (Nat → UInt32))
  | 0, _, _, _, _, _, _, _, _, _, _, _, _, _, _, _, _, _, _, _, _, _, _ => none
  | n + 1, t_cooking_before_many_2, t_cooking_before_much_2, t_cooking_isBroth_2, t_cooking_many_2, t_cooking_much_2, t_cooking_now_many_2, t_cooking_now_much_2, t_cooking_storesIn_2, t_typing_high_2, t_typing_isBroth_2, t_typing_low_2, t_typing_storeHigh_2, t_typing_storeIsBroth_2, t_typing_storeLow_2, t_cooking_boilsAt_2, t_cooking_cause_2, t_cooking_causeDetail_2, t_cooking_spoons_2, t_typing_faultAt_2, t_typing_stores_2, t_typing_spoons_2, x1_2 =>
    if t_book_spells ≤ x1_2 then
      some (1, t_typing_faultAt_2, t_typing_stores_2, t_typing_spoons_2, t_typing_isBroth_2, t_typing_low_2, t_typing_high_2, t_typing_storeIsBroth_2, t_typing_storeLow_2, t_typing_storeHigh_2, t_cooking_boilsAt_2, t_cooking_cause_2, t_cooking_causeDetail_2, t_cooking_spoons_2, t_cooking_now_many_2, t_cooking_now_much_2, t_cooking_before_many_2, t_cooking_before_much_2, t_cooking_storesIn_2, t_cooking_isBroth_2, t_cooking_many_2, t_cooking_much_2)
    else
      gb (g_X0_spellAt t_book_spells t_book_texts x1_2) fun r2 =>
      go r2 (
        g_X11_isSafe_b69 LS SE t_book_spells t_book_texts t_book_isBroth t_book_low t_book_high t_book_contents_many t_book_contents_much (g_X11_isSafe_b2 LS SE t_book_spells t_book_texts t_book_isBroth t_book_low t_book_high t_book_contents_many t_book_contents_much n) t_cooking_before_many_2 t_cooking_before_much_2 t_cooking_isBroth_2 t_cooking_many_2 t_cooking_much_2 t_cooking_now_many_2 t_cooking_now_much_2 t_cooking_storesIn_2 t_typing_high_2 t_typing_isBroth_2 t_typing_low_2 t_typing_storeHigh_2 t_typing_storeIsBroth_2 t_typing_storeLow_2 t_cooking_boilsAt_2 t_cooking_cause_2 t_cooking_causeDetail_2 t_cooking_spoons_2 t_typing_faultAt_2 t_typing_stores_2 t_typing_spoons_2 x1_2) fun a_y18 =>
      gc (inl9 LS a_y18) <|
      gb (g_X9_passes t_typing_faultAt_2 t_typing_stores_2 t_typing_spoons_2 ((SE a_y18).2.2.1) ((SE a_y18).2.2.2.2.2.2.1) ((SE a_y18).2.2.2.2.2.2.2.1) t_book_isBroth t_book_low t_book_high t_typing_isBroth_2 t_typing_low_2 t_typing_high_2 t_typing_storeIsBroth_2 t_typing_storeLow_2 t_typing_storeHigh_2) fun r3 =>
      if r3.1 = 0 then
        g_X11_isSafe_b69 LS SE t_book_spells t_book_texts t_book_isBroth t_book_low t_book_high t_book_contents_many t_book_contents_much (g_X11_isSafe_b2 LS SE t_book_spells t_book_texts t_book_isBroth t_book_low t_book_high t_book_contents_many t_book_contents_much n) t_cooking_before_many_2 t_cooking_before_much_2 t_cooking_isBroth_2 t_cooking_many_2 t_cooking_much_2 t_cooking_now_many_2 t_cooking_now_much_2 t_cooking_storesIn_2 r3.2.2.2.2.2.2.1 r3.2.2.2.2.1 r3.2.2.2.2.2.1 r3.2.2.2.2.2.2.2.2.2 r3.2.2.2.2.2.2.2.1 r3.2.2.2.2.2.2.2.2.1 t_cooking_boilsAt_2 t_cooking_cause_2 t_cooking_causeDetail_2 t_cooking_spoons_2 r3.2.1 r3.2.2.1 r3.2.2.2.1 x1_2
      else
        gb (g_X2_begin t_cooking_now_many_2 t_book_contents_many t_cooking_now_much_2 t_book_contents_much) fun r4 =>
        gb (g_X2_goesOn t_cooking_boilsAt_2 t_cooking_cause_2 t_cooking_causeDetail_2 t_cooking_spoons_2 ((SE a_y18).2.2.1) t_cooking_before_many_2 r4.1 t_cooking_before_much_2 r4.2 t_cooking_storesIn_2 ((SE a_y18).2.2.2.2.2.2.1) ((SE a_y18).2.2.2.2.2.2.2.1) t_book_isBroth t_cooking_isBroth_2 t_cooking_many_2 t_cooking_much_2 t_book_low t_book_high) fun r5 =>
        if r5.1 = 0 then
          some (0, r3.2.1, r3.2.2.1, r3.2.2.2.1, r3.2.2.2.2.1, r3.2.2.2.2.2.1, r3.2.2.2.2.2.2.1, r3.2.2.2.2.2.2.2.1, r3.2.2.2.2.2.2.2.2.1, r3.2.2.2.2.2.2.2.2.2, r5.2.1, r5.2.2.1, r5.2.2.2.1, r5.2.2.2.2.1, r5.2.2.2.2.2.2.1, r5.2.2.2.2.2.2.2.2.1, r5.2.2.2.2.2.1, r5.2.2.2.2.2.2.2.1, r5.2.2.2.2.2.2.2.2.2.1, r5.2.2.2.2.2.2.2.2.2.2.1, r5.2.2.2.2.2.2.2.2.2.2.2.1, r5.2.2.2.2.2.2.2.2.2.2.2.2)
        else
          g_X11_isSafe_b69 LS SE t_book_spells t_book_texts t_book_isBroth t_book_low t_book_high t_book_contents_many t_book_contents_much (g_X11_isSafe_b2 LS SE t_book_spells t_book_texts t_book_isBroth t_book_low t_book_high t_book_contents_many t_book_contents_much n) r5.2.2.2.2.2.1 r5.2.2.2.2.2.2.2.1 r5.2.2.2.2.2.2.2.2.2.2.1 r5.2.2.2.2.2.2.2.2.2.2.2.1 r5.2.2.2.2.2.2.2.2.2.2.2.2 r5.2.2.2.2.2.2.1 r5.2.2.2.2.2.2.2.2.1 r5.2.2.2.2.2.2.2.2.2.1 r3.2.2.2.2.2.2.1 r3.2.2.2.2.1 r3.2.2.2.2.2.1 r3.2.2.2.2.2.2.2.2.2 r3.2.2.2.2.2.2.2.1 r3.2.2.2.2.2.2.2.2.1 r5.2.1 r5.2.2.1 r5.2.2.2.1 r5.2.2.2.2.1 r3.2.1 r3.2.2.1 r3.2.2.2.1 x1_2
def g_X11_isSafe (LS : List Nat) (SE : Nat → SV) (t_book_spells : Int32) (t_book_texts : Nat → Option Nat) (t_typing_faultAt : Int32) (t_typing_stores : Int32) (t_typing_spoons : Int32) (t_book_isBroth : Nat → Int32) (t_book_low : Nat → Int32) (t_book_high : Nat → Int32) (t_typing_isBroth : Nat → Int32) (t_typing_low : Nat → Int64) (t_typing_high : Nat → Int64) (t_typing_storeIsBroth : Nat → Int32) (t_typing_storeLow : Nat → Int64) (t_typing_storeHigh : Nat → Int64) (t_cooking_boilsAt : Int32) (t_cooking_cause : Int32) (t_cooking_causeDetail : Int32) (t_cooking_spoons : Int32) (t_cooking_now_many : Nat → Int32) (t_book_contents_many : Nat → Int32) (t_cooking_now_much : Nat → UInt32) (t_book_contents_much : Nat → UInt32) (t_cooking_before_many : Nat → Int32) (t_cooking_before_much : Nat → UInt32) (t_cooking_storesIn : Nat → Int32) (t_cooking_isBroth : Nat → Int32) (t_cooking_many : Nat → Int32) (t_cooking_much : Nat → UInt32) : Option (Int32 × Int32 × Int32 × Int32 × (Nat → Int32) × (Nat → Int64) × (Nat → Int64) × (Nat → Int32) × (Nat → Int64) × (Nat → Int64) × Int32 × Int32 × Int32 × Int32 × (Nat → Int32) × (Nat → UInt32) × (Nat → Int32) × (Nat → UInt32) × (Nat → Int32) × (Nat → Int32) × (Nat → Int32) × (Nat → UInt32)) :=
  g_X11_isSafe_b2 LS SE t_book_spells t_book_texts t_book_isBroth t_book_low t_book_high t_book_contents_many t_book_contents_much 100 t_cooking_before_many t_cooking_before_much t_cooking_isBroth t_cooking_many t_cooking_much t_cooking_now_many t_cooking_now_much t_cooking_storesIn t_typing_high t_typing_isBroth t_typing_low t_typing_storeHigh t_typing_storeIsBroth t_typing_storeLow t_cooking_boilsAt t_cooking_cause t_cooking_causeDetail t_cooking_spoons t_typing_faultAt t_typing_stores t_typing_spoons 0
def g_X11_meanBits_b83 (t_book_cauldrons : Int32) (t_book_isBroth : Nat → Int32) (t_book_contents_many : Nat → Int32) (t_book_contents_much : Nat → UInt32) (k25 : UInt64 → Int32 → Option (Int32 × Int64)) (x1_83 : UInt64) (x3_83 : Int32) : Option (Int32 × Int64) :=
  gl (x3_83 + 1) fun v1 =>
  k25 x1_83 v1
def g_X11_meanBits_b25 (t_book_cauldrons : Int32) (t_book_isBroth : Nat → Int32) (t_book_contents_many : Nat → Int32) (t_book_contents_much : Nat → UInt32) : Nat → UInt64 → Int32 → Option (Int32 × Int64)
  | 0, _, _ => none
  | n + 1, x1_25, x3_25 =>
    if t_book_cauldrons ≤ x3_25 then
      gc (n64 (FP.ddiv x1_25 (FP.i2d t_book_cauldrons))) <|
      gb (g_X5_longBitsOf (FP.ddiv x1_25 (FP.i2d t_book_cauldrons))) fun r2 =>
      some (0, r2)
    else
      gc (inb x3_25 6) <|
      if (t_book_isBroth x3_25.toNatClampNeg) = 0 then
        gc (inb x3_25 6) <|
        gc (n64 (FP.dadd x1_25 (FP.i2d (t_book_contents_many x3_25.toNatClampNeg)))) <|
        gl (FP.dadd x1_25 (FP.i2d (t_book_contents_many x3_25.toNatClampNeg))) fun v3 =>
        g_X11_meanBits_b83 t_book_cauldrons t_book_isBroth t_book_contents_many t_book_contents_much (g_X11_meanBits_b25 t_book_cauldrons t_book_isBroth t_book_contents_many t_book_contents_much n) v3 x3_25
      else
        gc (inb x3_25 6) <|
        gc (n64 (FP.f2d (t_book_contents_much x3_25.toNatClampNeg))) <|
        gc (n64 (FP.dadd x1_25 (FP.f2d (t_book_contents_much x3_25.toNatClampNeg)))) <|
        gl (FP.dadd x1_25 (FP.f2d (t_book_contents_much x3_25.toNatClampNeg))) fun v4 =>
        g_X11_meanBits_b83 t_book_cauldrons t_book_isBroth t_book_contents_many t_book_contents_much (g_X11_meanBits_b25 t_book_cauldrons t_book_isBroth t_book_contents_many t_book_contents_much n) v4 x3_25
def g_X11_meanBits (t_book_cauldrons : Int32) (t_book_isBroth : Nat → Int32) (t_book_contents_many : Nat → Int32) (t_book_contents_much : Nat → UInt32) : Option (Int32 × Int64) :=
  if t_book_cauldrons = 0 then
    some (6, 0)
  else
    g_X11_meanBits_b25 t_book_cauldrons t_book_isBroth t_book_contents_many t_book_contents_much 100 FP.dconst0 0
def g_X11_typedShare (LS : List Nat) (SE : Nat → SV) (t_book_spells : Int32) (t_book_texts : Nat → Option Nat) (t_typing_faultAt : Int32) (t_typing_stores : Int32) (t_typing_spoons : Int32) (t_book_isBroth : Nat → Int32) (t_book_low : Nat → Int32) (t_book_high : Nat → Int32) (t_typing_isBroth : Nat → Int32) (t_typing_low : Nat → Int64) (t_typing_high : Nat → Int64) (t_typing_storeIsBroth : Nat → Int32) (t_typing_storeLow : Nat → Int64) (t_typing_storeHigh : Nat → Int64) : Option (Int32 × UInt32 × Int32 × Int32 × Int32 × (Nat → Int32) × (Nat → Int64) × (Nat → Int64) × (Nat → Int32) × (Nat → Int64) × (Nat → Int64)) :=
  if t_book_spells = 0 then
    some (6, FP.fconst0, t_typing_faultAt, t_typing_stores, t_typing_spoons, t_typing_isBroth, t_typing_low, t_typing_high, t_typing_storeIsBroth, t_typing_storeLow, t_typing_storeHigh)
  else
    gb (g_X11_countTyped LS SE t_book_spells t_book_texts t_typing_faultAt t_typing_stores t_typing_spoons t_book_isBroth t_book_low t_book_high t_typing_isBroth t_typing_low t_typing_high t_typing_storeIsBroth t_typing_storeLow t_typing_storeHigh) fun r1 =>
    gc (n32 (FP.fdiv (FP.i2f r1.1) (FP.i2f t_book_spells))) <|
    gl (FP.fdiv (FP.i2f r1.1) (FP.i2f t_book_spells)) fun v2 =>
    some (0, v2, r1.2.1, r1.2.2.1, r1.2.2.2.1, r1.2.2.2.2.1, r1.2.2.2.2.2.1, r1.2.2.2.2.2.2.1, r1.2.2.2.2.2.2.2.1, r1.2.2.2.2.2.2.2.2.1, r1.2.2.2.2.2.2.2.2.2)
def g_X11_account (LS : List Nat) (SE : Nat → SV) (t_inputLength : Int32) (t_boiledOver : Int32) (t_book_cauldrons : Int32) (t_book_spells : Int32) (t_book_cookedSoFar : Int32) (t_book_storesSoFar : Int32) (t_book_texts : Nat → Option Nat) (t_typing_faultAt : Int32) (t_typing_stores : Int32) (t_typing_spoons : Int32) (t_book_isBroth : Nat → Int32) (t_book_low : Nat → Int32) (t_book_high : Nat → Int32) (t_typing_isBroth : Nat → Int32) (t_typing_low : Nat → Int64) (t_typing_high : Nat → Int64) (t_typing_storeIsBroth : Nat → Int32) (t_typing_storeLow : Nat → Int64) (t_typing_storeHigh : Nat → Int64) (t_book_contents_many : Nat → Int32) (t_history_changes : Int32) (p1 : Int32) : Option (Int32 × Int32 × Int32 × Int32 × Int32 × (Nat → Int32) × (Nat → Int64) × (Nat → Int64) × (Nat → Int32) × (Nat → Int64) × (Nat → Int64)) :=
  if p1 = 0 then
    some (0, t_book_cauldrons, t_typing_faultAt, t_typing_stores, t_typing_spoons, t_typing_isBroth, t_typing_low, t_typing_high, t_typing_storeIsBroth, t_typing_storeLow, t_typing_storeHigh)
  else
    if p1 = 1 then
      some (0, t_book_spells, t_typing_faultAt, t_typing_stores, t_typing_spoons, t_typing_isBroth, t_typing_low, t_typing_high, t_typing_storeIsBroth, t_typing_storeLow, t_typing_storeHigh)
    else
      if p1 = 2 then
        gb (g_X11_countTyped LS SE t_book_spells t_book_texts t_typing_faultAt t_typing_stores t_typing_spoons t_book_isBroth t_book_low t_book_high t_typing_isBroth t_typing_low t_typing_high t_typing_storeIsBroth t_typing_storeLow t_typing_storeHigh) fun r1 =>
        some (0, r1.1, r1.2.1, r1.2.2.1, r1.2.2.2.1, r1.2.2.2.2.1, r1.2.2.2.2.2.1, r1.2.2.2.2.2.2.1, r1.2.2.2.2.2.2.2.1, r1.2.2.2.2.2.2.2.2.1, r1.2.2.2.2.2.2.2.2.2)
      else
        if p1 = 3 then
          gb (g_X0_cauldronsOfBroth t_book_cauldrons t_book_isBroth) fun r2 =>
          some (0, r2, t_typing_faultAt, t_typing_stores, t_typing_spoons, t_typing_isBroth, t_typing_low, t_typing_high, t_typing_storeIsBroth, t_typing_storeLow, t_typing_storeHigh)
        else
          if p1 = 4 then
            some (0, t_book_cookedSoFar, t_typing_faultAt, t_typing_stores, t_typing_spoons, t_typing_isBroth, t_typing_low, t_typing_high, t_typing_storeIsBroth, t_typing_storeLow, t_typing_storeHigh)
          else
            if p1 = 5 then
              some (0, t_book_storesSoFar, t_typing_faultAt, t_typing_stores, t_typing_spoons, t_typing_isBroth, t_typing_low, t_typing_high, t_typing_storeIsBroth, t_typing_storeLow, t_typing_storeHigh)
            else
              if p1 = 6 then
                some (0, t_boiledOver, t_typing_faultAt, t_typing_stores, t_typing_spoons, t_typing_isBroth, t_typing_low, t_typing_high, t_typing_storeIsBroth, t_typing_storeLow, t_typing_storeHigh)
              else
                if p1 = 7 then
                  gb (g_X0_allDrams t_book_cauldrons t_book_isBroth t_book_contents_many) fun r3 =>
                  some (0, r3, t_typing_faultAt, t_typing_stores, t_typing_spoons, t_typing_isBroth, t_typing_low, t_typing_high, t_typing_storeIsBroth, t_typing_storeLow, t_typing_storeHigh)
                else
                  if p1 = 8 then
                    some (0, t_inputLength, t_typing_faultAt, t_typing_stores, t_typing_spoons, t_typing_isBroth, t_typing_low, t_typing_high, t_typing_storeIsBroth, t_typing_storeLow, t_typing_storeHigh)
                  else
                    if p1 = 9 then
                      some (0, t_history_changes, t_typing_faultAt, t_typing_stores, t_typing_spoons, t_typing_isBroth, t_typing_low, t_typing_high, t_typing_storeIsBroth, t_typing_storeLow, t_typing_storeHigh)
                    else
                      some (1, 0, t_typing_faultAt, t_typing_stores, t_typing_spoons, t_typing_isBroth, t_typing_low, t_typing_high, t_typing_storeIsBroth, t_typing_storeLow, t_typing_storeHigh)
def g_X11_append_b12 (t_inputLength : Int32) (t_input : Nat → Int32) : Option (Int32 × Int32 × Int32 × (Nat → Int32)) :=
  some (1, 0, t_inputLength, t_input)
def g_X11_append (t_inputLength : Int32) (t_input : Nat → Int32) (p1 : Int32) : Option (Int32 × Int32 × Int32 × (Nat → Int32)) :=
  if p1 < 32 then
    g_X11_append_b12 t_inputLength t_input
  else
    if p1 ≤ 126 then
      if t_inputLength < 60 then
        gc (inb t_inputLength 60) <|
        gl (t_inputLength + 1) fun v1 =>
        some (0, v1, v1, (upd t_input t_inputLength.toNatClampNeg (vp_nar .char p1)))
      else
        some (5, 0, t_inputLength, t_input)
    else
      g_X11_append_b12 t_inputLength t_input
def g_X11_errorPosition (t_keptError : Int32) : Option (Int32 × Int32) :=
  if t_keptError = (-1) then
    some (3, 0)
  else
    some (0, t_keptError)
def g_X11_reason (t_refusal_isKept : Int32) (t_refusal_reason : Int32) (t_refusal_detail : Int32) (t_refusal_hasCause : Int32) (t_refusal_cause : Int32) (t_refusal_causeDetail : Int32) (p1 : Int32) (p2 : Int32) : Option (Int32 × Int32) :=
  if t_refusal_isKept = 0 then
    some (3, 0)
  else
    if p1 = 0 then
      if p2 = 0 then
        some (0, t_refusal_reason)
      else
        some (0, t_refusal_detail)
    else
      if t_refusal_hasCause = 0 then
        some (3, 0)
      else
        if p2 = 0 then
          some (0, t_refusal_cause)
        else
          some (0, t_refusal_causeDetail)
def g_X11_undo (LS : List Nat) (SE : Nat → SV) (t_history_next : Int32) (t_history_changes : Int32) (t_book_cauldrons : Int32) (t_book_spells : Int32) (t_book_cookedSoFar : Int32) (t_book_storesSoFar : Int32) (t_history_books : Nat → Option Nat) (bk_cauldrons : Int32) (bk_spells : Int32) (bk_cookedSoFar : Int32) (bk_storesSoFar : Int32) (t_book_contents_many : Nat → Int32) (bk_contents_many : Nat → Int32) (t_book_contents_much : Nat → UInt32) (bk_contents_much : Nat → UInt32) (t_book_isBroth : Nat → Int32) (bk_isBroth : Nat → Int32) (t_book_low : Nat → Int32) (bk_low : Nat → Int32) (t_book_high : Nat → Int32) (bk_high : Nat → Int32) (t_book_storesIn : Nat → Int32) (bk_storesIn : Nat → Int32) (t_book_texts : Nat → Option Nat) (bk_texts : Nat → Option Nat) (t_book_cooked : Nat → Int32) (bk_cooked : Nat → Int32) (a_bk : Nat) : Option (Int32 × Int32 × Int32 × Int32 × Int32 × Int32 × Int32 × Int32 × (Nat → Int32) × (Nat → UInt32) × (Nat → Int32) × (Nat → Int32) × (Nat → Int32) × (Nat → Int32) × (Nat → Option Nat) × (Nat → Int32)) :=
  if t_history_changes = 0 then
    some (3, 0, t_history_next, t_history_changes, t_book_cauldrons, t_book_spells, t_book_cookedSoFar, t_book_storesSoFar, t_book_contents_many, t_book_contents_much, t_book_isBroth, t_book_low, t_book_high, t_book_storesIn, t_book_texts, t_book_cooked)
  else
    gb (g_X4_giveBack LS SE t_history_next t_history_changes t_book_cauldrons t_book_spells t_book_cookedSoFar t_book_storesSoFar t_history_books bk_cauldrons bk_spells bk_cookedSoFar bk_storesSoFar t_book_contents_many bk_contents_many t_book_contents_much bk_contents_much t_book_isBroth bk_isBroth t_book_low bk_low t_book_high bk_high t_book_storesIn bk_storesIn t_book_texts bk_texts t_book_cooked bk_cooked a_bk) fun r1 =>
    some (0, r1.2.1, r1.1, r1.2.1, r1.2.2.1, r1.2.2.2.1, r1.2.2.2.2.1, r1.2.2.2.2.2.1, r1.2.2.2.2.2.2.1, r1.2.2.2.2.2.2.2.1, r1.2.2.2.2.2.2.2.2.1, r1.2.2.2.2.2.2.2.2.2.1, r1.2.2.2.2.2.2.2.2.2.2.1, r1.2.2.2.2.2.2.2.2.2.2.2.1, r1.2.2.2.2.2.2.2.2.2.2.2.2.1, r1.2.2.2.2.2.2.2.2.2.2.2.2.2)
def g_X11_save (LS : List Nat) (SE : Nat → SV) (t_isSaved : Int32) (t_saved_cauldrons : Int32) (t_saved_spells : Int32) (t_saved_cookedSoFar : Int32) (t_saved_storesSoFar : Int32) (t_book_cauldrons : Int32) (t_book_spells : Int32) (t_book_cookedSoFar : Int32) (t_book_storesSoFar : Int32) (t_saved_contents_many : Nat → Int32) (t_book_contents_many : Nat → Int32) (t_saved_contents_much : Nat → UInt32) (t_book_contents_much : Nat → UInt32) (t_saved_isBroth : Nat → Int32) (t_book_isBroth : Nat → Int32) (t_saved_low : Nat → Int32) (t_book_low : Nat → Int32) (t_saved_high : Nat → Int32) (t_book_high : Nat → Int32) (t_saved_storesIn : Nat → Int32) (t_book_storesIn : Nat → Int32) (t_saved_texts : Nat → Option Nat) (t_book_texts : Nat → Option Nat) (t_saved_cooked : Nat → Int32) (t_book_cooked : Nat → Int32) : Option (Int32 × Int32 × Int32 × Int32 × Int32 × Int32 × (Nat → Int32) × (Nat → UInt32) × (Nat → Int32) × (Nat → Int32) × (Nat → Int32) × (Nat → Int32) × (Nat → Option Nat) × (Nat → Int32)) :=
  gb (g_X0_copy LS SE t_saved_cauldrons t_saved_spells t_saved_cookedSoFar t_saved_storesSoFar t_book_cauldrons t_book_spells t_book_cookedSoFar t_book_storesSoFar t_saved_contents_many t_book_contents_many t_saved_contents_much t_book_contents_much t_saved_isBroth t_book_isBroth t_saved_low t_book_low t_saved_high t_book_high t_saved_storesIn t_book_storesIn t_saved_texts t_book_texts t_saved_cooked t_book_cooked) fun r1 =>
  some (t_book_spells, 1, r1.1, r1.2.1, r1.2.2.1, r1.2.2.2.1, r1.2.2.2.2.1, r1.2.2.2.2.2.1, r1.2.2.2.2.2.2.1, r1.2.2.2.2.2.2.2.1, r1.2.2.2.2.2.2.2.2.1, r1.2.2.2.2.2.2.2.2.2.1, r1.2.2.2.2.2.2.2.2.2.2.1, r1.2.2.2.2.2.2.2.2.2.2.2)
def g_X11_restore (LS : List Nat) (SE : Nat → SV) (t_isSaved : Int32) (t_book_cauldrons : Int32) (t_book_spells : Int32) (t_book_cookedSoFar : Int32) (t_book_storesSoFar : Int32) (t_saved_cauldrons : Int32) (t_saved_spells : Int32) (t_saved_cookedSoFar : Int32) (t_saved_storesSoFar : Int32) (t_book_contents_many : Nat → Int32) (t_saved_contents_many : Nat → Int32) (t_book_contents_much : Nat → UInt32) (t_saved_contents_much : Nat → UInt32) (t_book_isBroth : Nat → Int32) (t_saved_isBroth : Nat → Int32) (t_book_low : Nat → Int32) (t_saved_low : Nat → Int32) (t_book_high : Nat → Int32) (t_saved_high : Nat → Int32) (t_book_storesIn : Nat → Int32) (t_saved_storesIn : Nat → Int32) (t_book_texts : Nat → Option Nat) (t_saved_texts : Nat → Option Nat) (t_book_cooked : Nat → Int32) (t_saved_cooked : Nat → Int32) (t_history_changes : Int32) : Option (Int32 × Int32 × Int32 × Int32 × Int32 × Int32 × (Nat → Int32) × (Nat → UInt32) × (Nat → Int32) × (Nat → Int32) × (Nat → Int32) × (Nat → Int32) × (Nat → Option Nat) × (Nat → Int32) × Int32) :=
  if t_isSaved = 0 then
    some (5, 0, t_book_cauldrons, t_book_spells, t_book_cookedSoFar, t_book_storesSoFar, t_book_contents_many, t_book_contents_much, t_book_isBroth, t_book_low, t_book_high, t_book_storesIn, t_book_texts, t_book_cooked, t_history_changes)
  else
    gb (g_X0_copy LS SE t_book_cauldrons t_book_spells t_book_cookedSoFar t_book_storesSoFar t_saved_cauldrons t_saved_spells t_saved_cookedSoFar t_saved_storesSoFar t_book_contents_many t_saved_contents_many t_book_contents_much t_saved_contents_much t_book_isBroth t_saved_isBroth t_book_low t_saved_low t_book_high t_saved_high t_book_storesIn t_saved_storesIn t_book_texts t_saved_texts t_book_cooked t_saved_cooked) fun r1 =>
    gb (g_X4_forget t_history_changes) fun r2 =>
    some (0, r1.2.1, r1.1, r1.2.1, r1.2.2.1, r1.2.2.2.1, r1.2.2.2.2.1, r1.2.2.2.2.2.1, r1.2.2.2.2.2.2.1, r1.2.2.2.2.2.2.2.1, r1.2.2.2.2.2.2.2.2.1, r1.2.2.2.2.2.2.2.2.2.1, r1.2.2.2.2.2.2.2.2.2.2.1, r1.2.2.2.2.2.2.2.2.2.2.2, r2)
def g_L_drams (LS : List Nat) (SE : Nat → SV) (n_p4 : Nat) (p4 : Nat → Int64) (p1_book_cauldrons : Int32) (p1_book_spells : Int32) (p1_book_cookedSoFar : Int32) (p1_book_storesSoFar : Int32) (p1_refusal_isKept : Int32) (p1_refusal_reason : Int32) (p1_refusal_detail : Int32) (p1_refusal_hasCause : Int32) (p1_history_next : Int32) (p1_history_changes : Int32) (p1_history_books : Nat → Option Nat) (bk_cauldrons : Int32) (bk_spells : Int32) (bk_cookedSoFar : Int32) (bk_storesSoFar : Int32) (bk_contents_many : Nat → Int32) (p1_book_contents_many : Nat → Int32) (bk_contents_much : Nat → UInt32) (p1_book_contents_much : Nat → UInt32) (bk_isBroth : Nat → Int32) (p1_book_isBroth : Nat → Int32) (bk_low : Nat → Int32) (p1_book_low : Nat → Int32) (bk_high : Nat → Int32) (p1_book_high : Nat → Int32) (bk_storesIn : Nat → Int32) (p1_book_storesIn : Nat → Int32) (bk_texts : Nat → Option Nat) (p1_book_texts : Nat → Option Nat) (bk_cooked : Nat → Int32) (p1_book_cooked : Nat → Int32) (p2 : Int32) (p3 : Int32) (a_bk : Nat) : Option (Int32 × (Nat → Int64) × Int32 × Int32 × Int32 × Int32 × Int32 × Int32 × Int32 × Int32 × Int32 × Int32 × Int32 × (Nat → Int32) × (Nat → Int32) × (Nat → UInt32) × (Nat → UInt32) × (Nat → Int32) × (Nat → Int32) × (Nat → Int32) × (Nat → Int32) × (Nat → Int32) × (Nat → Int32) × (Nat → Int32) × (Nat → Int32) × (Nat → Option Nat) × (Nat → Int32)) :=
  gb (g_X11_drams LS SE p1_book_cauldrons p1_book_spells p1_book_cookedSoFar p1_book_storesSoFar p1_refusal_isKept p1_refusal_reason p1_refusal_detail p1_refusal_hasCause p1_history_next p1_history_changes p1_history_books bk_cauldrons bk_spells bk_cookedSoFar bk_storesSoFar bk_contents_many p1_book_contents_many bk_contents_much p1_book_contents_much bk_isBroth p1_book_isBroth bk_low p1_book_low bk_high p1_book_high bk_storesIn p1_book_storesIn bk_texts p1_book_texts bk_cooked p1_book_cooked p2 p3 a_bk) fun r1 =>
  if r1.1 = 0 then
    gc (inb (0 : Int32) n_p4) <|
    some (0, (vp_updL p4 (0 : Int32).toNatClampNeg r1.2.1.toInt64), r1.2.2.1, r1.2.2.2.1, r1.2.2.2.2.1, r1.2.2.2.2.2.1, r1.2.2.2.2.2.2.1, r1.2.2.2.2.2.2.2.1, r1.2.2.2.2.2.2.2.2.1, r1.2.2.2.2.2.2.2.2.2.1, r1.2.2.2.2.2.2.2.2.2.2.1, r1.2.2.2.2.2.2.2.2.2.2.2.1, r1.2.2.2.2.2.2.2.2.2.2.2.2.1, r1.2.2.2.2.2.2.2.2.2.2.2.2.2.1, r1.2.2.2.2.2.2.2.2.2.2.2.2.2.2.1, r1.2.2.2.2.2.2.2.2.2.2.2.2.2.2.2.1, r1.2.2.2.2.2.2.2.2.2.2.2.2.2.2.2.2.1, r1.2.2.2.2.2.2.2.2.2.2.2.2.2.2.2.2.2.1, r1.2.2.2.2.2.2.2.2.2.2.2.2.2.2.2.2.2.2.1, r1.2.2.2.2.2.2.2.2.2.2.2.2.2.2.2.2.2.2.2.1, r1.2.2.2.2.2.2.2.2.2.2.2.2.2.2.2.2.2.2.2.2.1, r1.2.2.2.2.2.2.2.2.2.2.2.2.2.2.2.2.2.2.2.2.2.1, r1.2.2.2.2.2.2.2.2.2.2.2.2.2.2.2.2.2.2.2.2.2.2.1, r1.2.2.2.2.2.2.2.2.2.2.2.2.2.2.2.2.2.2.2.2.2.2.2.1, r1.2.2.2.2.2.2.2.2.2.2.2.2.2.2.2.2.2.2.2.2.2.2.2.2.1, r1.2.2.2.2.2.2.2.2.2.2.2.2.2.2.2.2.2.2.2.2.2.2.2.2.2.1, r1.2.2.2.2.2.2.2.2.2.2.2.2.2.2.2.2.2.2.2.2.2.2.2.2.2.2)
  else
    if r1.1 = 1 then
      some (1, p4, r1.2.2.1, r1.2.2.2.1, r1.2.2.2.2.1, r1.2.2.2.2.2.1, r1.2.2.2.2.2.2.1, r1.2.2.2.2.2.2.2.1, r1.2.2.2.2.2.2.2.2.1, r1.2.2.2.2.2.2.2.2.2.1, r1.2.2.2.2.2.2.2.2.2.2.1, r1.2.2.2.2.2.2.2.2.2.2.2.1, r1.2.2.2.2.2.2.2.2.2.2.2.2.1, r1.2.2.2.2.2.2.2.2.2.2.2.2.2.1, r1.2.2.2.2.2.2.2.2.2.2.2.2.2.2.1, r1.2.2.2.2.2.2.2.2.2.2.2.2.2.2.2.1, r1.2.2.2.2.2.2.2.2.2.2.2.2.2.2.2.2.1, r1.2.2.2.2.2.2.2.2.2.2.2.2.2.2.2.2.2.1, r1.2.2.2.2.2.2.2.2.2.2.2.2.2.2.2.2.2.2.1, r1.2.2.2.2.2.2.2.2.2.2.2.2.2.2.2.2.2.2.2.1, r1.2.2.2.2.2.2.2.2.2.2.2.2.2.2.2.2.2.2.2.2.1, r1.2.2.2.2.2.2.2.2.2.2.2.2.2.2.2.2.2.2.2.2.2.1, r1.2.2.2.2.2.2.2.2.2.2.2.2.2.2.2.2.2.2.2.2.2.2.1, r1.2.2.2.2.2.2.2.2.2.2.2.2.2.2.2.2.2.2.2.2.2.2.2.1, r1.2.2.2.2.2.2.2.2.2.2.2.2.2.2.2.2.2.2.2.2.2.2.2.2.1, r1.2.2.2.2.2.2.2.2.2.2.2.2.2.2.2.2.2.2.2.2.2.2.2.2.2.1, r1.2.2.2.2.2.2.2.2.2.2.2.2.2.2.2.2.2.2.2.2.2.2.2.2.2.2)
    else
      if r1.1 = 4 then
        some (2, p4, r1.2.2.1, r1.2.2.2.1, r1.2.2.2.2.1, r1.2.2.2.2.2.1, r1.2.2.2.2.2.2.1, r1.2.2.2.2.2.2.2.1, r1.2.2.2.2.2.2.2.2.1, r1.2.2.2.2.2.2.2.2.2.1, r1.2.2.2.2.2.2.2.2.2.2.1, r1.2.2.2.2.2.2.2.2.2.2.2.1, r1.2.2.2.2.2.2.2.2.2.2.2.2.1, r1.2.2.2.2.2.2.2.2.2.2.2.2.2.1, r1.2.2.2.2.2.2.2.2.2.2.2.2.2.2.1, r1.2.2.2.2.2.2.2.2.2.2.2.2.2.2.2.1, r1.2.2.2.2.2.2.2.2.2.2.2.2.2.2.2.2.1, r1.2.2.2.2.2.2.2.2.2.2.2.2.2.2.2.2.2.1, r1.2.2.2.2.2.2.2.2.2.2.2.2.2.2.2.2.2.2.1, r1.2.2.2.2.2.2.2.2.2.2.2.2.2.2.2.2.2.2.2.1, r1.2.2.2.2.2.2.2.2.2.2.2.2.2.2.2.2.2.2.2.2.1, r1.2.2.2.2.2.2.2.2.2.2.2.2.2.2.2.2.2.2.2.2.2.1, r1.2.2.2.2.2.2.2.2.2.2.2.2.2.2.2.2.2.2.2.2.2.2.1, r1.2.2.2.2.2.2.2.2.2.2.2.2.2.2.2.2.2.2.2.2.2.2.2.1, r1.2.2.2.2.2.2.2.2.2.2.2.2.2.2.2.2.2.2.2.2.2.2.2.2.1, r1.2.2.2.2.2.2.2.2.2.2.2.2.2.2.2.2.2.2.2.2.2.2.2.2.2.1, r1.2.2.2.2.2.2.2.2.2.2.2.2.2.2.2.2.2.2.2.2.2.2.2.2.2.2)
      else
        none
def g_L_broth (LS : List Nat) (SE : Nat → SV) (n_p2 : Nat) (p2 : Nat → Int64) (p1_book_cauldrons : Int32) (p1_book_spells : Int32) (p1_book_cookedSoFar : Int32) (p1_book_storesSoFar : Int32) (p1_refusal_isKept : Int32) (p1_refusal_reason : Int32) (p1_refusal_detail : Int32) (p1_refusal_hasCause : Int32) (p1_history_next : Int32) (p1_history_changes : Int32) (p1_history_books : Nat → Option Nat) (bk_cauldrons : Int32) (bk_spells : Int32) (bk_cookedSoFar : Int32) (bk_storesSoFar : Int32) (bk_contents_many : Nat → Int32) (p1_book_contents_many : Nat → Int32) (bk_contents_much : Nat → UInt32) (p1_book_contents_much : Nat → UInt32) (bk_isBroth : Nat → Int32) (p1_book_isBroth : Nat → Int32) (bk_low : Nat → Int32) (p1_book_low : Nat → Int32) (bk_high : Nat → Int32) (p1_book_high : Nat → Int32) (bk_storesIn : Nat → Int32) (p1_book_storesIn : Nat → Int32) (bk_texts : Nat → Option Nat) (p1_book_texts : Nat → Option Nat) (bk_cooked : Nat → Int32) (p1_book_cooked : Nat → Int32) (a_bk : Nat) : Option (Int32 × (Nat → Int64) × Int32 × Int32 × Int32 × Int32 × Int32 × Int32 × Int32 × Int32 × Int32 × Int32 × Int32 × (Nat → Int32) × (Nat → Int32) × (Nat → UInt32) × (Nat → UInt32) × (Nat → Int32) × (Nat → Int32) × (Nat → Int32) × (Nat → Int32) × (Nat → Int32) × (Nat → Int32) × (Nat → Int32) × (Nat → Int32) × (Nat → Option Nat) × (Nat → Int32)) :=
  gb (g_X11_broth LS SE p1_book_cauldrons p1_book_spells p1_book_cookedSoFar p1_book_storesSoFar p1_refusal_isKept p1_refusal_reason p1_refusal_detail p1_refusal_hasCause p1_history_next p1_history_changes p1_history_books bk_cauldrons bk_spells bk_cookedSoFar bk_storesSoFar bk_contents_many p1_book_contents_many bk_contents_much p1_book_contents_much bk_isBroth p1_book_isBroth bk_low p1_book_low bk_high p1_book_high bk_storesIn p1_book_storesIn bk_texts p1_book_texts bk_cooked p1_book_cooked a_bk) fun r1 =>
  if r1.1 = 0 then
    gc (inb (0 : Int32) n_p2) <|
    some (0, (vp_updL p2 (0 : Int32).toNatClampNeg r1.2.1.toInt64), r1.2.2.1, r1.2.2.2.1, r1.2.2.2.2.1, r1.2.2.2.2.2.1, r1.2.2.2.2.2.2.1, r1.2.2.2.2.2.2.2.1, r1.2.2.2.2.2.2.2.2.1, r1.2.2.2.2.2.2.2.2.2.1, r1.2.2.2.2.2.2.2.2.2.2.1, r1.2.2.2.2.2.2.2.2.2.2.2.1, r1.2.2.2.2.2.2.2.2.2.2.2.2.1, r1.2.2.2.2.2.2.2.2.2.2.2.2.2.1, r1.2.2.2.2.2.2.2.2.2.2.2.2.2.2.1, r1.2.2.2.2.2.2.2.2.2.2.2.2.2.2.2.1, r1.2.2.2.2.2.2.2.2.2.2.2.2.2.2.2.2.1, r1.2.2.2.2.2.2.2.2.2.2.2.2.2.2.2.2.2.1, r1.2.2.2.2.2.2.2.2.2.2.2.2.2.2.2.2.2.2.1, r1.2.2.2.2.2.2.2.2.2.2.2.2.2.2.2.2.2.2.2.1, r1.2.2.2.2.2.2.2.2.2.2.2.2.2.2.2.2.2.2.2.2.1, r1.2.2.2.2.2.2.2.2.2.2.2.2.2.2.2.2.2.2.2.2.2.1, r1.2.2.2.2.2.2.2.2.2.2.2.2.2.2.2.2.2.2.2.2.2.2.1, r1.2.2.2.2.2.2.2.2.2.2.2.2.2.2.2.2.2.2.2.2.2.2.2.1, r1.2.2.2.2.2.2.2.2.2.2.2.2.2.2.2.2.2.2.2.2.2.2.2.2.1, r1.2.2.2.2.2.2.2.2.2.2.2.2.2.2.2.2.2.2.2.2.2.2.2.2.2.1, r1.2.2.2.2.2.2.2.2.2.2.2.2.2.2.2.2.2.2.2.2.2.2.2.2.2.2)
  else
    if r1.1 = 4 then
      some (1, p2, r1.2.2.1, r1.2.2.2.1, r1.2.2.2.2.1, r1.2.2.2.2.2.1, r1.2.2.2.2.2.2.1, r1.2.2.2.2.2.2.2.1, r1.2.2.2.2.2.2.2.2.1, r1.2.2.2.2.2.2.2.2.2.1, r1.2.2.2.2.2.2.2.2.2.2.1, r1.2.2.2.2.2.2.2.2.2.2.2.1, r1.2.2.2.2.2.2.2.2.2.2.2.2.1, r1.2.2.2.2.2.2.2.2.2.2.2.2.2.1, r1.2.2.2.2.2.2.2.2.2.2.2.2.2.2.1, r1.2.2.2.2.2.2.2.2.2.2.2.2.2.2.2.1, r1.2.2.2.2.2.2.2.2.2.2.2.2.2.2.2.2.1, r1.2.2.2.2.2.2.2.2.2.2.2.2.2.2.2.2.2.1, r1.2.2.2.2.2.2.2.2.2.2.2.2.2.2.2.2.2.2.1, r1.2.2.2.2.2.2.2.2.2.2.2.2.2.2.2.2.2.2.2.1, r1.2.2.2.2.2.2.2.2.2.2.2.2.2.2.2.2.2.2.2.2.1, r1.2.2.2.2.2.2.2.2.2.2.2.2.2.2.2.2.2.2.2.2.2.1, r1.2.2.2.2.2.2.2.2.2.2.2.2.2.2.2.2.2.2.2.2.2.2.1, r1.2.2.2.2.2.2.2.2.2.2.2.2.2.2.2.2.2.2.2.2.2.2.2.1, r1.2.2.2.2.2.2.2.2.2.2.2.2.2.2.2.2.2.2.2.2.2.2.2.2.1, r1.2.2.2.2.2.2.2.2.2.2.2.2.2.2.2.2.2.2.2.2.2.2.2.2.2.1, r1.2.2.2.2.2.2.2.2.2.2.2.2.2.2.2.2.2.2.2.2.2.2.2.2.2.2)
    else
      none
def g_L_pour (LS : List Nat) (SE : Nat → SV) (n_p4 : Nat) (p4 : Nat → Int64) (p1_book_cauldrons : Int32) (p1_book_spells : Int32) (p1_book_cookedSoFar : Int32) (p1_book_storesSoFar : Int32) (p1_book_isBroth : Nat → Int32) (p1_refusal_isKept : Int32) (p1_refusal_reason : Int32) (p1_refusal_detail : Int32) (p1_refusal_hasCause : Int32) (p1_book_low : Nat → Int32) (p1_book_high : Nat → Int32) (p1_history_next : Int32) (p1_history_changes : Int32) (p1_history_books : Nat → Option Nat) (bk_cauldrons : Int32) (bk_spells : Int32) (bk_cookedSoFar : Int32) (bk_storesSoFar : Int32) (bk_contents_many : Nat → Int32) (p1_book_contents_many : Nat → Int32) (bk_contents_much : Nat → UInt32) (p1_book_contents_much : Nat → UInt32) (bk_isBroth : Nat → Int32) (bk_low : Nat → Int32) (bk_high : Nat → Int32) (bk_storesIn : Nat → Int32) (p1_book_storesIn : Nat → Int32) (bk_texts : Nat → Option Nat) (p1_book_texts : Nat → Option Nat) (bk_cooked : Nat → Int32) (p1_book_cooked : Nat → Int32) (p2 : Int32) (p3 : Int32) (a_bk : Nat) : Option (Int32 × (Nat → Int64) × Int32 × Int32 × Int32 × Int32 × Int32 × Int32 × Int32 × Int32 × Int32 × Int32 × (Nat → Int32) × (Nat → Int32) × (Nat → UInt32) × (Nat → Int32) × (Nat → Int32) × (Nat → Int32) × (Nat → Int32) × (Nat → Option Nat) × (Nat → Int32)) :=
  gb (g_X11_pour LS SE p1_book_cauldrons p1_book_spells p1_book_cookedSoFar p1_book_storesSoFar p1_book_isBroth p1_refusal_isKept p1_refusal_reason p1_refusal_detail p1_refusal_hasCause p1_book_low p1_book_high p1_history_next p1_history_changes p1_history_books bk_cauldrons bk_spells bk_cookedSoFar bk_storesSoFar bk_contents_many p1_book_contents_many bk_contents_much p1_book_contents_much bk_isBroth bk_low bk_high bk_storesIn p1_book_storesIn bk_texts p1_book_texts bk_cooked p1_book_cooked p2 p3 a_bk) fun r1 =>
  if r1.1 = 0 then
    gc (inb (0 : Int32) n_p4) <|
    some (0, (vp_updL p4 (0 : Int32).toNatClampNeg r1.2.1.toInt64), r1.2.2.1, r1.2.2.2.1, r1.2.2.2.2.1, r1.2.2.2.2.2.1, r1.2.2.2.2.2.2.1, r1.2.2.2.2.2.2.2.1, r1.2.2.2.2.2.2.2.2.1, r1.2.2.2.2.2.2.2.2.2.1, r1.2.2.2.2.2.2.2.2.2.2.1, r1.2.2.2.2.2.2.2.2.2.2.2.1, r1.2.2.2.2.2.2.2.2.2.2.2.2.1, r1.2.2.2.2.2.2.2.2.2.2.2.2.2.1, r1.2.2.2.2.2.2.2.2.2.2.2.2.2.2.1, r1.2.2.2.2.2.2.2.2.2.2.2.2.2.2.2.1, r1.2.2.2.2.2.2.2.2.2.2.2.2.2.2.2.2.1, r1.2.2.2.2.2.2.2.2.2.2.2.2.2.2.2.2.2.1, r1.2.2.2.2.2.2.2.2.2.2.2.2.2.2.2.2.2.2.1, r1.2.2.2.2.2.2.2.2.2.2.2.2.2.2.2.2.2.2.2.1, r1.2.2.2.2.2.2.2.2.2.2.2.2.2.2.2.2.2.2.2.2)
  else
    if r1.1 = 2 then
      some (1, p4, r1.2.2.1, r1.2.2.2.1, r1.2.2.2.2.1, r1.2.2.2.2.2.1, r1.2.2.2.2.2.2.1, r1.2.2.2.2.2.2.2.1, r1.2.2.2.2.2.2.2.2.1, r1.2.2.2.2.2.2.2.2.2.1, r1.2.2.2.2.2.2.2.2.2.2.1, r1.2.2.2.2.2.2.2.2.2.2.2.1, r1.2.2.2.2.2.2.2.2.2.2.2.2.1, r1.2.2.2.2.2.2.2.2.2.2.2.2.2.1, r1.2.2.2.2.2.2.2.2.2.2.2.2.2.2.1, r1.2.2.2.2.2.2.2.2.2.2.2.2.2.2.2.1, r1.2.2.2.2.2.2.2.2.2.2.2.2.2.2.2.2.1, r1.2.2.2.2.2.2.2.2.2.2.2.2.2.2.2.2.2.1, r1.2.2.2.2.2.2.2.2.2.2.2.2.2.2.2.2.2.2.1, r1.2.2.2.2.2.2.2.2.2.2.2.2.2.2.2.2.2.2.2.1, r1.2.2.2.2.2.2.2.2.2.2.2.2.2.2.2.2.2.2.2.2)
    else
      if r1.1 = 4 then
        some (2, p4, r1.2.2.1, r1.2.2.2.1, r1.2.2.2.2.1, r1.2.2.2.2.2.1, r1.2.2.2.2.2.2.1, r1.2.2.2.2.2.2.2.1, r1.2.2.2.2.2.2.2.2.1, r1.2.2.2.2.2.2.2.2.2.1, r1.2.2.2.2.2.2.2.2.2.2.1, r1.2.2.2.2.2.2.2.2.2.2.2.1, r1.2.2.2.2.2.2.2.2.2.2.2.2.1, r1.2.2.2.2.2.2.2.2.2.2.2.2.2.1, r1.2.2.2.2.2.2.2.2.2.2.2.2.2.2.1, r1.2.2.2.2.2.2.2.2.2.2.2.2.2.2.2.1, r1.2.2.2.2.2.2.2.2.2.2.2.2.2.2.2.2.1, r1.2.2.2.2.2.2.2.2.2.2.2.2.2.2.2.2.2.1, r1.2.2.2.2.2.2.2.2.2.2.2.2.2.2.2.2.2.2.1, r1.2.2.2.2.2.2.2.2.2.2.2.2.2.2.2.2.2.2.2.1, r1.2.2.2.2.2.2.2.2.2.2.2.2.2.2.2.2.2.2.2.2)
      else
        none
def g_L_ladle (LS : List Nat) (SE : Nat → SV) (n_p4 : Nat) (p4 : Nat → Int64) (p1_book_cauldrons : Int32) (p1_book_spells : Int32) (p1_book_cookedSoFar : Int32) (p1_book_storesSoFar : Int32) (p1_book_isBroth : Nat → Int32) (p1_history_next : Int32) (p1_history_changes : Int32) (p1_history_books : Nat → Option Nat) (bk_cauldrons : Int32) (bk_spells : Int32) (bk_cookedSoFar : Int32) (bk_storesSoFar : Int32) (bk_contents_many : Nat → Int32) (p1_book_contents_many : Nat → Int32) (bk_contents_much : Nat → UInt32) (p1_book_contents_much : Nat → UInt32) (bk_isBroth : Nat → Int32) (bk_low : Nat → Int32) (p1_book_low : Nat → Int32) (bk_high : Nat → Int32) (p1_book_high : Nat → Int32) (bk_storesIn : Nat → Int32) (p1_book_storesIn : Nat → Int32) (bk_texts : Nat → Option Nat) (p1_book_texts : Nat → Option Nat) (bk_cooked : Nat → Int32) (p1_book_cooked : Nat → Int32) (p1_refusal_isKept : Int32) (p1_refusal_reason : Int32) (p1_refusal_detail : Int32) (p1_refusal_hasCause : Int32) (p2 : Int32) (p3 : Int32) (a_bk : Nat) : Option (Int32 × (Nat → Int64) × Int32 × Int32 × Int32 × Int32 × Int32 × Int32 × (Nat → Int32) × (Nat → UInt32) × (Nat → UInt32) × (Nat → Int32) × (Nat → Int32) × (Nat → Int32) × (Nat → Int32) × (Nat → Option Nat) × (Nat → Int32) × Int32 × Int32 × Int32 × Int32) :=
  gb (g_X11_ladle LS SE p1_book_cauldrons p1_book_spells p1_book_cookedSoFar p1_book_storesSoFar p1_book_isBroth p1_history_next p1_history_changes p1_history_books bk_cauldrons bk_spells bk_cookedSoFar bk_storesSoFar bk_contents_many p1_book_contents_many bk_contents_much p1_book_contents_much bk_isBroth bk_low p1_book_low bk_high p1_book_high bk_storesIn p1_book_storesIn bk_texts p1_book_texts bk_cooked p1_book_cooked p1_refusal_isKept p1_refusal_reason p1_refusal_detail p1_refusal_hasCause p2 p3 a_bk) fun r1 =>
  if r1.1 = 0 then
    gc (inb (0 : Int32) n_p4) <|
    some (0, (vp_updL p4 (0 : Int32).toNatClampNeg r1.2.1.toInt64), r1.2.2.1, r1.2.2.2.1, r1.2.2.2.2.1, r1.2.2.2.2.2.1, r1.2.2.2.2.2.2.1, r1.2.2.2.2.2.2.2.1, r1.2.2.2.2.2.2.2.2.1, r1.2.2.2.2.2.2.2.2.2.1, r1.2.2.2.2.2.2.2.2.2.2.1, r1.2.2.2.2.2.2.2.2.2.2.2.1, r1.2.2.2.2.2.2.2.2.2.2.2.2.1, r1.2.2.2.2.2.2.2.2.2.2.2.2.2.1, r1.2.2.2.2.2.2.2.2.2.2.2.2.2.2.1, r1.2.2.2.2.2.2.2.2.2.2.2.2.2.2.2.1, r1.2.2.2.2.2.2.2.2.2.2.2.2.2.2.2.2.1, r1.2.2.2.2.2.2.2.2.2.2.2.2.2.2.2.2.2.1, r1.2.2.2.2.2.2.2.2.2.2.2.2.2.2.2.2.2.2.1, r1.2.2.2.2.2.2.2.2.2.2.2.2.2.2.2.2.2.2.2.1, r1.2.2.2.2.2.2.2.2.2.2.2.2.2.2.2.2.2.2.2.2)
  else
    if r1.1 = 1 then
      some (2, p4, r1.2.2.1, r1.2.2.2.1, r1.2.2.2.2.1, r1.2.2.2.2.2.1, r1.2.2.2.2.2.2.1, r1.2.2.2.2.2.2.2.1, r1.2.2.2.2.2.2.2.2.1, r1.2.2.2.2.2.2.2.2.2.1, r1.2.2.2.2.2.2.2.2.2.2.1, r1.2.2.2.2.2.2.2.2.2.2.2.1, r1.2.2.2.2.2.2.2.2.2.2.2.2.1, r1.2.2.2.2.2.2.2.2.2.2.2.2.2.1, r1.2.2.2.2.2.2.2.2.2.2.2.2.2.2.1, r1.2.2.2.2.2.2.2.2.2.2.2.2.2.2.2.1, r1.2.2.2.2.2.2.2.2.2.2.2.2.2.2.2.2.1, r1.2.2.2.2.2.2.2.2.2.2.2.2.2.2.2.2.2.1, r1.2.2.2.2.2.2.2.2.2.2.2.2.2.2.2.2.2.2.1, r1.2.2.2.2.2.2.2.2.2.2.2.2.2.2.2.2.2.2.2.1, r1.2.2.2.2.2.2.2.2.2.2.2.2.2.2.2.2.2.2.2.2)
    else
      if r1.1 = 2 then
        some (1, p4, r1.2.2.1, r1.2.2.2.1, r1.2.2.2.2.1, r1.2.2.2.2.2.1, r1.2.2.2.2.2.2.1, r1.2.2.2.2.2.2.2.1, r1.2.2.2.2.2.2.2.2.1, r1.2.2.2.2.2.2.2.2.2.1, r1.2.2.2.2.2.2.2.2.2.2.1, r1.2.2.2.2.2.2.2.2.2.2.2.1, r1.2.2.2.2.2.2.2.2.2.2.2.2.1, r1.2.2.2.2.2.2.2.2.2.2.2.2.2.1, r1.2.2.2.2.2.2.2.2.2.2.2.2.2.2.1, r1.2.2.2.2.2.2.2.2.2.2.2.2.2.2.2.1, r1.2.2.2.2.2.2.2.2.2.2.2.2.2.2.2.2.1, r1.2.2.2.2.2.2.2.2.2.2.2.2.2.2.2.2.2.1, r1.2.2.2.2.2.2.2.2.2.2.2.2.2.2.2.2.2.2.1, r1.2.2.2.2.2.2.2.2.2.2.2.2.2.2.2.2.2.2.2.1, r1.2.2.2.2.2.2.2.2.2.2.2.2.2.2.2.2.2.2.2.2)
      else
        if r1.1 = 4 then
          some (3, p4, r1.2.2.1, r1.2.2.2.1, r1.2.2.2.2.1, r1.2.2.2.2.2.1, r1.2.2.2.2.2.2.1, r1.2.2.2.2.2.2.2.1, r1.2.2.2.2.2.2.2.2.1, r1.2.2.2.2.2.2.2.2.2.1, r1.2.2.2.2.2.2.2.2.2.2.1, r1.2.2.2.2.2.2.2.2.2.2.2.1, r1.2.2.2.2.2.2.2.2.2.2.2.2.1, r1.2.2.2.2.2.2.2.2.2.2.2.2.2.1, r1.2.2.2.2.2.2.2.2.2.2.2.2.2.2.1, r1.2.2.2.2.2.2.2.2.2.2.2.2.2.2.2.1, r1.2.2.2.2.2.2.2.2.2.2.2.2.2.2.2.2.1, r1.2.2.2.2.2.2.2.2.2.2.2.2.2.2.2.2.2.1, r1.2.2.2.2.2.2.2.2.2.2.2.2.2.2.2.2.2.2.1, r1.2.2.2.2.2.2.2.2.2.2.2.2.2.2.2.2.2.2.2.1, r1.2.2.2.2.2.2.2.2.2.2.2.2.2.2.2.2.2.2.2.2)
        else
          none
def g_L_bounds (LS : List Nat) (SE : Nat → SV) (n_p5 : Nat) (p5 : Nat → Int64) (p1_book_cauldrons : Int32) (p1_book_spells : Int32) (p1_book_cookedSoFar : Int32) (p1_book_storesSoFar : Int32) (p1_book_isBroth : Nat → Int32) (p1_refusal_isKept : Int32) (p1_refusal_reason : Int32) (p1_refusal_detail : Int32) (p1_refusal_hasCause : Int32) (p1_book_contents_many : Nat → Int32) (p1_history_next : Int32) (p1_history_changes : Int32) (p1_history_books : Nat → Option Nat) (bk_cauldrons : Int32) (bk_spells : Int32) (bk_cookedSoFar : Int32) (bk_storesSoFar : Int32) (bk_contents_many : Nat → Int32) (bk_contents_much : Nat → UInt32) (p1_book_contents_much : Nat → UInt32) (bk_isBroth : Nat → Int32) (bk_low : Nat → Int32) (p1_book_low : Nat → Int32) (bk_high : Nat → Int32) (p1_book_high : Nat → Int32) (bk_storesIn : Nat → Int32) (p1_book_storesIn : Nat → Int32) (bk_texts : Nat → Option Nat) (p1_book_texts : Nat → Option Nat) (bk_cooked : Nat → Int32) (p1_book_cooked : Nat → Int32) (p1_typing_faultAt : Int32) (p1_typing_stores : Int32) (p1_typing_spoons : Int32) (p1_typing_isBroth : Nat → Int32) (p1_typing_low : Nat → Int64) (p1_typing_high : Nat → Int64) (p1_typing_storeIsBroth : Nat → Int32) (p1_typing_storeLow : Nat → Int64) (p1_typing_storeHigh : Nat → Int64) (p2 : Int32) (p3 : Int32) (p4 : Int32) (a_bk : Nat) : Option (Int32 × (Nat → Int64) × Int32 × Int32 × Int32 × Int32 × Int32 × Int32 × Int32 × Int32 × Int32 × Int32 × (Nat → Int32) × (Nat → UInt32) × (Nat → Int32) × (Nat → Int32) × (Nat → Int32) × (Nat → Int32) × (Nat → Int32) × (Nat → Int32) × (Nat → Option Nat) × (Nat → Int32) × Int32 × Int32 × Int32 × (Nat → Int32) × (Nat → Int64) × (Nat → Int64) × (Nat → Int32) × (Nat → Int64) × (Nat → Int64)) :=
  gb (g_X11_bounds LS SE p1_book_cauldrons p1_book_spells p1_book_cookedSoFar p1_book_storesSoFar p1_book_isBroth p1_refusal_isKept p1_refusal_reason p1_refusal_detail p1_refusal_hasCause p1_book_contents_many p1_history_next p1_history_changes p1_history_books bk_cauldrons bk_spells bk_cookedSoFar bk_storesSoFar bk_contents_many bk_contents_much p1_book_contents_much bk_isBroth bk_low p1_book_low bk_high p1_book_high bk_storesIn p1_book_storesIn bk_texts p1_book_texts bk_cooked p1_book_cooked p1_typing_faultAt p1_typing_stores p1_typing_spoons p1_typing_isBroth p1_typing_low p1_typing_high p1_typing_storeIsBroth p1_typing_storeLow p1_typing_storeHigh p2 p3 p4 a_bk) fun r1 =>
  if r1.1 = 0 then
    gc (inb (0 : Int32) n_p5) <|
    some (0, (vp_updL p5 (0 : Int32).toNatClampNeg r1.2.1.toInt64), r1.2.2.1, r1.2.2.2.1, r1.2.2.2.2.1, r1.2.2.2.2.2.1, r1.2.2.2.2.2.2.1, r1.2.2.2.2.2.2.2.1, r1.2.2.2.2.2.2.2.2.1, r1.2.2.2.2.2.2.2.2.2.1, r1.2.2.2.2.2.2.2.2.2.2.1, r1.2.2.2.2.2.2.2.2.2.2.2.1, r1.2.2.2.2.2.2.2.2.2.2.2.2.1, r1.2.2.2.2.2.2.2.2.2.2.2.2.2.1, r1.2.2.2.2.2.2.2.2.2.2.2.2.2.2.1, r1.2.2.2.2.2.2.2.2.2.2.2.2.2.2.2.1, r1.2.2.2.2.2.2.2.2.2.2.2.2.2.2.2.2.1, r1.2.2.2.2.2.2.2.2.2.2.2.2.2.2.2.2.2.1, r1.2.2.2.2.2.2.2.2.2.2.2.2.2.2.2.2.2.2.1, r1.2.2.2.2.2.2.2.2.2.2.2.2.2.2.2.2.2.2.2.1, r1.2.2.2.2.2.2.2.2.2.2.2.2.2.2.2.2.2.2.2.2.1, r1.2.2.2.2.2.2.2.2.2.2.2.2.2.2.2.2.2.2.2.2.2.1, r1.2.2.2.2.2.2.2.2.2.2.2.2.2.2.2.2.2.2.2.2.2.2.1, r1.2.2.2.2.2.2.2.2.2.2.2.2.2.2.2.2.2.2.2.2.2.2.2.1, r1.2.2.2.2.2.2.2.2.2.2.2.2.2.2.2.2.2.2.2.2.2.2.2.2.1, r1.2.2.2.2.2.2.2.2.2.2.2.2.2.2.2.2.2.2.2.2.2.2.2.2.2.1, r1.2.2.2.2.2.2.2.2.2.2.2.2.2.2.2.2.2.2.2.2.2.2.2.2.2.2.1, r1.2.2.2.2.2.2.2.2.2.2.2.2.2.2.2.2.2.2.2.2.2.2.2.2.2.2.2.1, r1.2.2.2.2.2.2.2.2.2.2.2.2.2.2.2.2.2.2.2.2.2.2.2.2.2.2.2.2.1, r1.2.2.2.2.2.2.2.2.2.2.2.2.2.2.2.2.2.2.2.2.2.2.2.2.2.2.2.2.2.1, r1.2.2.2.2.2.2.2.2.2.2.2.2.2.2.2.2.2.2.2.2.2.2.2.2.2.2.2.2.2.2)
  else
    if r1.1 = 1 then
      some (2, p5, r1.2.2.1, r1.2.2.2.1, r1.2.2.2.2.1, r1.2.2.2.2.2.1, r1.2.2.2.2.2.2.1, r1.2.2.2.2.2.2.2.1, r1.2.2.2.2.2.2.2.2.1, r1.2.2.2.2.2.2.2.2.2.1, r1.2.2.2.2.2.2.2.2.2.2.1, r1.2.2.2.2.2.2.2.2.2.2.2.1, r1.2.2.2.2.2.2.2.2.2.2.2.2.1, r1.2.2.2.2.2.2.2.2.2.2.2.2.2.1, r1.2.2.2.2.2.2.2.2.2.2.2.2.2.2.1, r1.2.2.2.2.2.2.2.2.2.2.2.2.2.2.2.1, r1.2.2.2.2.2.2.2.2.2.2.2.2.2.2.2.2.1, r1.2.2.2.2.2.2.2.2.2.2.2.2.2.2.2.2.2.1, r1.2.2.2.2.2.2.2.2.2.2.2.2.2.2.2.2.2.2.1, r1.2.2.2.2.2.2.2.2.2.2.2.2.2.2.2.2.2.2.2.1, r1.2.2.2.2.2.2.2.2.2.2.2.2.2.2.2.2.2.2.2.2.1, r1.2.2.2.2.2.2.2.2.2.2.2.2.2.2.2.2.2.2.2.2.2.1, r1.2.2.2.2.2.2.2.2.2.2.2.2.2.2.2.2.2.2.2.2.2.2.1, r1.2.2.2.2.2.2.2.2.2.2.2.2.2.2.2.2.2.2.2.2.2.2.2.1, r1.2.2.2.2.2.2.2.2.2.2.2.2.2.2.2.2.2.2.2.2.2.2.2.2.1, r1.2.2.2.2.2.2.2.2.2.2.2.2.2.2.2.2.2.2.2.2.2.2.2.2.2.1, r1.2.2.2.2.2.2.2.2.2.2.2.2.2.2.2.2.2.2.2.2.2.2.2.2.2.2.1, r1.2.2.2.2.2.2.2.2.2.2.2.2.2.2.2.2.2.2.2.2.2.2.2.2.2.2.2.1, r1.2.2.2.2.2.2.2.2.2.2.2.2.2.2.2.2.2.2.2.2.2.2.2.2.2.2.2.2.1, r1.2.2.2.2.2.2.2.2.2.2.2.2.2.2.2.2.2.2.2.2.2.2.2.2.2.2.2.2.2.1, r1.2.2.2.2.2.2.2.2.2.2.2.2.2.2.2.2.2.2.2.2.2.2.2.2.2.2.2.2.2.2)
    else
      if r1.1 = 2 then
        some (1, p5, r1.2.2.1, r1.2.2.2.1, r1.2.2.2.2.1, r1.2.2.2.2.2.1, r1.2.2.2.2.2.2.1, r1.2.2.2.2.2.2.2.1, r1.2.2.2.2.2.2.2.2.1, r1.2.2.2.2.2.2.2.2.2.1, r1.2.2.2.2.2.2.2.2.2.2.1, r1.2.2.2.2.2.2.2.2.2.2.2.1, r1.2.2.2.2.2.2.2.2.2.2.2.2.1, r1.2.2.2.2.2.2.2.2.2.2.2.2.2.1, r1.2.2.2.2.2.2.2.2.2.2.2.2.2.2.1, r1.2.2.2.2.2.2.2.2.2.2.2.2.2.2.2.1, r1.2.2.2.2.2.2.2.2.2.2.2.2.2.2.2.2.1, r1.2.2.2.2.2.2.2.2.2.2.2.2.2.2.2.2.2.1, r1.2.2.2.2.2.2.2.2.2.2.2.2.2.2.2.2.2.2.1, r1.2.2.2.2.2.2.2.2.2.2.2.2.2.2.2.2.2.2.2.1, r1.2.2.2.2.2.2.2.2.2.2.2.2.2.2.2.2.2.2.2.2.1, r1.2.2.2.2.2.2.2.2.2.2.2.2.2.2.2.2.2.2.2.2.2.1, r1.2.2.2.2.2.2.2.2.2.2.2.2.2.2.2.2.2.2.2.2.2.2.1, r1.2.2.2.2.2.2.2.2.2.2.2.2.2.2.2.2.2.2.2.2.2.2.2.1, r1.2.2.2.2.2.2.2.2.2.2.2.2.2.2.2.2.2.2.2.2.2.2.2.2.1, r1.2.2.2.2.2.2.2.2.2.2.2.2.2.2.2.2.2.2.2.2.2.2.2.2.2.1, r1.2.2.2.2.2.2.2.2.2.2.2.2.2.2.2.2.2.2.2.2.2.2.2.2.2.2.1, r1.2.2.2.2.2.2.2.2.2.2.2.2.2.2.2.2.2.2.2.2.2.2.2.2.2.2.2.1, r1.2.2.2.2.2.2.2.2.2.2.2.2.2.2.2.2.2.2.2.2.2.2.2.2.2.2.2.2.1, r1.2.2.2.2.2.2.2.2.2.2.2.2.2.2.2.2.2.2.2.2.2.2.2.2.2.2.2.2.2.1, r1.2.2.2.2.2.2.2.2.2.2.2.2.2.2.2.2.2.2.2.2.2.2.2.2.2.2.2.2.2.2)
      else
        if r1.1 = 4 then
          some (3, p5, r1.2.2.1, r1.2.2.2.1, r1.2.2.2.2.1, r1.2.2.2.2.2.1, r1.2.2.2.2.2.2.1, r1.2.2.2.2.2.2.2.1, r1.2.2.2.2.2.2.2.2.1, r1.2.2.2.2.2.2.2.2.2.1, r1.2.2.2.2.2.2.2.2.2.2.1, r1.2.2.2.2.2.2.2.2.2.2.2.1, r1.2.2.2.2.2.2.2.2.2.2.2.2.1, r1.2.2.2.2.2.2.2.2.2.2.2.2.2.1, r1.2.2.2.2.2.2.2.2.2.2.2.2.2.2.1, r1.2.2.2.2.2.2.2.2.2.2.2.2.2.2.2.1, r1.2.2.2.2.2.2.2.2.2.2.2.2.2.2.2.2.1, r1.2.2.2.2.2.2.2.2.2.2.2.2.2.2.2.2.2.1, r1.2.2.2.2.2.2.2.2.2.2.2.2.2.2.2.2.2.2.1, r1.2.2.2.2.2.2.2.2.2.2.2.2.2.2.2.2.2.2.2.1, r1.2.2.2.2.2.2.2.2.2.2.2.2.2.2.2.2.2.2.2.2.1, r1.2.2.2.2.2.2.2.2.2.2.2.2.2.2.2.2.2.2.2.2.2.1, r1.2.2.2.2.2.2.2.2.2.2.2.2.2.2.2.2.2.2.2.2.2.2.1, r1.2.2.2.2.2.2.2.2.2.2.2.2.2.2.2.2.2.2.2.2.2.2.2.1, r1.2.2.2.2.2.2.2.2.2.2.2.2.2.2.2.2.2.2.2.2.2.2.2.2.1, r1.2.2.2.2.2.2.2.2.2.2.2.2.2.2.2.2.2.2.2.2.2.2.2.2.2.1, r1.2.2.2.2.2.2.2.2.2.2.2.2.2.2.2.2.2.2.2.2.2.2.2.2.2.2.1, r1.2.2.2.2.2.2.2.2.2.2.2.2.2.2.2.2.2.2.2.2.2.2.2.2.2.2.2.1, r1.2.2.2.2.2.2.2.2.2.2.2.2.2.2.2.2.2.2.2.2.2.2.2.2.2.2.2.2.1, r1.2.2.2.2.2.2.2.2.2.2.2.2.2.2.2.2.2.2.2.2.2.2.2.2.2.2.2.2.2.1, r1.2.2.2.2.2.2.2.2.2.2.2.2.2.2.2.2.2.2.2.2.2.2.2.2.2.2.2.2.2.2)
        else
          none
def g_L_erase (LS : List Nat) (SE : Nat → SV) (n_p3 : Nat) (p3 : Nat → Int64) (p1_book_cauldrons : Int32) (p1_book_spells : Int32) (p1_book_cookedSoFar : Int32) (p1_book_storesSoFar : Int32) (p1_book_texts : Nat → Option Nat) (p1_history_next : Int32) (p1_history_changes : Int32) (p1_history_books : Nat → Option Nat) (bk_cauldrons : Int32) (bk_spells : Int32) (bk_cookedSoFar : Int32) (bk_storesSoFar : Int32) (bk_contents_many : Nat → Int32) (p1_book_contents_many : Nat → Int32) (bk_contents_much : Nat → UInt32) (p1_book_contents_much : Nat → UInt32) (bk_isBroth : Nat → Int32) (p1_book_isBroth : Nat → Int32) (bk_low : Nat → Int32) (p1_book_low : Nat → Int32) (bk_high : Nat → Int32) (p1_book_high : Nat → Int32) (bk_storesIn : Nat → Int32) (p1_book_storesIn : Nat → Int32) (bk_texts : Nat → Option Nat) (bk_cooked : Nat → Int32) (p1_book_cooked : Nat → Int32) (p2 : Int32) (a_bk : Nat) : Option (Int32 × (Nat → Int64) × Int32 × (Nat → Option Nat) × Int32 × Int32 × Int32 × Int32 × Int32 × Int32 × (Nat → Int32) × (Nat → UInt32) × (Nat → Int32) × (Nat → Int32) × (Nat → Int32) × (Nat → Int32) × (Nat → Option Nat) × (Nat → Int32) × (Nat → Int32)) :=
  gb (g_X11_erase LS SE p1_book_cauldrons p1_book_spells p1_book_cookedSoFar p1_book_storesSoFar p1_book_texts p1_history_next p1_history_changes p1_history_books bk_cauldrons bk_spells bk_cookedSoFar bk_storesSoFar bk_contents_many p1_book_contents_many bk_contents_much p1_book_contents_much bk_isBroth p1_book_isBroth bk_low p1_book_low bk_high p1_book_high bk_storesIn p1_book_storesIn bk_texts bk_cooked p1_book_cooked p2 a_bk) fun r1 =>
  if r1.1 = 0 then
    gc (inb (0 : Int32) n_p3) <|
    some (0, (vp_updL p3 (0 : Int32).toNatClampNeg r1.2.1.toInt64), r1.2.2.1, r1.2.2.2.1, r1.2.2.2.2.1, r1.2.2.2.2.2.1, r1.2.2.2.2.2.2.1, r1.2.2.2.2.2.2.2.1, r1.2.2.2.2.2.2.2.2.1, r1.2.2.2.2.2.2.2.2.2.1, r1.2.2.2.2.2.2.2.2.2.2.1, r1.2.2.2.2.2.2.2.2.2.2.2.1, r1.2.2.2.2.2.2.2.2.2.2.2.2.1, r1.2.2.2.2.2.2.2.2.2.2.2.2.2.1, r1.2.2.2.2.2.2.2.2.2.2.2.2.2.2.1, r1.2.2.2.2.2.2.2.2.2.2.2.2.2.2.2.1, r1.2.2.2.2.2.2.2.2.2.2.2.2.2.2.2.2.1, r1.2.2.2.2.2.2.2.2.2.2.2.2.2.2.2.2.2.1, r1.2.2.2.2.2.2.2.2.2.2.2.2.2.2.2.2.2.2)
  else
    if r1.1 = 2 then
      some (1, p3, r1.2.2.1, r1.2.2.2.1, r1.2.2.2.2.1, r1.2.2.2.2.2.1, r1.2.2.2.2.2.2.1, r1.2.2.2.2.2.2.2.1, r1.2.2.2.2.2.2.2.2.1, r1.2.2.2.2.2.2.2.2.2.1, r1.2.2.2.2.2.2.2.2.2.2.1, r1.2.2.2.2.2.2.2.2.2.2.2.1, r1.2.2.2.2.2.2.2.2.2.2.2.2.1, r1.2.2.2.2.2.2.2.2.2.2.2.2.2.1, r1.2.2.2.2.2.2.2.2.2.2.2.2.2.2.1, r1.2.2.2.2.2.2.2.2.2.2.2.2.2.2.2.1, r1.2.2.2.2.2.2.2.2.2.2.2.2.2.2.2.2.1, r1.2.2.2.2.2.2.2.2.2.2.2.2.2.2.2.2.2.1, r1.2.2.2.2.2.2.2.2.2.2.2.2.2.2.2.2.2.2)
    else
      none
def g_L_cook (LS : List Nat) (SE : Nat → SV) (n_p3 : Nat) (p1_boiledOver : Int32) (p3 : Nat → Int64) (p1_book_cauldrons : Int32) (p1_book_spells : Int32) (p1_book_cookedSoFar : Int32) (p1_book_storesSoFar : Int32) (p1_book_texts : Nat → Option Nat) (p1_cooking_boilsAt : Int32) (p1_cooking_cause : Int32) (p1_cooking_causeDetail : Int32) (p1_cooking_spoons : Int32) (p1_cooking_now_many : Nat → Int32) (p1_book_contents_many : Nat → Int32) (p1_cooking_now_much : Nat → UInt32) (p1_book_contents_much : Nat → UInt32) (p1_cooking_before_many : Nat → Int32) (p1_cooking_before_much : Nat → UInt32) (p1_cooking_storesIn : Nat → Int32) (p1_book_isBroth : Nat → Int32) (p1_cooking_isBroth : Nat → Int32) (p1_cooking_many : Nat → Int32) (p1_cooking_much : Nat → UInt32) (p1_book_low : Nat → Int32) (p1_book_high : Nat → Int32) (p1_history_next : Int32) (p1_history_changes : Int32) (p1_history_books : Nat → Option Nat) (bk_cauldrons : Int32) (bk_spells : Int32) (bk_cookedSoFar : Int32) (bk_storesSoFar : Int32) (bk_contents_many : Nat → Int32) (bk_contents_much : Nat → UInt32) (bk_isBroth : Nat → Int32) (bk_low : Nat → Int32) (bk_high : Nat → Int32) (bk_storesIn : Nat → Int32) (p1_book_storesIn : Nat → Int32) (bk_texts : Nat → Option Nat) (bk_cooked : Nat → Int32) (p1_book_cooked : Nat → Int32) (p1_refusal_isKept : Int32) (p1_refusal_reason : Int32) (p1_refusal_detail : Int32) (p1_refusal_hasCause : Int32) (p1_refusal_cause : Int32) (p1_refusal_causeDetail : Int32) (p2 : Int32) (a_bk : Nat) : Option (Int32 × Int32 × (Nat → Int64) × Int32 × Int32 × Int32 × Int32 × Int32 × Int32 × (Nat → Int32) × (Nat → Int32) × (Nat → UInt32) × (Nat → UInt32) × (Nat → Int32) × (Nat → UInt32) × (Nat → Int32) × (Nat → Int32) × (Nat → Int32) × (Nat → UInt32) × Int32 × Int32 × Int32 × Int32 × Int32 × Int32 × (Nat → Int32) × (Nat → UInt32) × (Nat → Int32) × (Nat → Int32) × (Nat → Int32) × (Nat → Int32) × (Nat → Int32) × (Nat → Option Nat) × (Nat → Int32) × (Nat → Int32) × Int32 × Int32 × Int32 × Int32 × Int32 × Int32) :=
  gb (g_X11_cook LS SE p1_boiledOver p1_book_cauldrons p1_book_spells p1_book_cookedSoFar p1_book_storesSoFar p1_book_texts p1_cooking_boilsAt p1_cooking_cause p1_cooking_causeDetail p1_cooking_spoons p1_cooking_now_many p1_book_contents_many p1_cooking_now_much p1_book_contents_much p1_cooking_before_many p1_cooking_before_much p1_cooking_storesIn p1_book_isBroth p1_cooking_isBroth p1_cooking_many p1_cooking_much p1_book_low p1_book_high p1_history_next p1_history_changes p1_history_books bk_cauldrons bk_spells bk_cookedSoFar bk_storesSoFar bk_contents_many bk_contents_much bk_isBroth bk_low bk_high bk_storesIn p1_book_storesIn bk_texts bk_cooked p1_book_cooked p1_refusal_isKept p1_refusal_reason p1_refusal_detail p1_refusal_hasCause p1_refusal_cause p1_refusal_causeDetail p2 a_bk) fun r1 =>
  if r1.1 = 0 then
    gc (inb (0 : Int32) n_p3) <|
    some (0, r1.2.2.1, (vp_updL p3 (0 : Int32).toNatClampNeg r1.2.1.toInt64), r1.2.2.2.1, r1.2.2.2.2.1, r1.2.2.2.2.2.1, r1.2.2.2.2.2.2.1, r1.2.2.2.2.2.2.2.1, r1.2.2.2.2.2.2.2.2.1, r1.2.2.2.2.2.2.2.2.2.1, r1.2.2.2.2.2.2.2.2.2.2.1, r1.2.2.2.2.2.2.2.2.2.2.2.1, r1.2.2.2.2.2.2.2.2.2.2.2.2.1, r1.2.2.2.2.2.2.2.2.2.2.2.2.2.1, r1.2.2.2.2.2.2.2.2.2.2.2.2.2.2.1, r1.2.2.2.2.2.2.2.2.2.2.2.2.2.2.2.1, r1.2.2.2.2.2.2.2.2.2.2.2.2.2.2.2.2.1, r1.2.2.2.2.2.2.2.2.2.2.2.2.2.2.2.2.2.1, r1.2.2.2.2.2.2.2.2.2.2.2.2.2.2.2.2.2.2.1, r1.2.2.2.2.2.2.2.2.2.2.2.2.2.2.2.2.2.2.2.1, r1.2.2.2.2.2.2.2.2.2.2.2.2.2.2.2.2.2.2.2.2.1, r1.2.2.2.2.2.2.2.2.2.2.2.2.2.2.2.2.2.2.2.2.2.1, r1.2.2.2.2.2.2.2.2.2.2.2.2.2.2.2.2.2.2.2.2.2.2.1, r1.2.2.2.2.2.2.2.2.2.2.2.2.2.2.2.2.2.2.2.2.2.2.2.1, r1.2.2.2.2.2.2.2.2.2.2.2.2.2.2.2.2.2.2.2.2.2.2.2.2.1, r1.2.2.2.2.2.2.2.2.2.2.2.2.2.2.2.2.2.2.2.2.2.2.2.2.2.1, r1.2.2.2.2.2.2.2.2.2.2.2.2.2.2.2.2.2.2.2.2.2.2.2.2.2.2.1, r1.2.2.2.2.2.2.2.2.2.2.2.2.2.2.2.2.2.2.2.2.2.2.2.2.2.2.2.1, r1.2.2.2.2.2.2.2.2.2.2.2.2.2.2.2.2.2.2.2.2.2.2.2.2.2.2.2.2.1, r1.2.2.2.2.2.2.2.2.2.2.2.2.2.2.2.2.2.2.2.2.2.2.2.2.2.2.2.2.2.1, r1.2.2.2.2.2.2.2.2.2.2.2.2.2.2.2.2.2.2.2.2.2.2.2.2.2.2.2.2.2.2.1, r1.2.2.2.2.2.2.2.2.2.2.2.2.2.2.2.2.2.2.2.2.2.2.2.2.2.2.2.2.2.2.2.1, r1.2.2.2.2.2.2.2.2.2.2.2.2.2.2.2.2.2.2.2.2.2.2.2.2.2.2.2.2.2.2.2.2.1, r1.2.2.2.2.2.2.2.2.2.2.2.2.2.2.2.2.2.2.2.2.2.2.2.2.2.2.2.2.2.2.2.2.2.1, r1.2.2.2.2.2.2.2.2.2.2.2.2.2.2.2.2.2.2.2.2.2.2.2.2.2.2.2.2.2.2.2.2.2.2.1, r1.2.2.2.2.2.2.2.2.2.2.2.2.2.2.2.2.2.2.2.2.2.2.2.2.2.2.2.2.2.2.2.2.2.2.2.1, r1.2.2.2.2.2.2.2.2.2.2.2.2.2.2.2.2.2.2.2.2.2.2.2.2.2.2.2.2.2.2.2.2.2.2.2.2.1, r1.2.2.2.2.2.2.2.2.2.2.2.2.2.2.2.2.2.2.2.2.2.2.2.2.2.2.2.2.2.2.2.2.2.2.2.2.2.1, r1.2.2.2.2.2.2.2.2.2.2.2.2.2.2.2.2.2.2.2.2.2.2.2.2.2.2.2.2.2.2.2.2.2.2.2.2.2.2.1, r1.2.2.2.2.2.2.2.2.2.2.2.2.2.2.2.2.2.2.2.2.2.2.2.2.2.2.2.2.2.2.2.2.2.2.2.2.2.2.2.1, r1.2.2.2.2.2.2.2.2.2.2.2.2.2.2.2.2.2.2.2.2.2.2.2.2.2.2.2.2.2.2.2.2.2.2.2.2.2.2.2.2)
  else
    if r1.1 = 2 then
      some (1, r1.2.2.1, p3, r1.2.2.2.1, r1.2.2.2.2.1, r1.2.2.2.2.2.1, r1.2.2.2.2.2.2.1, r1.2.2.2.2.2.2.2.1, r1.2.2.2.2.2.2.2.2.1, r1.2.2.2.2.2.2.2.2.2.1, r1.2.2.2.2.2.2.2.2.2.2.1, r1.2.2.2.2.2.2.2.2.2.2.2.1, r1.2.2.2.2.2.2.2.2.2.2.2.2.1, r1.2.2.2.2.2.2.2.2.2.2.2.2.2.1, r1.2.2.2.2.2.2.2.2.2.2.2.2.2.2.1, r1.2.2.2.2.2.2.2.2.2.2.2.2.2.2.2.1, r1.2.2.2.2.2.2.2.2.2.2.2.2.2.2.2.2.1, r1.2.2.2.2.2.2.2.2.2.2.2.2.2.2.2.2.2.1, r1.2.2.2.2.2.2.2.2.2.2.2.2.2.2.2.2.2.2.1, r1.2.2.2.2.2.2.2.2.2.2.2.2.2.2.2.2.2.2.2.1, r1.2.2.2.2.2.2.2.2.2.2.2.2.2.2.2.2.2.2.2.2.1, r1.2.2.2.2.2.2.2.2.2.2.2.2.2.2.2.2.2.2.2.2.2.1, r1.2.2.2.2.2.2.2.2.2.2.2.2.2.2.2.2.2.2.2.2.2.2.1, r1.2.2.2.2.2.2.2.2.2.2.2.2.2.2.2.2.2.2.2.2.2.2.2.1, r1.2.2.2.2.2.2.2.2.2.2.2.2.2.2.2.2.2.2.2.2.2.2.2.2.1, r1.2.2.2.2.2.2.2.2.2.2.2.2.2.2.2.2.2.2.2.2.2.2.2.2.2.1, r1.2.2.2.2.2.2.2.2.2.2.2.2.2.2.2.2.2.2.2.2.2.2.2.2.2.2.1, r1.2.2.2.2.2.2.2.2.2.2.2.2.2.2.2.2.2.2.2.2.2.2.2.2.2.2.2.1, r1.2.2.2.2.2.2.2.2.2.2.2.2.2.2.2.2.2.2.2.2.2.2.2.2.2.2.2.2.1, r1.2.2.2.2.2.2.2.2.2.2.2.2.2.2.2.2.2.2.2.2.2.2.2.2.2.2.2.2.2.1, r1.2.2.2.2.2.2.2.2.2.2.2.2.2.2.2.2.2.2.2.2.2.2.2.2.2.2.2.2.2.2.1, r1.2.2.2.2.2.2.2.2.2.2.2.2.2.2.2.2.2.2.2.2.2.2.2.2.2.2.2.2.2.2.2.1, r1.2.2.2.2.2.2.2.2.2.2.2.2.2.2.2.2.2.2.2.2.2.2.2.2.2.2.2.2.2.2.2.2.1, r1.2.2.2.2.2.2.2.2.2.2.2.2.2.2.2.2.2.2.2.2.2.2.2.2.2.2.2.2.2.2.2.2.2.1, r1.2.2.2.2.2.2.2.2.2.2.2.2.2.2.2.2.2.2.2.2.2.2.2.2.2.2.2.2.2.2.2.2.2.2.1, r1.2.2.2.2.2.2.2.2.2.2.2.2.2.2.2.2.2.2.2.2.2.2.2.2.2.2.2.2.2.2.2.2.2.2.2.1, r1.2.2.2.2.2.2.2.2.2.2.2.2.2.2.2.2.2.2.2.2.2.2.2.2.2.2.2.2.2.2.2.2.2.2.2.2.1, r1.2.2.2.2.2.2.2.2.2.2.2.2.2.2.2.2.2.2.2.2.2.2.2.2.2.2.2.2.2.2.2.2.2.2.2.2.2.1, r1.2.2.2.2.2.2.2.2.2.2.2.2.2.2.2.2.2.2.2.2.2.2.2.2.2.2.2.2.2.2.2.2.2.2.2.2.2.2.1, r1.2.2.2.2.2.2.2.2.2.2.2.2.2.2.2.2.2.2.2.2.2.2.2.2.2.2.2.2.2.2.2.2.2.2.2.2.2.2.2.1, r1.2.2.2.2.2.2.2.2.2.2.2.2.2.2.2.2.2.2.2.2.2.2.2.2.2.2.2.2.2.2.2.2.2.2.2.2.2.2.2.2)
    else
      if r1.1 = 4 then
        some (2, r1.2.2.1, p3, r1.2.2.2.1, r1.2.2.2.2.1, r1.2.2.2.2.2.1, r1.2.2.2.2.2.2.1, r1.2.2.2.2.2.2.2.1, r1.2.2.2.2.2.2.2.2.1, r1.2.2.2.2.2.2.2.2.2.1, r1.2.2.2.2.2.2.2.2.2.2.1, r1.2.2.2.2.2.2.2.2.2.2.2.1, r1.2.2.2.2.2.2.2.2.2.2.2.2.1, r1.2.2.2.2.2.2.2.2.2.2.2.2.2.1, r1.2.2.2.2.2.2.2.2.2.2.2.2.2.2.1, r1.2.2.2.2.2.2.2.2.2.2.2.2.2.2.2.1, r1.2.2.2.2.2.2.2.2.2.2.2.2.2.2.2.2.1, r1.2.2.2.2.2.2.2.2.2.2.2.2.2.2.2.2.2.1, r1.2.2.2.2.2.2.2.2.2.2.2.2.2.2.2.2.2.2.1, r1.2.2.2.2.2.2.2.2.2.2.2.2.2.2.2.2.2.2.2.1, r1.2.2.2.2.2.2.2.2.2.2.2.2.2.2.2.2.2.2.2.2.1, r1.2.2.2.2.2.2.2.2.2.2.2.2.2.2.2.2.2.2.2.2.2.1, r1.2.2.2.2.2.2.2.2.2.2.2.2.2.2.2.2.2.2.2.2.2.2.1, r1.2.2.2.2.2.2.2.2.2.2.2.2.2.2.2.2.2.2.2.2.2.2.2.1, r1.2.2.2.2.2.2.2.2.2.2.2.2.2.2.2.2.2.2.2.2.2.2.2.2.1, r1.2.2.2.2.2.2.2.2.2.2.2.2.2.2.2.2.2.2.2.2.2.2.2.2.2.1, r1.2.2.2.2.2.2.2.2.2.2.2.2.2.2.2.2.2.2.2.2.2.2.2.2.2.2.1, r1.2.2.2.2.2.2.2.2.2.2.2.2.2.2.2.2.2.2.2.2.2.2.2.2.2.2.2.1, r1.2.2.2.2.2.2.2.2.2.2.2.2.2.2.2.2.2.2.2.2.2.2.2.2.2.2.2.2.1, r1.2.2.2.2.2.2.2.2.2.2.2.2.2.2.2.2.2.2.2.2.2.2.2.2.2.2.2.2.2.1, r1.2.2.2.2.2.2.2.2.2.2.2.2.2.2.2.2.2.2.2.2.2.2.2.2.2.2.2.2.2.2.1, r1.2.2.2.2.2.2.2.2.2.2.2.2.2.2.2.2.2.2.2.2.2.2.2.2.2.2.2.2.2.2.2.1, r1.2.2.2.2.2.2.2.2.2.2.2.2.2.2.2.2.2.2.2.2.2.2.2.2.2.2.2.2.2.2.2.2.1, r1.2.2.2.2.2.2.2.2.2.2.2.2.2.2.2.2.2.2.2.2.2.2.2.2.2.2.2.2.2.2.2.2.2.1, r1.2.2.2.2.2.2.2.2.2.2.2.2.2.2.2.2.2.2.2.2.2.2.2.2.2.2.2.2.2.2.2.2.2.2.1, r1.2.2.2.2.2.2.2.2.2.2.2.2.2.2.2.2.2.2.2.2.2.2.2.2.2.2.2.2.2.2.2.2.2.2.2.1, r1.2.2.2.2.2.2.2.2.2.2.2.2.2.2.2.2.2.2.2.2.2.2.2.2.2.2.2.2.2.2.2.2.2.2.2.2.1, r1.2.2.2.2.2.2.2.2.2.2.2.2.2.2.2.2.2.2.2.2.2.2.2.2.2.2.2.2.2.2.2.2.2.2.2.2.2.1, r1.2.2.2.2.2.2.2.2.2.2.2.2.2.2.2.2.2.2.2.2.2.2.2.2.2.2.2.2.2.2.2.2.2.2.2.2.2.2.1, r1.2.2.2.2.2.2.2.2.2.2.2.2.2.2.2.2.2.2.2.2.2.2.2.2.2.2.2.2.2.2.2.2.2.2.2.2.2.2.2.1, r1.2.2.2.2.2.2.2.2.2.2.2.2.2.2.2.2.2.2.2.2.2.2.2.2.2.2.2.2.2.2.2.2.2.2.2.2.2.2.2.2)
      else
        none
def g_L_cookAll (LS : List Nat) (SE : Nat → SV) (n_p2 : Nat) (p2 : Nat → Int64) (p1_book_cauldrons : Int32) (p1_book_spells : Int32) (p1_book_cookedSoFar : Int32) (p1_book_storesSoFar : Int32) (p1_book_texts : Nat → Option Nat) (p1_typing_faultAt : Int32) (p1_typing_stores : Int32) (p1_typing_spoons : Int32) (p1_book_isBroth : Nat → Int32) (p1_book_low : Nat → Int32) (p1_book_high : Nat → Int32) (p1_typing_isBroth : Nat → Int32) (p1_typing_low : Nat → Int64) (p1_typing_high : Nat → Int64) (p1_typing_storeIsBroth : Nat → Int32) (p1_typing_storeLow : Nat → Int64) (p1_typing_storeHigh : Nat → Int64) (p1_history_next : Int32) (p1_history_changes : Int32) (p1_history_books : Nat → Option Nat) (bk_cauldrons : Int32) (bk_spells : Int32) (bk_cookedSoFar : Int32) (bk_storesSoFar : Int32) (bk_contents_many : Nat → Int32) (p1_book_contents_many : Nat → Int32) (bk_contents_much : Nat → UInt32) (p1_book_contents_much : Nat → UInt32) (bk_isBroth : Nat → Int32) (bk_low : Nat → Int32) (bk_high : Nat → Int32) (bk_storesIn : Nat → Int32) (p1_book_storesIn : Nat → Int32) (bk_texts : Nat → Option Nat) (bk_cooked : Nat → Int32) (p1_book_cooked : Nat → Int32) (p1_refusal_isKept : Int32) (p1_refusal_reason : Int32) (p1_refusal_detail : Int32) (p1_refusal_hasCause : Int32) (p1_cooking_boilsAt : Int32) (p1_cooking_cause : Int32) (p1_cooking_causeDetail : Int32) (p1_cooking_spoons : Int32) (p1_cooking_now_many : Nat → Int32) (p1_cooking_now_much : Nat → UInt32) (p1_cooking_before_many : Nat → Int32) (p1_cooking_before_much : Nat → UInt32) (p1_cooking_storesIn : Nat → Int32) (p1_cooking_isBroth : Nat → Int32) (p1_cooking_many : Nat → Int32) (p1_cooking_much : Nat → UInt32) (a_bk : Nat) : Option (Int32 × (Nat → Int64) × Int32 × Int32 × Int32 × Int32 × Int32 × (Nat → Int32) × (Nat → Int64) × (Nat → Int64) × (Nat → Int32) × (Nat → Int64) × (Nat → Int64) × Int32 × Int32 × Int32 × Int32 × Int32 × Int32 × (Nat → Int32) × (Nat → Int32) × (Nat → UInt32) × (Nat → UInt32) × (Nat → Int32) × (Nat → Int32) × (Nat → Int32) × (Nat → Int32) × (Nat → Int32) × (Nat → Option Nat) × (Nat → Int32) × (Nat → Int32) × Int32 × Int32 × Int32 × Int32 × Int32 × Int32 × Int32 × Int32 × (Nat → Int32) × (Nat → UInt32) × (Nat → Int32) × (Nat → UInt32) × (Nat → Int32) × (Nat → Int32) × (Nat → Int32) × (Nat → UInt32)) :=
  gb (g_X11_cookAll LS SE p1_book_cauldrons p1_book_spells p1_book_cookedSoFar p1_book_storesSoFar p1_book_texts p1_typing_faultAt p1_typing_stores p1_typing_spoons p1_book_isBroth p1_book_low p1_book_high p1_typing_isBroth p1_typing_low p1_typing_high p1_typing_storeIsBroth p1_typing_storeLow p1_typing_storeHigh p1_history_next p1_history_changes p1_history_books bk_cauldrons bk_spells bk_cookedSoFar bk_storesSoFar bk_contents_many p1_book_contents_many bk_contents_much p1_book_contents_much bk_isBroth bk_low bk_high bk_storesIn p1_book_storesIn bk_texts bk_cooked p1_book_cooked p1_refusal_isKept p1_refusal_reason p1_refusal_detail p1_refusal_hasCause p1_cooking_boilsAt p1_cooking_cause p1_cooking_causeDetail p1_cooking_spoons p1_cooking_now_many p1_cooking_now_much p1_cooking_before_many p1_cooking_before_much p1_cooking_storesIn p1_cooking_isBroth p1_cooking_many p1_cooking_much a_bk) fun r1 =>
  if r1.1 = 0 then
    gc (inb (0 : Int32) n_p2) <|
    some (0, (vp_updL p2 (0 : Int32).toNatClampNeg r1.2.1.toInt64), r1.2.2.1, r1.2.2.2.1, r1.2.2.2.2.1, r1.2.2.2.2.2.1, r1.2.2.2.2.2.2.1, r1.2.2.2.2.2.2.2.1, r1.2.2.2.2.2.2.2.2.1, r1.2.2.2.2.2.2.2.2.2.1, r1.2.2.2.2.2.2.2.2.2.2.1, r1.2.2.2.2.2.2.2.2.2.2.2.1, r1.2.2.2.2.2.2.2.2.2.2.2.2.1, r1.2.2.2.2.2.2.2.2.2.2.2.2.2.1, r1.2.2.2.2.2.2.2.2.2.2.2.2.2.2.1, r1.2.2.2.2.2.2.2.2.2.2.2.2.2.2.2.1, r1.2.2.2.2.2.2.2.2.2.2.2.2.2.2.2.2.1, r1.2.2.2.2.2.2.2.2.2.2.2.2.2.2.2.2.2.1, r1.2.2.2.2.2.2.2.2.2.2.2.2.2.2.2.2.2.2.1, r1.2.2.2.2.2.2.2.2.2.2.2.2.2.2.2.2.2.2.2.1, r1.2.2.2.2.2.2.2.2.2.2.2.2.2.2.2.2.2.2.2.2.1, r1.2.2.2.2.2.2.2.2.2.2.2.2.2.2.2.2.2.2.2.2.2.1, r1.2.2.2.2.2.2.2.2.2.2.2.2.2.2.2.2.2.2.2.2.2.2.1, r1.2.2.2.2.2.2.2.2.2.2.2.2.2.2.2.2.2.2.2.2.2.2.2.1, r1.2.2.2.2.2.2.2.2.2.2.2.2.2.2.2.2.2.2.2.2.2.2.2.2.1, r1.2.2.2.2.2.2.2.2.2.2.2.2.2.2.2.2.2.2.2.2.2.2.2.2.2.1, r1.2.2.2.2.2.2.2.2.2.2.2.2.2.2.2.2.2.2.2.2.2.2.2.2.2.2.1, r1.2.2.2.2.2.2.2.2.2.2.2.2.2.2.2.2.2.2.2.2.2.2.2.2.2.2.2.1, r1.2.2.2.2.2.2.2.2.2.2.2.2.2.2.2.2.2.2.2.2.2.2.2.2.2.2.2.2.1, r1.2.2.2.2.2.2.2.2.2.2.2.2.2.2.2.2.2.2.2.2.2.2.2.2.2.2.2.2.2.1, r1.2.2.2.2.2.2.2.2.2.2.2.2.2.2.2.2.2.2.2.2.2.2.2.2.2.2.2.2.2.2.1, r1.2.2.2.2.2.2.2.2.2.2.2.2.2.2.2.2.2.2.2.2.2.2.2.2.2.2.2.2.2.2.2.1, r1.2.2.2.2.2.2.2.2.2.2.2.2.2.2.2.2.2.2.2.2.2.2.2.2.2.2.2.2.2.2.2.2.1, r1.2.2.2.2.2.2.2.2.2.2.2.2.2.2.2.2.2.2.2.2.2.2.2.2.2.2.2.2.2.2.2.2.2.1, r1.2.2.2.2.2.2.2.2.2.2.2.2.2.2.2.2.2.2.2.2.2.2.2.2.2.2.2.2.2.2.2.2.2.2.1, r1.2.2.2.2.2.2.2.2.2.2.2.2.2.2.2.2.2.2.2.2.2.2.2.2.2.2.2.2.2.2.2.2.2.2.2.1, r1.2.2.2.2.2.2.2.2.2.2.2.2.2.2.2.2.2.2.2.2.2.2.2.2.2.2.2.2.2.2.2.2.2.2.2.2.1, r1.2.2.2.2.2.2.2.2.2.2.2.2.2.2.2.2.2.2.2.2.2.2.2.2.2.2.2.2.2.2.2.2.2.2.2.2.2.1, r1.2.2.2.2.2.2.2.2.2.2.2.2.2.2.2.2.2.2.2.2.2.2.2.2.2.2.2.2.2.2.2.2.2.2.2.2.2.2.1, r1.2.2.2.2.2.2.2.2.2.2.2.2.2.2.2.2.2.2.2.2.2.2.2.2.2.2.2.2.2.2.2.2.2.2.2.2.2.2.2.1, r1.2.2.2.2.2.2.2.2.2.2.2.2.2.2.2.2.2.2.2.2.2.2.2.2.2.2.2.2.2.2.2.2.2.2.2.2.2.2.2.2.1, r1.2.2.2.2.2.2.2.2.2.2.2.2.2.2.2.2.2.2.2.2.2.2.2.2.2.2.2.2.2.2.2.2.2.2.2.2.2.2.2.2.2.1, r1.2.2.2.2.2.2.2.2.2.2.2.2.2.2.2.2.2.2.2.2.2.2.2.2.2.2.2.2.2.2.2.2.2.2.2.2.2.2.2.2.2.2.1, r1.2.2.2.2.2.2.2.2.2.2.2.2.2.2.2.2.2.2.2.2.2.2.2.2.2.2.2.2.2.2.2.2.2.2.2.2.2.2.2.2.2.2.2.1, r1.2.2.2.2.2.2.2.2.2.2.2.2.2.2.2.2.2.2.2.2.2.2.2.2.2.2.2.2.2.2.2.2.2.2.2.2.2.2.2.2.2.2.2.2.1, r1.2.2.2.2.2.2.2.2.2.2.2.2.2.2.2.2.2.2.2.2.2.2.2.2.2.2.2.2.2.2.2.2.2.2.2.2.2.2.2.2.2.2.2.2.2.1, r1.2.2.2.2.2.2.2.2.2.2.2.2.2.2.2.2.2.2.2.2.2.2.2.2.2.2.2.2.2.2.2.2.2.2.2.2.2.2.2.2.2.2.2.2.2.2)
  else
    if r1.1 = 4 then
      some (1, p2, r1.2.2.1, r1.2.2.2.1, r1.2.2.2.2.1, r1.2.2.2.2.2.1, r1.2.2.2.2.2.2.1, r1.2.2.2.2.2.2.2.1, r1.2.2.2.2.2.2.2.2.1, r1.2.2.2.2.2.2.2.2.2.1, r1.2.2.2.2.2.2.2.2.2.2.1, r1.2.2.2.2.2.2.2.2.2.2.2.1, r1.2.2.2.2.2.2.2.2.2.2.2.2.1, r1.2.2.2.2.2.2.2.2.2.2.2.2.2.1, r1.2.2.2.2.2.2.2.2.2.2.2.2.2.2.1, r1.2.2.2.2.2.2.2.2.2.2.2.2.2.2.2.1, r1.2.2.2.2.2.2.2.2.2.2.2.2.2.2.2.2.1, r1.2.2.2.2.2.2.2.2.2.2.2.2.2.2.2.2.2.1, r1.2.2.2.2.2.2.2.2.2.2.2.2.2.2.2.2.2.2.1, r1.2.2.2.2.2.2.2.2.2.2.2.2.2.2.2.2.2.2.2.1, r1.2.2.2.2.2.2.2.2.2.2.2.2.2.2.2.2.2.2.2.2.1, r1.2.2.2.2.2.2.2.2.2.2.2.2.2.2.2.2.2.2.2.2.2.1, r1.2.2.2.2.2.2.2.2.2.2.2.2.2.2.2.2.2.2.2.2.2.2.1, r1.2.2.2.2.2.2.2.2.2.2.2.2.2.2.2.2.2.2.2.2.2.2.2.1, r1.2.2.2.2.2.2.2.2.2.2.2.2.2.2.2.2.2.2.2.2.2.2.2.2.1, r1.2.2.2.2.2.2.2.2.2.2.2.2.2.2.2.2.2.2.2.2.2.2.2.2.2.1, r1.2.2.2.2.2.2.2.2.2.2.2.2.2.2.2.2.2.2.2.2.2.2.2.2.2.2.1, r1.2.2.2.2.2.2.2.2.2.2.2.2.2.2.2.2.2.2.2.2.2.2.2.2.2.2.2.1, r1.2.2.2.2.2.2.2.2.2.2.2.2.2.2.2.2.2.2.2.2.2.2.2.2.2.2.2.2.1, r1.2.2.2.2.2.2.2.2.2.2.2.2.2.2.2.2.2.2.2.2.2.2.2.2.2.2.2.2.2.1, r1.2.2.2.2.2.2.2.2.2.2.2.2.2.2.2.2.2.2.2.2.2.2.2.2.2.2.2.2.2.2.1, r1.2.2.2.2.2.2.2.2.2.2.2.2.2.2.2.2.2.2.2.2.2.2.2.2.2.2.2.2.2.2.2.1, r1.2.2.2.2.2.2.2.2.2.2.2.2.2.2.2.2.2.2.2.2.2.2.2.2.2.2.2.2.2.2.2.2.1, r1.2.2.2.2.2.2.2.2.2.2.2.2.2.2.2.2.2.2.2.2.2.2.2.2.2.2.2.2.2.2.2.2.2.1, r1.2.2.2.2.2.2.2.2.2.2.2.2.2.2.2.2.2.2.2.2.2.2.2.2.2.2.2.2.2.2.2.2.2.2.1, r1.2.2.2.2.2.2.2.2.2.2.2.2.2.2.2.2.2.2.2.2.2.2.2.2.2.2.2.2.2.2.2.2.2.2.2.1, r1.2.2.2.2.2.2.2.2.2.2.2.2.2.2.2.2.2.2.2.2.2.2.2.2.2.2.2.2.2.2.2.2.2.2.2.2.1, r1.2.2.2.2.2.2.2.2.2.2.2.2.2.2.2.2.2.2.2.2.2.2.2.2.2.2.2.2.2.2.2.2.2.2.2.2.2.1, r1.2.2.2.2.2.2.2.2.2.2.2.2.2.2.2.2.2.2.2.2.2.2.2.2.2.2.2.2.2.2.2.2.2.2.2.2.2.2.1, r1.2.2.2.2.2.2.2.2.2.2.2.2.2.2.2.2.2.2.2.2.2.2.2.2.2.2.2.2.2.2.2.2.2.2.2.2.2.2.2.1, r1.2.2.2.2.2.2.2.2.2.2.2.2.2.2.2.2.2.2.2.2.2.2.2.2.2.2.2.2.2.2.2.2.2.2.2.2.2.2.2.2.1, r1.2.2.2.2.2.2.2.2.2.2.2.2.2.2.2.2.2.2.2.2.2.2.2.2.2.2.2.2.2.2.2.2.2.2.2.2.2.2.2.2.2.1, r1.2.2.2.2.2.2.2.2.2.2.2.2.2.2.2.2.2.2.2.2.2.2.2.2.2.2.2.2.2.2.2.2.2.2.2.2.2.2.2.2.2.2.1, r1.2.2.2.2.2.2.2.2.2.2.2.2.2.2.2.2.2.2.2.2.2.2.2.2.2.2.2.2.2.2.2.2.2.2.2.2.2.2.2.2.2.2.2.1, r1.2.2.2.2.2.2.2.2.2.2.2.2.2.2.2.2.2.2.2.2.2.2.2.2.2.2.2.2.2.2.2.2.2.2.2.2.2.2.2.2.2.2.2.2.1, r1.2.2.2.2.2.2.2.2.2.2.2.2.2.2.2.2.2.2.2.2.2.2.2.2.2.2.2.2.2.2.2.2.2.2.2.2.2.2.2.2.2.2.2.2.2.1, r1.2.2.2.2.2.2.2.2.2.2.2.2.2.2.2.2.2.2.2.2.2.2.2.2.2.2.2.2.2.2.2.2.2.2.2.2.2.2.2.2.2.2.2.2.2.2)
    else
      none
def g_L_cauldronOf (LS : List Nat) (SE : Nat → SV) (n_p4 : Nat) (p4 : Nat → Int64) (p1_book_cauldrons : Int32) (p1_book_spells : Int32) (p1_book_isBroth : Nat → Int32) (p1_book_low : Nat → Int32) (p1_book_high : Nat → Int32) (p1_book_contents_many : Nat → Int32) (p1_book_contents_much : Nat → UInt32) (p1_book_storesIn : Nat → Int32) (p1_book_texts : Nat → Option Nat) (p2 : Int32) (p3 : Int32) : Option (Int32 × (Nat → Int64)) :=
  gb (g_X11_cauldronOf LS SE p1_book_cauldrons p1_book_spells p1_book_isBroth p1_book_low p1_book_high p1_book_contents_many p1_book_contents_much p1_book_storesIn p1_book_texts p2 p3) fun r1 =>
  if r1.1 = 0 then
    gc (inb (0 : Int32) n_p4) <|
    some (0, (vp_updL p4 (0 : Int32).toNatClampNeg r1.2.toInt64))
  else
    if r1.1 = 1 then
      some (2, p4)
    else
      if r1.1 = 2 then
        some (1, p4)
      else
        none
def g_L_cups (n_p3 : Nat) (p3 : Nat → UInt64) (p1_book_cauldrons : Int32) (p1_book_isBroth : Nat → Int32) (p1_book_contents_much : Nat → UInt32) (p2 : Int32) : Option (Int32 × (Nat → UInt64)) :=
  gb (g_X11_cups p1_book_cauldrons p1_book_isBroth p1_book_contents_much p2) fun r1 =>
  if r1.1 = 0 then
    gc (n64 (FP.f2d r1.2)) <|
    gc (inb (0 : Int32) n_p3) <|
    some (0, (vf_upd p3 (0 : Int32).toNatClampNeg (FP.f2d r1.2)))
  else
    if r1.1 = 2 then
      some (1, p3)
    else
      if r1.1 = 3 then
        some (2, p3)
      else
        none
def g_L_bits (n_p3 : Nat) (p3 : Nat → Int64) (p1_book_cauldrons : Int32) (p1_book_isBroth : Nat → Int32) (p1_book_contents_many : Nat → Int32) (p1_book_contents_much : Nat → UInt32) (p2 : Int32) : Option (Int32 × (Nat → Int64)) :=
  gb (g_X11_bits p1_book_cauldrons p1_book_isBroth p1_book_contents_many p1_book_contents_much p2) fun r1 =>
  if r1.1 = 0 then
    gc (inb (0 : Int32) n_p3) <|
    some (0, (vp_updL p3 (0 : Int32).toNatClampNeg r1.2.toInt64))
  else
    if r1.1 = 2 then
      some (1, p3)
    else
      none
def g_L_spellOf (LS : List Nat) (SE : Nat → SV) (n_p4 : Nat) (p4 : Nat → Int64) (p1_book_spells : Int32) (p1_book_texts : Nat → Option Nat) (p1_typing_faultAt : Int32) (p1_typing_stores : Int32) (p1_typing_spoons : Int32) (p1_book_isBroth : Nat → Int32) (p1_book_low : Nat → Int32) (p1_book_high : Nat → Int32) (p1_typing_isBroth : Nat → Int32) (p1_typing_low : Nat → Int64) (p1_typing_high : Nat → Int64) (p1_typing_storeIsBroth : Nat → Int32) (p1_typing_storeLow : Nat → Int64) (p1_typing_storeHigh : Nat → Int64) (p1_book_cooked : Nat → Int32) (p2 : Int32) (p3 : Int32) : Option (Int32 × (Nat → Int64) × Int32 × Int32 × Int32 × (Nat → Int32) × (Nat → Int64) × (Nat → Int64) × (Nat → Int32) × (Nat → Int64) × (Nat → Int64)) :=
  gb (g_X11_spellOf LS SE p1_book_spells p1_book_texts p1_typing_faultAt p1_typing_stores p1_typing_spoons p1_book_isBroth p1_book_low p1_book_high p1_typing_isBroth p1_typing_low p1_typing_high p1_typing_storeIsBroth p1_typing_storeLow p1_typing_storeHigh p1_book_cooked p2 p3) fun r1 =>
  if r1.1 = 0 then
    gc (inb (0 : Int32) n_p4) <|
    some (0, (vp_updL p4 (0 : Int32).toNatClampNeg r1.2.1.toInt64), r1.2.2.1, r1.2.2.2.1, r1.2.2.2.2.1, r1.2.2.2.2.2.1, r1.2.2.2.2.2.2.1, r1.2.2.2.2.2.2.2.1, r1.2.2.2.2.2.2.2.2.1, r1.2.2.2.2.2.2.2.2.2.1, r1.2.2.2.2.2.2.2.2.2.2)
  else
    if r1.1 = 1 then
      some (2, p4, r1.2.2.1, r1.2.2.2.1, r1.2.2.2.2.1, r1.2.2.2.2.2.1, r1.2.2.2.2.2.2.1, r1.2.2.2.2.2.2.2.1, r1.2.2.2.2.2.2.2.2.1, r1.2.2.2.2.2.2.2.2.2.1, r1.2.2.2.2.2.2.2.2.2.2)
    else
      if r1.1 = 2 then
        some (1, p4, r1.2.2.1, r1.2.2.2.1, r1.2.2.2.2.1, r1.2.2.2.2.2.1, r1.2.2.2.2.2.2.1, r1.2.2.2.2.2.2.2.1, r1.2.2.2.2.2.2.2.2.1, r1.2.2.2.2.2.2.2.2.2.1, r1.2.2.2.2.2.2.2.2.2.2)
      else
        none
def g_L_token (LS : List Nat) (SE : Nat → SV) (n_p4 : Nat) (p4 : Nat → Int64) (p1_book_spells : Int32) (p1_book_texts : Nat → Option Nat) (p2 : Int32) (p3 : Int32) : Option (Int32 × (Nat → Int64)) :=
  gb (g_X11_token LS SE p1_book_spells p1_book_texts p2 p3) fun r1 =>
  if r1.1 = 0 then
    gc (inb (0 : Int32) n_p4) <|
    some (0, (vp_updL p4 (0 : Int32).toNatClampNeg r1.2.toInt64))
  else
    if r1.1 = 2 then
      some (1, p4)
    else
      if r1.1 = 3 then
        some (2, p4)
      else
        none
def g_L_types_b15 (n_p3 : Nat) (p3 : Nat → Int64) (p1_typing_high_15 : Nat → Int64) (p1_typing_isBroth_15 : Nat → Int32) (p1_typing_low_15 : Nat → Int64) (p1_typing_storeHigh_15 : Nat → Int64) (p1_typing_storeIsBroth_15 : Nat → Int32) (p1_typing_storeLow_15 : Nat → Int64) (p1_typing_faultAt_15 : Int32) (p1_typing_stores_15 : Int32) (p1_typing_spoons_15 : Int32) (s2_15 : Int64) : Option (Int32 × (Nat → Int64) × Int32 × Int32 × Int32 × (Nat → Int32) × (Nat → Int64) × (Nat → Int64) × (Nat → Int32) × (Nat → Int64) × (Nat → Int64)) :=
  gc (inb (0 : Int32) n_p3) <|
  some (0, (vp_updL p3 (0 : Int32).toNatClampNeg s2_15), p1_typing_faultAt_15, p1_typing_stores_15, p1_typing_spoons_15, p1_typing_isBroth_15, p1_typing_low_15, p1_typing_high_15, p1_typing_storeIsBroth_15, p1_typing_storeLow_15, p1_typing_storeHigh_15)
def g_L_types (LS : List Nat) (SE : Nat → SV) (n_p3 : Nat) (p3 : Nat → Int64) (p1_book_spells : Int32) (p1_book_texts : Nat → Option Nat) (p1_typing_faultAt : Int32) (p1_typing_stores : Int32) (p1_typing_spoons : Int32) (p1_book_isBroth : Nat → Int32) (p1_book_low : Nat → Int32) (p1_book_high : Nat → Int32) (p1_typing_isBroth : Nat → Int32) (p1_typing_low : Nat → Int64) (p1_typing_high : Nat → Int64) (p1_typing_storeIsBroth : Nat → Int32) (p1_typing_storeLow : Nat → Int64) (p1_typing_storeHigh : Nat → Int64) (p2 : Int32) : Option (Int32 × (Nat → Int64) × Int32 × Int32 × Int32 × (Nat → Int32) × (Nat → Int64) × (Nat → Int64) × (Nat → Int32) × (Nat → Int64) × (Nat → Int64)) :=
  gb (g_X11_types LS SE p1_book_spells p1_book_texts p1_typing_faultAt p1_typing_stores p1_typing_spoons p1_book_isBroth p1_book_low p1_book_high p1_typing_isBroth p1_typing_low p1_typing_high p1_typing_storeIsBroth p1_typing_storeLow p1_typing_storeHigh p2) fun r1 =>
  if r1.1 = 0 then
    if r1.2.1 = 0 then
      g_L_types_b15 n_p3 p3 r1.2.2.2.2.2.2.2.1 r1.2.2.2.2.2.1 r1.2.2.2.2.2.2.1 r1.2.2.2.2.2.2.2.2.2.2 r1.2.2.2.2.2.2.2.2.1 r1.2.2.2.2.2.2.2.2.2.1 r1.2.2.1 r1.2.2.2.1 r1.2.2.2.2.1 0
    else
      g_L_types_b15 n_p3 p3 r1.2.2.2.2.2.2.2.1 r1.2.2.2.2.2.1 r1.2.2.2.2.2.2.1 r1.2.2.2.2.2.2.2.2.2.2 r1.2.2.2.2.2.2.2.2.1 r1.2.2.2.2.2.2.2.2.2.1 r1.2.2.1 r1.2.2.2.1 r1.2.2.2.2.1 1
  else
    if r1.1 = 2 then
      some (1, p3, r1.2.2.1, r1.2.2.2.1, r1.2.2.2.2.1, r1.2.2.2.2.2.1, r1.2.2.2.2.2.2.1, r1.2.2.2.2.2.2.2.1, r1.2.2.2.2.2.2.2.2.1, r1.2.2.2.2.2.2.2.2.2.1, r1.2.2.2.2.2.2.2.2.2.2)
    else
      none
def g_L_typesAgain_b15 (n_p3 : Nat) (p3 : Nat → Int64) (p1_typingByStores_high_15 : Nat → Int64) (p1_typingByStores_isBroth_15 : Nat → Int32) (p1_typingByStores_low_15 : Nat → Int64) (s2_15 : Int64) : Option (Int32 × (Nat → Int64) × (Nat → Int32) × (Nat → Int64) × (Nat → Int64)) :=
  gc (inb (0 : Int32) n_p3) <|
  some (0, (vp_updL p3 (0 : Int32).toNatClampNeg s2_15), p1_typingByStores_isBroth_15, p1_typingByStores_low_15, p1_typingByStores_high_15)
def g_L_typesAgain (LS : List Nat) (SE : Nat → SV) (n_p3 : Nat) (p3 : Nat → Int64) (p1_book_spells : Int32) (p1_book_texts : Nat → Option Nat) (p1_typingByStores_isBroth : Nat → Int32) (p1_typingByStores_low : Nat → Int64) (p1_typingByStores_high : Nat → Int64) (p1_book_isBroth : Nat → Int32) (p1_book_low : Nat → Int32) (p1_book_high : Nat → Int32) (p2 : Int32) : Option (Int32 × (Nat → Int64) × (Nat → Int32) × (Nat → Int64) × (Nat → Int64)) :=
  gb (g_X11_typesAgain LS SE p1_book_spells p1_book_texts p1_typingByStores_isBroth p1_typingByStores_low p1_typingByStores_high p1_book_isBroth p1_book_low p1_book_high p2) fun r1 =>
  if r1.1 = 0 then
    if r1.2.1 = 0 then
      g_L_typesAgain_b15 n_p3 p3 r1.2.2.2.2 r1.2.2.1 r1.2.2.2.1 0
    else
      g_L_typesAgain_b15 n_p3 p3 r1.2.2.2.2 r1.2.2.1 r1.2.2.2.1 1
  else
    if r1.1 = 2 then
      some (1, p3, r1.2.2.1, r1.2.2.2.1, r1.2.2.2.2)
    else
      none
def g_L_fault (LS : List Nat) (SE : Nat → SV) (n_p3 : Nat) (p3 : Nat → Int64) (p1_book_spells : Int32) (p1_book_texts : Nat → Option Nat) (p1_typing_faultAt : Int32) (p1_typing_stores : Int32) (p1_typing_spoons : Int32) (p1_book_isBroth : Nat → Int32) (p1_book_low : Nat → Int32) (p1_book_high : Nat → Int32) (p1_typing_isBroth : Nat → Int32) (p1_typing_low : Nat → Int64) (p1_typing_high : Nat → Int64) (p1_typing_storeIsBroth : Nat → Int32) (p1_typing_storeLow : Nat → Int64) (p1_typing_storeHigh : Nat → Int64) (p2 : Int32) : Option (Int32 × (Nat → Int64) × Int32 × Int32 × Int32 × (Nat → Int32) × (Nat → Int64) × (Nat → Int64) × (Nat → Int32) × (Nat → Int64) × (Nat → Int64)) :=
  gb (g_X11_fault LS SE p1_book_spells p1_book_texts p1_typing_faultAt p1_typing_stores p1_typing_spoons p1_book_isBroth p1_book_low p1_book_high p1_typing_isBroth p1_typing_low p1_typing_high p1_typing_storeIsBroth p1_typing_storeLow p1_typing_storeHigh p2) fun r1 =>
  if r1.1 = 0 then
    gc (inb (0 : Int32) n_p3) <|
    some (0, (vp_updL p3 (0 : Int32).toNatClampNeg r1.2.1.toInt64), r1.2.2.1, r1.2.2.2.1, r1.2.2.2.2.1, r1.2.2.2.2.2.1, r1.2.2.2.2.2.2.1, r1.2.2.2.2.2.2.2.1, r1.2.2.2.2.2.2.2.2.1, r1.2.2.2.2.2.2.2.2.2.1, r1.2.2.2.2.2.2.2.2.2.2)
  else
    if r1.1 = 2 then
      some (1, p3, r1.2.2.1, r1.2.2.2.1, r1.2.2.2.2.1, r1.2.2.2.2.2.1, r1.2.2.2.2.2.2.1, r1.2.2.2.2.2.2.2.1, r1.2.2.2.2.2.2.2.2.1, r1.2.2.2.2.2.2.2.2.2.1, r1.2.2.2.2.2.2.2.2.2.2)
    else
      if r1.1 = 3 then
        some (2, p3, r1.2.2.1, r1.2.2.2.1, r1.2.2.2.2.1, r1.2.2.2.2.2.1, r1.2.2.2.2.2.2.1, r1.2.2.2.2.2.2.2.1, r1.2.2.2.2.2.2.2.2.1, r1.2.2.2.2.2.2.2.2.2.1, r1.2.2.2.2.2.2.2.2.2.2)
      else
        none
def g_L_bound (LS : List Nat) (SE : Nat → SV) (n_p5 : Nat) (p5 : Nat → Int64) (p1_book_spells : Int32) (p1_book_texts : Nat → Option Nat) (p1_typing_faultAt : Int32) (p1_typing_stores : Int32) (p1_typing_spoons : Int32) (p1_book_isBroth : Nat → Int32) (p1_book_low : Nat → Int32) (p1_book_high : Nat → Int32) (p1_typing_isBroth : Nat → Int32) (p1_typing_low : Nat → Int64) (p1_typing_high : Nat → Int64) (p1_typing_storeIsBroth : Nat → Int32) (p1_typing_storeLow : Nat → Int64) (p1_typing_storeHigh : Nat → Int64) (p2 : Int32) (p3 : Int32) (p4 : Int32) : Option (Int32 × (Nat → Int64) × Int32 × Int32 × Int32 × (Nat → Int32) × (Nat → Int64) × (Nat → Int64) × (Nat → Int32) × (Nat → Int64) × (Nat → Int64)) :=
  gb (g_X11_bound LS SE p1_book_spells p1_book_texts p1_typing_faultAt p1_typing_stores p1_typing_spoons p1_book_isBroth p1_book_low p1_book_high p1_typing_isBroth p1_typing_low p1_typing_high p1_typing_storeIsBroth p1_typing_storeLow p1_typing_storeHigh p2 p3 p4) fun r1 =>
  if r1.1 = 0 then
    gc (inb (0 : Int32) n_p5) <|
    some (0, (vp_updL p5 (0 : Int32).toNatClampNeg r1.2.1.toInt64), r1.2.2.1, r1.2.2.2.1, r1.2.2.2.2.1, r1.2.2.2.2.2.1, r1.2.2.2.2.2.2.1, r1.2.2.2.2.2.2.2.1, r1.2.2.2.2.2.2.2.2.1, r1.2.2.2.2.2.2.2.2.2.1, r1.2.2.2.2.2.2.2.2.2.2)
  else
    if r1.1 = 2 then
      some (1, p5, r1.2.2.1, r1.2.2.2.1, r1.2.2.2.2.1, r1.2.2.2.2.2.1, r1.2.2.2.2.2.2.1, r1.2.2.2.2.2.2.2.1, r1.2.2.2.2.2.2.2.2.1, r1.2.2.2.2.2.2.2.2.2.1, r1.2.2.2.2.2.2.2.2.2.2)
    else
      if r1.1 = 3 then
        some (2, p5, r1.2.2.1, r1.2.2.2.1, r1.2.2.2.2.1, r1.2.2.2.2.2.1, r1.2.2.2.2.2.2.1, r1.2.2.2.2.2.2.2.1, r1.2.2.2.2.2.2.2.2.1, r1.2.2.2.2.2.2.2.2.2.1, r1.2.2.2.2.2.2.2.2.2.2)
      else
        none
def g_L_would (LS : List Nat) (SE : Nat → SV) (n_p4 : Nat) (p4 : Nat → Int64) (p1_book_cauldrons : Int32) (p1_book_spells : Int32) (p1_book_texts : Nat → Option Nat) (p1_cooking_boilsAt : Int32) (p1_cooking_cause : Int32) (p1_cooking_causeDetail : Int32) (p1_cooking_spoons : Int32) (p1_cooking_now_many : Nat → Int32) (p1_book_contents_many : Nat → Int32) (p1_cooking_now_much : Nat → UInt32) (p1_book_contents_much : Nat → UInt32) (p1_cooking_before_many : Nat → Int32) (p1_cooking_before_much : Nat → UInt32) (p1_cooking_storesIn : Nat → Int32) (p1_book_isBroth : Nat → Int32) (p1_cooking_isBroth : Nat → Int32) (p1_cooking_many : Nat → Int32) (p1_cooking_much : Nat → UInt32) (p1_book_low : Nat → Int32) (p1_book_high : Nat → Int32) (p2 : Int32) (p3 : Int32) : Option (Int32 × (Nat → Int64) × Int32 × Int32 × Int32 × Int32 × (Nat → Int32) × (Nat → UInt32) × (Nat → Int32) × (Nat → UInt32) × (Nat → Int32) × (Nat → Int32) × (Nat → Int32) × (Nat → UInt32)) :=
  gb (g_X11_would LS SE p1_book_cauldrons p1_book_spells p1_book_texts p1_cooking_boilsAt p1_cooking_cause p1_cooking_causeDetail p1_cooking_spoons p1_cooking_now_many p1_book_contents_many p1_cooking_now_much p1_book_contents_much p1_cooking_before_many p1_cooking_before_much p1_cooking_storesIn p1_book_isBroth p1_cooking_isBroth p1_cooking_many p1_cooking_much p1_book_low p1_book_high p2 p3) fun r1 =>
  if r1.1 = 0 then
    gc (inb (0 : Int32) n_p4) <|
    some (0, (vp_updL p4 (0 : Int32).toNatClampNeg r1.2.1.toInt64), r1.2.2.1, r1.2.2.2.1, r1.2.2.2.2.1, r1.2.2.2.2.2.1, r1.2.2.2.2.2.2.1, r1.2.2.2.2.2.2.2.1, r1.2.2.2.2.2.2.2.2.1, r1.2.2.2.2.2.2.2.2.2.1, r1.2.2.2.2.2.2.2.2.2.2.1, r1.2.2.2.2.2.2.2.2.2.2.2.1, r1.2.2.2.2.2.2.2.2.2.2.2.2.1, r1.2.2.2.2.2.2.2.2.2.2.2.2.2)
  else
    if r1.1 = 2 then
      some (1, p4, r1.2.2.1, r1.2.2.2.1, r1.2.2.2.2.1, r1.2.2.2.2.2.1, r1.2.2.2.2.2.2.1, r1.2.2.2.2.2.2.2.1, r1.2.2.2.2.2.2.2.2.1, r1.2.2.2.2.2.2.2.2.2.1, r1.2.2.2.2.2.2.2.2.2.2.1, r1.2.2.2.2.2.2.2.2.2.2.2.1, r1.2.2.2.2.2.2.2.2.2.2.2.2.1, r1.2.2.2.2.2.2.2.2.2.2.2.2.2)
    else
      if r1.1 = 3 then
        some (2, p4, r1.2.2.1, r1.2.2.2.1, r1.2.2.2.2.1, r1.2.2.2.2.2.1, r1.2.2.2.2.2.2.1, r1.2.2.2.2.2.2.2.1, r1.2.2.2.2.2.2.2.2.1, r1.2.2.2.2.2.2.2.2.2.1, r1.2.2.2.2.2.2.2.2.2.2.1, r1.2.2.2.2.2.2.2.2.2.2.2.1, r1.2.2.2.2.2.2.2.2.2.2.2.2.1, r1.2.2.2.2.2.2.2.2.2.2.2.2.2)
      else
        none
def g_L_wouldAgain (LS : List Nat) (SE : Nat → SV) (n_p4 : Nat) (p4 : Nat → Int64) (p1_book_cauldrons : Int32) (p1_book_spells : Int32) (p1_book_texts : Nat → Option Nat) (p1_cookingByStores_isBroth : Nat → Int32) (p1_cookingByStores_much : Nat → UInt32) (p1_cookingByStores_many : Nat → Int32) (p1_book_isBroth : Nat → Int32) (p1_book_contents_many : Nat → Int32) (p1_book_contents_much : Nat → UInt32) (p1_book_low : Nat → Int32) (p1_book_high : Nat → Int32) (p2 : Int32) (p3 : Int32) : Option (Int32 × (Nat → Int64) × (Nat → Int32) × (Nat → UInt32) × (Nat → Int32)) :=
  gb (g_X11_wouldAgain LS SE p1_book_cauldrons p1_book_spells p1_book_texts p1_cookingByStores_isBroth p1_cookingByStores_much p1_cookingByStores_many p1_book_isBroth p1_book_contents_many p1_book_contents_much p1_book_low p1_book_high p2 p3) fun r1 =>
  if r1.1 = 0 then
    gc (inb (0 : Int32) n_p4) <|
    some (0, (vp_updL p4 (0 : Int32).toNatClampNeg r1.2.1.toInt64), r1.2.2.1, r1.2.2.2.1, r1.2.2.2.2)
  else
    if r1.1 = 2 then
      some (1, p4, r1.2.2.1, r1.2.2.2.1, r1.2.2.2.2)
    else
      if r1.1 = 3 then
        some (2, p4, r1.2.2.1, r1.2.2.2.1, r1.2.2.2.2)
      else
        none
def g_L_boils (LS : List Nat) (SE : Nat → SV) (n_p3 : Nat) (p3 : Nat → Int64) (p1_book_spells : Int32) (p1_book_texts : Nat → Option Nat) (p1_cooking_boilsAt : Int32) (p1_cooking_cause : Int32) (p1_cooking_causeDetail : Int32) (p1_cooking_spoons : Int32) (p1_cooking_now_many : Nat → Int32) (p1_book_contents_many : Nat → Int32) (p1_cooking_now_much : Nat → UInt32) (p1_book_contents_much : Nat → UInt32) (p1_cooking_before_many : Nat → Int32) (p1_cooking_before_much : Nat → UInt32) (p1_cooking_storesIn : Nat → Int32) (p1_book_isBroth : Nat → Int32) (p1_cooking_isBroth : Nat → Int32) (p1_cooking_many : Nat → Int32) (p1_cooking_much : Nat → UInt32) (p1_book_low : Nat → Int32) (p1_book_high : Nat → Int32) (p2 : Int32) : Option (Int32 × (Nat → Int64) × Int32 × Int32 × Int32 × Int32 × (Nat → Int32) × (Nat → UInt32) × (Nat → Int32) × (Nat → UInt32) × (Nat → Int32) × (Nat → Int32) × (Nat → Int32) × (Nat → UInt32)) :=
  gb (g_X11_boils LS SE p1_book_spells p1_book_texts p1_cooking_boilsAt p1_cooking_cause p1_cooking_causeDetail p1_cooking_spoons p1_cooking_now_many p1_book_contents_many p1_cooking_now_much p1_book_contents_much p1_cooking_before_many p1_cooking_before_much p1_cooking_storesIn p1_book_isBroth p1_cooking_isBroth p1_cooking_many p1_cooking_much p1_book_low p1_book_high p2) fun r1 =>
  if r1.1 = 0 then
    gc (inb (0 : Int32) n_p3) <|
    some (0, (vp_updL p3 (0 : Int32).toNatClampNeg r1.2.1.toInt64), r1.2.2.1, r1.2.2.2.1, r1.2.2.2.2.1, r1.2.2.2.2.2.1, r1.2.2.2.2.2.2.1, r1.2.2.2.2.2.2.2.1, r1.2.2.2.2.2.2.2.2.1, r1.2.2.2.2.2.2.2.2.2.1, r1.2.2.2.2.2.2.2.2.2.2.1, r1.2.2.2.2.2.2.2.2.2.2.2.1, r1.2.2.2.2.2.2.2.2.2.2.2.2.1, r1.2.2.2.2.2.2.2.2.2.2.2.2.2)
  else
    if r1.1 = 2 then
      some (1, p3, r1.2.2.1, r1.2.2.2.1, r1.2.2.2.2.1, r1.2.2.2.2.2.1, r1.2.2.2.2.2.2.1, r1.2.2.2.2.2.2.2.1, r1.2.2.2.2.2.2.2.2.1, r1.2.2.2.2.2.2.2.2.2.1, r1.2.2.2.2.2.2.2.2.2.2.1, r1.2.2.2.2.2.2.2.2.2.2.2.1, r1.2.2.2.2.2.2.2.2.2.2.2.2.1, r1.2.2.2.2.2.2.2.2.2.2.2.2.2)
    else
      if r1.1 = 3 then
        some (2, p3, r1.2.2.1, r1.2.2.2.1, r1.2.2.2.2.1, r1.2.2.2.2.2.1, r1.2.2.2.2.2.2.1, r1.2.2.2.2.2.2.2.1, r1.2.2.2.2.2.2.2.2.1, r1.2.2.2.2.2.2.2.2.2.1, r1.2.2.2.2.2.2.2.2.2.2.1, r1.2.2.2.2.2.2.2.2.2.2.2.1, r1.2.2.2.2.2.2.2.2.2.2.2.2.1, r1.2.2.2.2.2.2.2.2.2.2.2.2.2)
      else
        none
def g_L_lasts (LS : List Nat) (SE : Nat → SV) (n_p3 : Nat) (p3 : Nat → Int64) (p1_book_spells : Int32) (p1_book_texts : Nat → Option Nat) (p1_cooking_boilsAt : Int32) (p1_cooking_cause : Int32) (p1_cooking_causeDetail : Int32) (p1_cooking_spoons : Int32) (p1_cooking_now_many : Nat → Int32) (p1_book_contents_many : Nat → Int32) (p1_cooking_now_much : Nat → UInt32) (p1_book_contents_much : Nat → UInt32) (p1_cooking_before_many : Nat → Int32) (p1_cooking_before_much : Nat → UInt32) (p1_cooking_storesIn : Nat → Int32) (p1_book_isBroth : Nat → Int32) (p1_cooking_isBroth : Nat → Int32) (p1_cooking_many : Nat → Int32) (p1_cooking_much : Nat → UInt32) (p1_book_low : Nat → Int32) (p1_book_high : Nat → Int32) (p2 : Int32) : Option (Int32 × (Nat → Int64) × Int32 × Int32 × Int32 × Int32 × (Nat → Int32) × (Nat → UInt32) × (Nat → Int32) × (Nat → UInt32) × (Nat → Int32) × (Nat → Int32) × (Nat → Int32) × (Nat → UInt32)) :=
  gb (g_X11_lasts LS SE p1_book_spells p1_book_texts p1_cooking_boilsAt p1_cooking_cause p1_cooking_causeDetail p1_cooking_spoons p1_cooking_now_many p1_book_contents_many p1_cooking_now_much p1_book_contents_much p1_cooking_before_many p1_cooking_before_much p1_cooking_storesIn p1_book_isBroth p1_cooking_isBroth p1_cooking_many p1_cooking_much p1_book_low p1_book_high p2) fun r1 =>
  if r1.1 = 0 then
    gc (inb (0 : Int32) n_p3) <|
    some (0, (vp_updL p3 (0 : Int32).toNatClampNeg r1.2.1.toInt64), r1.2.2.1, r1.2.2.2.1, r1.2.2.2.2.1, r1.2.2.2.2.2.1, r1.2.2.2.2.2.2.1, r1.2.2.2.2.2.2.2.1, r1.2.2.2.2.2.2.2.2.1, r1.2.2.2.2.2.2.2.2.2.1, r1.2.2.2.2.2.2.2.2.2.2.1, r1.2.2.2.2.2.2.2.2.2.2.2.1, r1.2.2.2.2.2.2.2.2.2.2.2.2.1, r1.2.2.2.2.2.2.2.2.2.2.2.2.2)
  else
    if r1.1 = 2 then
      some (1, p3, r1.2.2.1, r1.2.2.2.1, r1.2.2.2.2.1, r1.2.2.2.2.2.1, r1.2.2.2.2.2.2.1, r1.2.2.2.2.2.2.2.1, r1.2.2.2.2.2.2.2.2.1, r1.2.2.2.2.2.2.2.2.2.1, r1.2.2.2.2.2.2.2.2.2.2.1, r1.2.2.2.2.2.2.2.2.2.2.2.1, r1.2.2.2.2.2.2.2.2.2.2.2.2.1, r1.2.2.2.2.2.2.2.2.2.2.2.2.2)
    else
      none
def g_L_ranked (LS : List Nat) (SE : Nat → SV) (n_p3 : Nat) (p3 : Nat → Int64) (p1_book_spells : Int32) (p1_book_texts : Nat → Option Nat) (p2 : Int32) : Option (Int32 × (Nat → Int64)) :=
  gb (g_X11_ranked LS SE p1_book_spells p1_book_texts p2) fun r1 =>
  if r1.1 = 0 then
    gc (inb (0 : Int32) n_p3) <|
    some (0, (vp_updL p3 (0 : Int32).toNatClampNeg r1.2.toInt64))
  else
    if r1.1 = 3 then
      some (1, p3)
    else
      none
def g_L_widest (n_p2 : Nat) (p2 : Nat → Int64) (p1_book_cauldrons : Int32) (p1_book_high : Nat → Int32) (p1_book_low : Nat → Int32) (p1_book_isBroth : Nat → Int32) : Option (Int32 × (Nat → Int64)) :=
  gb (g_X11_widest p1_book_cauldrons p1_book_high p1_book_low p1_book_isBroth) fun r1 =>
  if r1.1 = 0 then
    gc (inb (0 : Int32) n_p2) <|
    some (0, (vp_updL p2 (0 : Int32).toNatClampNeg r1.2.toInt64))
  else
    if r1.1 = 3 then
      some (1, p2)
    else
      none
def g_L_meanBits (n_p2 : Nat) (p2 : Nat → Int64) (p1_book_cauldrons : Int32) (p1_book_isBroth : Nat → Int32) (p1_book_contents_many : Nat → Int32) (p1_book_contents_much : Nat → UInt32) : Option (Int32 × (Nat → Int64)) :=
  gb (g_X11_meanBits p1_book_cauldrons p1_book_isBroth p1_book_contents_many p1_book_contents_much) fun r1 =>
  if r1.1 = 0 then
    gc (inb (0 : Int32) n_p2) <|
    some (0, (vp_updL p2 (0 : Int32).toNatClampNeg r1.2))
  else
    if r1.1 = 6 then
      some (1, p2)
    else
      none
def g_L_typedShare (LS : List Nat) (SE : Nat → SV) (n_p2 : Nat) (p2 : Nat → UInt64) (p1_book_spells : Int32) (p1_book_texts : Nat → Option Nat) (p1_typing_faultAt : Int32) (p1_typing_stores : Int32) (p1_typing_spoons : Int32) (p1_book_isBroth : Nat → Int32) (p1_book_low : Nat → Int32) (p1_book_high : Nat → Int32) (p1_typing_isBroth : Nat → Int32) (p1_typing_low : Nat → Int64) (p1_typing_high : Nat → Int64) (p1_typing_storeIsBroth : Nat → Int32) (p1_typing_storeLow : Nat → Int64) (p1_typing_storeHigh : Nat → Int64) : Option (Int32 × (Nat → UInt64) × Int32 × Int32 × Int32 × (Nat → Int32) × (Nat → Int64) × (Nat → Int64) × (Nat → Int32) × (Nat → Int64) × (Nat → Int64)) :=
  gb (g_X11_typedShare LS SE p1_book_spells p1_book_texts p1_typing_faultAt p1_typing_stores p1_typing_spoons p1_book_isBroth p1_book_low p1_book_high p1_typing_isBroth p1_typing_low p1_typing_high p1_typing_storeIsBroth p1_typing_storeLow p1_typing_storeHigh) fun r1 =>
  if r1.1 = 0 then
    gc (n64 (FP.f2d r1.2.1)) <|
    gc (inb (0 : Int32) n_p2) <|
    some (0, (vf_upd p2 (0 : Int32).toNatClampNeg (FP.f2d r1.2.1)), r1.2.2.1, r1.2.2.2.1, r1.2.2.2.2.1, r1.2.2.2.2.2.1, r1.2.2.2.2.2.2.1, r1.2.2.2.2.2.2.2.1, r1.2.2.2.2.2.2.2.2.1, r1.2.2.2.2.2.2.2.2.2.1, r1.2.2.2.2.2.2.2.2.2.2)
  else
    if r1.1 = 6 then
      some (1, p2, r1.2.2.1, r1.2.2.2.1, r1.2.2.2.2.1, r1.2.2.2.2.2.1, r1.2.2.2.2.2.2.1, r1.2.2.2.2.2.2.2.1, r1.2.2.2.2.2.2.2.2.1, r1.2.2.2.2.2.2.2.2.2.1, r1.2.2.2.2.2.2.2.2.2.2)
    else
      none
def g_L_account (LS : List Nat) (SE : Nat → SV) (n_p3 : Nat) (p1_inputLength : Int32) (p1_boiledOver : Int32) (p3 : Nat → Int64) (p1_book_cauldrons : Int32) (p1_book_spells : Int32) (p1_book_cookedSoFar : Int32) (p1_book_storesSoFar : Int32) (p1_book_texts : Nat → Option Nat) (p1_typing_faultAt : Int32) (p1_typing_stores : Int32) (p1_typing_spoons : Int32) (p1_book_isBroth : Nat → Int32) (p1_book_low : Nat → Int32) (p1_book_high : Nat → Int32) (p1_typing_isBroth : Nat → Int32) (p1_typing_low : Nat → Int64) (p1_typing_high : Nat → Int64) (p1_typing_storeIsBroth : Nat → Int32) (p1_typing_storeLow : Nat → Int64) (p1_typing_storeHigh : Nat → Int64) (p1_book_contents_many : Nat → Int32) (p1_history_changes : Int32) (p2 : Int32) : Option (Int32 × (Nat → Int64) × Int32 × Int32 × Int32 × (Nat → Int32) × (Nat → Int64) × (Nat → Int64) × (Nat → Int32) × (Nat → Int64) × (Nat → Int64)) :=
  gb (g_X11_account LS SE p1_inputLength p1_boiledOver p1_book_cauldrons p1_book_spells p1_book_cookedSoFar p1_book_storesSoFar p1_book_texts p1_typing_faultAt p1_typing_stores p1_typing_spoons p1_book_isBroth p1_book_low p1_book_high p1_typing_isBroth p1_typing_low p1_typing_high p1_typing_storeIsBroth p1_typing_storeLow p1_typing_storeHigh p1_book_contents_many p1_history_changes p2) fun r1 =>
  if r1.1 = 0 then
    gc (inb (0 : Int32) n_p3) <|
    some (0, (vp_updL p3 (0 : Int32).toNatClampNeg r1.2.1.toInt64), r1.2.2.1, r1.2.2.2.1, r1.2.2.2.2.1, r1.2.2.2.2.2.1, r1.2.2.2.2.2.2.1, r1.2.2.2.2.2.2.2.1, r1.2.2.2.2.2.2.2.2.1, r1.2.2.2.2.2.2.2.2.2.1, r1.2.2.2.2.2.2.2.2.2.2)
  else
    if r1.1 = 1 then
      some (1, p3, r1.2.2.1, r1.2.2.2.1, r1.2.2.2.2.1, r1.2.2.2.2.2.1, r1.2.2.2.2.2.2.1, r1.2.2.2.2.2.2.2.1, r1.2.2.2.2.2.2.2.2.1, r1.2.2.2.2.2.2.2.2.2.1, r1.2.2.2.2.2.2.2.2.2.2)
    else
      none
def g_L_append (n_p3 : Nat) (p1_inputLength : Int32) (p3 : Nat → Int64) (p1_input : Nat → Int32) (p2 : Int32) : Option (Int32 × Int32 × (Nat → Int64) × (Nat → Int32)) :=
  gb (g_X11_append p1_inputLength p1_input p2) fun r1 =>
  if r1.1 = 0 then
    gc (inb (0 : Int32) n_p3) <|
    some (0, r1.2.2.1, (vp_updL p3 (0 : Int32).toNatClampNeg r1.2.1.toInt64), r1.2.2.2)
  else
    if r1.1 = 1 then
      some (1, r1.2.2.1, p3, r1.2.2.2)
    else
      if r1.1 = 5 then
        some (2, r1.2.2.1, p3, r1.2.2.2)
      else
        none
def g_L_errorPosition (n_p2 : Nat) (p1_keptError : Int32) (p2 : Nat → Int64) : Option (Int32 × (Nat → Int64)) :=
  gb (g_X11_errorPosition p1_keptError) fun r1 =>
  if r1.1 = 0 then
    gc (inb (0 : Int32) n_p2) <|
    some (0, (vp_updL p2 (0 : Int32).toNatClampNeg r1.2.toInt64))
  else
    if r1.1 = 3 then
      some (1, p2)
    else
      none
def g_L_reason (n_p4 : Nat) (p4 : Nat → Int64) (p1_refusal_isKept : Int32) (p1_refusal_reason : Int32) (p1_refusal_detail : Int32) (p1_refusal_hasCause : Int32) (p1_refusal_cause : Int32) (p1_refusal_causeDetail : Int32) (p2 : Int32) (p3 : Int32) : Option (Int32 × (Nat → Int64)) :=
  gb (g_X11_reason p1_refusal_isKept p1_refusal_reason p1_refusal_detail p1_refusal_hasCause p1_refusal_cause p1_refusal_causeDetail p2 p3) fun r1 =>
  if r1.1 = 0 then
    gc (inb (0 : Int32) n_p4) <|
    some (0, (vp_updL p4 (0 : Int32).toNatClampNeg r1.2.toInt64))
  else
    if r1.1 = 3 then
      some (1, p4)
    else
      none
def g_L_undo (LS : List Nat) (SE : Nat → SV) (n_p2 : Nat) (p2 : Nat → Int64) (p1_history_next : Int32) (p1_history_changes : Int32) (p1_book_cauldrons : Int32) (p1_book_spells : Int32) (p1_book_cookedSoFar : Int32) (p1_book_storesSoFar : Int32) (p1_history_books : Nat → Option Nat) (bk_cauldrons : Int32) (bk_spells : Int32) (bk_cookedSoFar : Int32) (bk_storesSoFar : Int32) (p1_book_contents_many : Nat → Int32) (bk_contents_many : Nat → Int32) (p1_book_contents_much : Nat → UInt32) (bk_contents_much : Nat → UInt32) (p1_book_isBroth : Nat → Int32) (bk_isBroth : Nat → Int32) (p1_book_low : Nat → Int32) (bk_low : Nat → Int32) (p1_book_high : Nat → Int32) (bk_high : Nat → Int32) (p1_book_storesIn : Nat → Int32) (bk_storesIn : Nat → Int32) (p1_book_texts : Nat → Option Nat) (bk_texts : Nat → Option Nat) (p1_book_cooked : Nat → Int32) (bk_cooked : Nat → Int32) (a_bk : Nat) : Option (Int32 × (Nat → Int64) × Int32 × Int32 × Int32 × Int32 × Int32 × Int32 × (Nat → Int32) × (Nat → UInt32) × (Nat → Int32) × (Nat → Int32) × (Nat → Int32) × (Nat → Int32) × (Nat → Option Nat) × (Nat → Int32)) :=
  gb (g_X11_undo LS SE p1_history_next p1_history_changes p1_book_cauldrons p1_book_spells p1_book_cookedSoFar p1_book_storesSoFar p1_history_books bk_cauldrons bk_spells bk_cookedSoFar bk_storesSoFar p1_book_contents_many bk_contents_many p1_book_contents_much bk_contents_much p1_book_isBroth bk_isBroth p1_book_low bk_low p1_book_high bk_high p1_book_storesIn bk_storesIn p1_book_texts bk_texts p1_book_cooked bk_cooked a_bk) fun r1 =>
  if r1.1 = 0 then
    gc (inb (0 : Int32) n_p2) <|
    some (0, (vp_updL p2 (0 : Int32).toNatClampNeg r1.2.1.toInt64), r1.2.2.1, r1.2.2.2.1, r1.2.2.2.2.1, r1.2.2.2.2.2.1, r1.2.2.2.2.2.2.1, r1.2.2.2.2.2.2.2.1, r1.2.2.2.2.2.2.2.2.1, r1.2.2.2.2.2.2.2.2.2.1, r1.2.2.2.2.2.2.2.2.2.2.1, r1.2.2.2.2.2.2.2.2.2.2.2.1, r1.2.2.2.2.2.2.2.2.2.2.2.2.1, r1.2.2.2.2.2.2.2.2.2.2.2.2.2.1, r1.2.2.2.2.2.2.2.2.2.2.2.2.2.2.1, r1.2.2.2.2.2.2.2.2.2.2.2.2.2.2.2)
  else
    if r1.1 = 3 then
      some (1, p2, r1.2.2.1, r1.2.2.2.1, r1.2.2.2.2.1, r1.2.2.2.2.2.1, r1.2.2.2.2.2.2.1, r1.2.2.2.2.2.2.2.1, r1.2.2.2.2.2.2.2.2.1, r1.2.2.2.2.2.2.2.2.2.1, r1.2.2.2.2.2.2.2.2.2.2.1, r1.2.2.2.2.2.2.2.2.2.2.2.1, r1.2.2.2.2.2.2.2.2.2.2.2.2.1, r1.2.2.2.2.2.2.2.2.2.2.2.2.2.1, r1.2.2.2.2.2.2.2.2.2.2.2.2.2.2.1, r1.2.2.2.2.2.2.2.2.2.2.2.2.2.2.2)
    else
      none
def g_L_restore (LS : List Nat) (SE : Nat → SV) (n_p2 : Nat) (p1_isSaved : Int32) (p2 : Nat → Int64) (p1_book_cauldrons : Int32) (p1_book_spells : Int32) (p1_book_cookedSoFar : Int32) (p1_book_storesSoFar : Int32) (p1_saved_cauldrons : Int32) (p1_saved_spells : Int32) (p1_saved_cookedSoFar : Int32) (p1_saved_storesSoFar : Int32) (p1_book_contents_many : Nat → Int32) (p1_saved_contents_many : Nat → Int32) (p1_book_contents_much : Nat → UInt32) (p1_saved_contents_much : Nat → UInt32) (p1_book_isBroth : Nat → Int32) (p1_saved_isBroth : Nat → Int32) (p1_book_low : Nat → Int32) (p1_saved_low : Nat → Int32) (p1_book_high : Nat → Int32) (p1_saved_high : Nat → Int32) (p1_book_storesIn : Nat → Int32) (p1_saved_storesIn : Nat → Int32) (p1_book_texts : Nat → Option Nat) (p1_saved_texts : Nat → Option Nat) (p1_book_cooked : Nat → Int32) (p1_saved_cooked : Nat → Int32) (p1_history_changes : Int32) : Option (Int32 × (Nat → Int64) × Int32 × Int32 × Int32 × Int32 × (Nat → Int32) × (Nat → UInt32) × (Nat → Int32) × (Nat → Int32) × (Nat → Int32) × (Nat → Int32) × (Nat → Option Nat) × (Nat → Int32) × Int32) :=
  gb (g_X11_restore LS SE p1_isSaved p1_book_cauldrons p1_book_spells p1_book_cookedSoFar p1_book_storesSoFar p1_saved_cauldrons p1_saved_spells p1_saved_cookedSoFar p1_saved_storesSoFar p1_book_contents_many p1_saved_contents_many p1_book_contents_much p1_saved_contents_much p1_book_isBroth p1_saved_isBroth p1_book_low p1_saved_low p1_book_high p1_saved_high p1_book_storesIn p1_saved_storesIn p1_book_texts p1_saved_texts p1_book_cooked p1_saved_cooked p1_history_changes) fun r1 =>
  if r1.1 = 0 then
    gc (inb (0 : Int32) n_p2) <|
    some (0, (vp_updL p2 (0 : Int32).toNatClampNeg r1.2.1.toInt64), r1.2.2.1, r1.2.2.2.1, r1.2.2.2.2.1, r1.2.2.2.2.2.1, r1.2.2.2.2.2.2.1, r1.2.2.2.2.2.2.2.1, r1.2.2.2.2.2.2.2.2.1, r1.2.2.2.2.2.2.2.2.2.1, r1.2.2.2.2.2.2.2.2.2.2.1, r1.2.2.2.2.2.2.2.2.2.2.2.1, r1.2.2.2.2.2.2.2.2.2.2.2.2.1, r1.2.2.2.2.2.2.2.2.2.2.2.2.2.1, r1.2.2.2.2.2.2.2.2.2.2.2.2.2.2)
  else
    if r1.1 = 5 then
      some (1, p2, r1.2.2.1, r1.2.2.2.1, r1.2.2.2.2.1, r1.2.2.2.2.2.1, r1.2.2.2.2.2.2.1, r1.2.2.2.2.2.2.2.1, r1.2.2.2.2.2.2.2.2.1, r1.2.2.2.2.2.2.2.2.2.1, r1.2.2.2.2.2.2.2.2.2.2.1, r1.2.2.2.2.2.2.2.2.2.2.2.1, r1.2.2.2.2.2.2.2.2.2.2.2.2.1, r1.2.2.2.2.2.2.2.2.2.2.2.2.2.1, r1.2.2.2.2.2.2.2.2.2.2.2.2.2.2)
    else
      none
