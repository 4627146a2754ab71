/-! the law's loop (written by lawgen.py) -/
def p_Law_law_23 (cx : HCx) (B_ : Nat) (F_ : Int32 → HMem → Option (Unit × HMem)) : Prop := ∀ (v4 : Int32) (μ : HMem) (k n : Nat), hB k n B_ → HX cx (h_lawQ cx) (F_ v4 μ) k n 23 [(0, .ref 144), (1, .ref 84), (2, .ref 125), (3, .ref 143), (4, .int v4)] [] μ
def f_Law_law_J2517 (xs : Nat → Int32) (L : Nat) (rec_ : Int32 → HMem → Option (Unit × HMem)) (v4 : Int32) (μ : HMem) : Option (Unit × HMem) :=
h_let (v4 + 5) (fun v4_2517 =>
rec_ v4_2517 μ)
def f_Law_law_J253 (xs : Nat → Int32) (L : Nat) (rec_ : Int32 → HMem → Option (Unit × HMem)) (v4 : Int32) (μ : HMem) : Option (Unit × HMem) :=
f_Law_law_J2517 xs L rec_ v4 μ
def f_Law_law_J333 (xs : Nat → Int32) (L : Nat) (rec_ : Int32 → HMem → Option (Unit × HMem)) (v4 : Int32) (μ : HMem) : Option (Unit × HMem) :=
f_Law_law_J2517 xs L rec_ v4 μ
def f_Law_law_J425 (xs : Nat → Int32) (L : Nat) (rec_ : Int32 → HMem → Option (Unit × HMem)) (v4 : Int32) (μ : HMem) : Option (Unit × HMem) :=
f_Law_law_J2517 xs L rec_ v4 μ
def f_Law_law_J505 (xs : Nat → Int32) (L : Nat) (rec_ : Int32 → HMem → Option (Unit × HMem)) (v4 : Int32) (μ : HMem) : Option (Unit × HMem) :=
f_Law_law_J2517 xs L rec_ v4 μ
def f_Law_law_J597 (xs : Nat → Int32) (L : Nat) (rec_ : Int32 → HMem → Option (Unit × HMem)) (v4 : Int32) (μ : HMem) : Option (Unit × HMem) :=
f_Law_law_J2517 xs L rec_ v4 μ
def f_Law_law_J689 (xs : Nat → Int32) (L : Nat) (rec_ : Int32 → HMem → Option (Unit × HMem)) (v4 : Int32) (μ : HMem) : Option (Unit × HMem) :=
f_Law_law_J2517 xs L rec_ v4 μ
def f_Law_law_J781 (xs : Nat → Int32) (L : Nat) (rec_ : Int32 → HMem → Option (Unit × HMem)) (v4 : Int32) (μ : HMem) : Option (Unit × HMem) :=
f_Law_law_J2517 xs L rec_ v4 μ
def f_Law_law_J849 (xs : Nat → Int32) (L : Nat) (rec_ : Int32 → HMem → Option (Unit × HMem)) (v4 : Int32) (μ : HMem) : Option (Unit × HMem) :=
f_Law_law_J2517 xs L rec_ v4 μ
def f_Law_law_J929 (xs : Nat → Int32) (L : Nat) (rec_ : Int32 → HMem → Option (Unit × HMem)) (v4 : Int32) (μ : HMem) : Option (Unit × HMem) :=
f_Law_law_J2517 xs L rec_ v4 μ
def f_Law_law_J1009 (xs : Nat → Int32) (L : Nat) (rec_ : Int32 → HMem → Option (Unit × HMem)) (v4 : Int32) (μ : HMem) : Option (Unit × HMem) :=
f_Law_law_J2517 xs L rec_ v4 μ
def f_Law_law_J1077 (xs : Nat → Int32) (L : Nat) (rec_ : Int32 → HMem → Option (Unit × HMem)) (v4 : Int32) (μ : HMem) : Option (Unit × HMem) :=
f_Law_law_J2517 xs L rec_ v4 μ
def f_Law_law_J1173 (xs : Nat → Int32) (L : Nat) (rec_ : Int32 → HMem → Option (Unit × HMem)) (v4 : Int32) (μ : HMem) : Option (Unit × HMem) :=
f_Law_law_J2517 xs L rec_ v4 μ
def f_Law_law_J1140 (xs : Nat → Int32) (L : Nat) (rec_ : Int32 → HMem → Option (Unit × HMem)) (v4 : Int32) (v5 : Int32) (s0 : Int32) (s1 : Int32) (s2 : Int32) (μ : HMem) : Option (Unit × HMem) :=
h_bd (f_Model_width s2 s1 s0 μ) (fun r1140 μ_1140 =>
h_bd (f_Model_thrown  μ_1140) (fun r1146 μ_1146 =>
if r1146 = v5 then
  if ¬ v5 = 0 then
    f_Law_law_J1173 xs L rec_ v4 μ_1146
  else
    h_chk 0 (h_len 143) (
    if (lg_cmp (μ_1146.2 143 (Int32.toNatClampNeg (0))) (Int32.toInt64 r1140)) = 0 then
      f_Law_law_J1173 xs L rec_ v4 μ_1146
    else
      none)
else
  none))
def f_Law_law_J1107 (xs : Nat → Int32) (L : Nat) (rec_ : Int32 → HMem → Option (Unit × HMem)) (v4 : Int32) (s0 : Int32) (s1 : Int32) (s2 : Int32) (μ : HMem) : Option (Unit × HMem) :=
h_bd (f_Law_width s2 s1 s0 μ) (fun r1108 μ_1108 =>
h_chk (v4 + 1) L (
h_chk (v4 + 2) L (
h_chk (v4 + 3) L (
if (xs (Int32.toNatClampNeg (v4 + 3))) = 0 then
  f_Law_law_J1140 xs L rec_ v4 r1108 0 (xs (Int32.toNatClampNeg (v4 + 2))) (xs (Int32.toNatClampNeg (v4 + 1))) μ_1108
else
  f_Law_law_J1140 xs L rec_ v4 r1108 1 (xs (Int32.toNatClampNeg (v4 + 2))) (xs (Int32.toNatClampNeg (v4 + 1))) μ_1108))))
def f_Law_law_J1229 (xs : Nat → Int32) (L : Nat) (rec_ : Int32 → HMem → Option (Unit × HMem)) (v4 : Int32) (μ : HMem) : Option (Unit × HMem) :=
f_Law_law_J2517 xs L rec_ v4 μ
def f_Law_law_J1297 (xs : Nat → Int32) (L : Nat) (rec_ : Int32 → HMem → Option (Unit × HMem)) (v4 : Int32) (μ : HMem) : Option (Unit × HMem) :=
f_Law_law_J2517 xs L rec_ v4 μ
def f_Law_law_J1376 (xs : Nat → Int32) (L : Nat) (rec_ : Int32 → HMem → Option (Unit × HMem)) (v4 : Int32) (μ : HMem) : Option (Unit × HMem) :=
f_Law_law_J2517 xs L rec_ v4 μ
def f_Law_law_J1455 (xs : Nat → Int32) (L : Nat) (rec_ : Int32 → HMem → Option (Unit × HMem)) (v4 : Int32) (μ : HMem) : Option (Unit × HMem) :=
f_Law_law_J2517 xs L rec_ v4 μ
def f_Law_law_J1511 (xs : Nat → Int32) (L : Nat) (rec_ : Int32 → HMem → Option (Unit × HMem)) (v4 : Int32) (μ : HMem) : Option (Unit × HMem) :=
f_Law_law_J2517 xs L rec_ v4 μ
def f_Law_law_J1586 (xs : Nat → Int32) (L : Nat) (rec_ : Int32 → HMem → Option (Unit × HMem)) (v4 : Int32) (μ : HMem) : Option (Unit × HMem) :=
f_Law_law_J2517 xs L rec_ v4 μ
def f_Law_law_J1580 (xs : Nat → Int32) (L : Nat) (rec_ : Int32 → HMem → Option (Unit × HMem)) (v4 : Int32) (s0 : Int64) (s1 : Int64) (μ : HMem) : Option (Unit × HMem) :=
if (lg_cmp s1 s0) = 0 then
  f_Law_law_J1586 xs L rec_ v4 μ
else
  none
def f_Law_law_J1666 (xs : Nat → Int32) (L : Nat) (rec_ : Int32 → HMem → Option (Unit × HMem)) (v4 : Int32) (μ : HMem) : Option (Unit × HMem) :=
f_Law_law_J2517 xs L rec_ v4 μ
def f_Law_law_J1734 (xs : Nat → Int32) (L : Nat) (rec_ : Int32 → HMem → Option (Unit × HMem)) (v4 : Int32) (μ : HMem) : Option (Unit × HMem) :=
f_Law_law_J2517 xs L rec_ v4 μ
def f_Law_law_J1801 (xs : Nat → Int32) (L : Nat) (rec_ : Int32 → HMem → Option (Unit × HMem)) (v4 : Int32) (μ : HMem) : Option (Unit × HMem) :=
f_Law_law_J2517 xs L rec_ v4 μ
def f_Law_law_J1857 (xs : Nat → Int32) (L : Nat) (rec_ : Int32 → HMem → Option (Unit × HMem)) (v4 : Int32) (μ : HMem) : Option (Unit × HMem) :=
f_Law_law_J2517 xs L rec_ v4 μ
def f_Law_law_J1925 (xs : Nat → Int32) (L : Nat) (rec_ : Int32 → HMem → Option (Unit × HMem)) (v4 : Int32) (μ : HMem) : Option (Unit × HMem) :=
f_Law_law_J2517 xs L rec_ v4 μ
def f_Law_law_J2020 (xs : Nat → Int32) (L : Nat) (rec_ : Int32 → HMem → Option (Unit × HMem)) (v4 : Int32) (μ : HMem) : Option (Unit × HMem) :=
f_Law_law_J2517 xs L rec_ v4 μ
def f_Law_law_J1988 (xs : Nat → Int32) (L : Nat) (rec_ : Int32 → HMem → Option (Unit × HMem)) (v4 : Int32) (v5 : Int32) (s0 : Int32) (s1 : Int32) (s2 : Int32) (μ : HMem) : Option (Unit × HMem) :=
h_bd (f_Model_walks s2 s1 s0 μ) (fun r1988 μ_1988 =>
h_bd (f_Model_thrown  μ_1988) (fun r1994 μ_1994 =>
if r1994 = v5 then
  if ¬ v5 = 0 then
    f_Law_law_J2020 xs L rec_ v4 μ_1994
  else
    h_chk 0 (h_len 143) (
    if (lg_cmp (μ_1994.2 143 (Int32.toNatClampNeg (0))) r1988) = 0 then
      f_Law_law_J2020 xs L rec_ v4 μ_1994
    else
      none)
else
  none))
def f_Law_law_J1955 (xs : Nat → Int32) (L : Nat) (rec_ : Int32 → HMem → Option (Unit × HMem)) (v4 : Int32) (s0 : Int32) (s1 : Int32) (s2 : Int32) (μ : HMem) : Option (Unit × HMem) :=
h_bd (f_Law_walks s2 s1 s0 μ) (fun r1956 μ_1956 =>
h_chk (v4 + 1) L (
h_chk (v4 + 2) L (
h_chk (v4 + 3) L (
if (xs (Int32.toNatClampNeg (v4 + 3))) = 0 then
  f_Law_law_J1988 xs L rec_ v4 r1956 0 (xs (Int32.toNatClampNeg (v4 + 2))) (xs (Int32.toNatClampNeg (v4 + 1))) μ_1956
else
  f_Law_law_J1988 xs L rec_ v4 r1956 1 (xs (Int32.toNatClampNeg (v4 + 2))) (xs (Int32.toNatClampNeg (v4 + 1))) μ_1956))))
def f_Law_law_J2088 (xs : Nat → Int32) (L : Nat) (rec_ : Int32 → HMem → Option (Unit × HMem)) (v4 : Int32) (μ : HMem) : Option (Unit × HMem) :=
f_Law_law_J2517 xs L rec_ v4 μ
def f_Law_law_J2144 (xs : Nat → Int32) (L : Nat) (rec_ : Int32 → HMem → Option (Unit × HMem)) (v4 : Int32) (μ : HMem) : Option (Unit × HMem) :=
f_Law_law_J2517 xs L rec_ v4 μ
def f_Law_law_J2207 (xs : Nat → Int32) (L : Nat) (rec_ : Int32 → HMem → Option (Unit × HMem)) (v4 : Int32) (μ : HMem) : Option (Unit × HMem) :=
f_Law_law_J2517 xs L rec_ v4 μ
def f_Law_law_J2201 (xs : Nat → Int32) (L : Nat) (rec_ : Int32 → HMem → Option (Unit × HMem)) (v4 : Int32) (s0 : Int64) (s1 : Int64) (μ : HMem) : Option (Unit × HMem) :=
if (lg_cmp s1 s0) = 0 then
  f_Law_law_J2207 xs L rec_ v4 μ
else
  none
def f_Law_law_J2263 (xs : Nat → Int32) (L : Nat) (rec_ : Int32 → HMem → Option (Unit × HMem)) (v4 : Int32) (μ : HMem) : Option (Unit × HMem) :=
f_Law_law_J2517 xs L rec_ v4 μ
def f_Law_law_J2319 (xs : Nat → Int32) (L : Nat) (rec_ : Int32 → HMem → Option (Unit × HMem)) (v4 : Int32) (μ : HMem) : Option (Unit × HMem) :=
f_Law_law_J2517 xs L rec_ v4 μ
def f_Law_law_J2388 (xs : Nat → Int32) (L : Nat) (rec_ : Int32 → HMem → Option (Unit × HMem)) (v4 : Int32) (μ : HMem) : Option (Unit × HMem) :=
f_Law_law_J2517 xs L rec_ v4 μ
def f_Law_law_J2456 (xs : Nat → Int32) (L : Nat) (rec_ : Int32 → HMem → Option (Unit × HMem)) (v4 : Int32) (μ : HMem) : Option (Unit × HMem) :=
f_Law_law_J2517 xs L rec_ v4 μ
def f_Law_law_J2500 (xs : Nat → Int32) (L : Nat) (rec_ : Int32 → HMem → Option (Unit × HMem)) (v4 : Int32) (μ : HMem) : Option (Unit × HMem) :=
f_Law_law_J2517 xs L rec_ v4 μ
def f_Law_law_L23_b (xs : Nat → Int32) (L : Nat) (rec_ : Int32 → HMem → Option (Unit × HMem)) (v4 : Int32) (μ : HMem) : Option (Unit × HMem) :=
if ((nI L) - 5) < v4 then
  some ((), μ)
else
  h_chk v4 L (
  if ((xs (Int32.toNatClampNeg (v4))) &&& 63).toInt < 0 ∨ 33 < ((xs (Int32.toNatClampNeg (v4))) &&& 63).toInt then
    f_Law_law_J2517 xs L rec_ v4 μ
  else if ((xs (Int32.toNatClampNeg (v4))) &&& 63) = 0 then
    h_chk (v4 + 1) L (
    h_chk (v4 + 2) L (
    h_bd (f_Law_setSize (xs (Int32.toNatClampNeg (v4 + 1))) (xs (Int32.toNatClampNeg (v4 + 2))) μ) (fun r202 μ_202 =>
    h_chk (v4 + 1) L (
    h_chk (v4 + 2) L (
    h_bd (f_Model_setSize (xs (Int32.toNatClampNeg (v4 + 1))) (xs (Int32.toNatClampNeg (v4 + 2))) μ_202) (fun r220 μ_220 =>
    h_bd (f_Model_thrown  μ_220) (fun r226 μ_226 =>
    if r226 = r202 then
      if ¬ r202 = 0 then
        f_Law_law_J253 xs L rec_ v4 μ_226
      else
        h_chk 0 (h_len 143) (
        if (lg_cmp (μ_226.2 143 (Int32.toNatClampNeg (0))) (Int32.toInt64 r220)) = 0 then
          f_Law_law_J253 xs L rec_ v4 μ_226
        else
          none)
    else
      none)))))))
  else if ((xs (Int32.toNatClampNeg (v4))) &&& 63) = 1 then
    h_chk (v4 + 1) L (
    h_chk (v4 + 2) L (
    h_chk (v4 + 3) L (
    h_bd (f_Law_setVertex (xs (Int32.toNatClampNeg (v4 + 1))) (xs (Int32.toNatClampNeg (v4 + 2))) (xs (Int32.toNatClampNeg (v4 + 3))) μ) (fun r276 μ_276 =>
    h_chk (v4 + 1) L (
    h_chk (v4 + 2) L (
    h_chk (v4 + 3) L (
    h_bd (f_Model_setVertex (xs (Int32.toNatClampNeg (v4 + 1))) (xs (Int32.toNatClampNeg (v4 + 2))) (xs (Int32.toNatClampNeg (v4 + 3))) μ_276) (fun r300 μ_300 =>
    h_bd (f_Model_thrown  μ_300) (fun r306 μ_306 =>
    if r306 = r276 then
      if ¬ r276 = 0 then
        f_Law_law_J333 xs L rec_ v4 μ_306
      else
        h_chk 0 (h_len 143) (
        if (lg_cmp (μ_306.2 143 (Int32.toNatClampNeg (0))) (Int32.toInt64 r300)) = 0 then
          f_Law_law_J333 xs L rec_ v4 μ_306
        else
          none)
    else
      none)))))))))
  else if ((xs (Int32.toNatClampNeg (v4))) &&& 63) = 2 then
    h_chk (v4 + 1) L (
    h_chk (v4 + 2) L (
    h_chk (v4 + 3) L (
    h_chk (v4 + 4) L (
    h_bd (f_Law_setEdge (xs (Int32.toNatClampNeg (v4 + 1))) (xs (Int32.toNatClampNeg (v4 + 2))) (xs (Int32.toNatClampNeg (v4 + 3))) (xs (Int32.toNatClampNeg (v4 + 4))) μ) (fun r362 μ_362 =>
    h_chk (v4 + 1) L (
    h_chk (v4 + 2) L (
    h_chk (v4 + 3) L (
    h_chk (v4 + 4) L (
    h_bd (f_Model_setEdge (xs (Int32.toNatClampNeg (v4 + 1))) (xs (Int32.toNatClampNeg (v4 + 2))) (xs (Int32.toNatClampNeg (v4 + 3))) (xs (Int32.toNatClampNeg (v4 + 4))) μ_362) (fun r392 μ_392 =>
    h_bd (f_Model_thrown  μ_392) (fun r398 μ_398 =>
    if r398 = r362 then
      if ¬ r362 = 0 then
        f_Law_law_J425 xs L rec_ v4 μ_398
      else
        h_chk 0 (h_len 143) (
        if (lg_cmp (μ_398.2 143 (Int32.toNatClampNeg (0))) (Int32.toInt64 r392)) = 0 then
          f_Law_law_J425 xs L rec_ v4 μ_398
        else
          none)
    else
      none)))))))))))
  else if ((xs (Int32.toNatClampNeg (v4))) &&& 63) = 3 then
    h_chk (v4 + 1) L (
    h_chk (v4 + 2) L (
    h_chk (v4 + 3) L (
    h_bd (f_Law_make (xs (Int32.toNatClampNeg (v4 + 1))) (xs (Int32.toNatClampNeg (v4 + 2))) (xs (Int32.toNatClampNeg (v4 + 3))) μ) (fun r448 μ_448 =>
    h_chk (v4 + 1) L (
    h_chk (v4 + 2) L (
    h_chk (v4 + 3) L (
    h_bd (f_Model_make (xs (Int32.toNatClampNeg (v4 + 1))) (xs (Int32.toNatClampNeg (v4 + 2))) (xs (Int32.toNatClampNeg (v4 + 3))) μ_448) (fun r472 μ_472 =>
    h_bd (f_Model_thrown  μ_472) (fun r478 μ_478 =>
    if r478 = r448 then
      if ¬ r448 = 0 then
        f_Law_law_J505 xs L rec_ v4 μ_478
      else
        h_chk 0 (h_len 143) (
        if (lg_cmp (μ_478.2 143 (Int32.toNatClampNeg (0))) (Int32.toInt64 r472)) = 0 then
          f_Law_law_J505 xs L rec_ v4 μ_478
        else
          none)
    else
      none)))))))))
  else if ((xs (Int32.toNatClampNeg (v4))) &&& 63) = 4 then
    h_chk (v4 + 1) L (
    h_chk (v4 + 2) L (
    h_chk (v4 + 3) L (
    h_chk (v4 + 4) L (
    h_bd (f_Law_random (xs (Int32.toNatClampNeg (v4 + 1))) (xs (Int32.toNatClampNeg (v4 + 2))) (xs (Int32.toNatClampNeg (v4 + 3))) (xs (Int32.toNatClampNeg (v4 + 4))) μ) (fun r534 μ_534 =>
    h_chk (v4 + 1) L (
    h_chk (v4 + 2) L (
    h_chk (v4 + 3) L (
    h_chk (v4 + 4) L (
    h_bd (f_Model_random (xs (Int32.toNatClampNeg (v4 + 1))) (xs (Int32.toNatClampNeg (v4 + 2))) (xs (Int32.toNatClampNeg (v4 + 3))) (xs (Int32.toNatClampNeg (v4 + 4))) μ_534) (fun r564 μ_564 =>
    h_bd (f_Model_thrown  μ_564) (fun r570 μ_570 =>
    if r570 = r534 then
      if ¬ r534 = 0 then
        f_Law_law_J597 xs L rec_ v4 μ_570
      else
        h_chk 0 (h_len 143) (
        if (lg_cmp (μ_570.2 143 (Int32.toNatClampNeg (0))) (Int32.toInt64 r564)) = 0 then
          f_Law_law_J597 xs L rec_ v4 μ_570
        else
          none)
    else
      none)))))))))))
  else if ((xs (Int32.toNatClampNeg (v4))) &&& 63) = 5 then
    h_chk (v4 + 1) L (
    h_chk (v4 + 2) L (
    h_chk (v4 + 3) L (
    h_chk (v4 + 4) L (
    h_bd (f_Law_combine (xs (Int32.toNatClampNeg (v4 + 1))) (xs (Int32.toNatClampNeg (v4 + 2))) (xs (Int32.toNatClampNeg (v4 + 3))) (xs (Int32.toNatClampNeg (v4 + 4))) μ) (fun r626 μ_626 =>
    h_chk (v4 + 1) L (
    h_chk (v4 + 2) L (
    h_chk (v4 + 3) L (
    h_chk (v4 + 4) L (
    h_bd (f_Model_combine (xs (Int32.toNatClampNeg (v4 + 1))) (xs (Int32.toNatClampNeg (v4 + 2))) (xs (Int32.toNatClampNeg (v4 + 3))) (xs (Int32.toNatClampNeg (v4 + 4))) μ_626) (fun r656 μ_656 =>
    h_bd (f_Model_thrown  μ_656) (fun r662 μ_662 =>
    if r662 = r626 then
      if ¬ r626 = 0 then
        f_Law_law_J689 xs L rec_ v4 μ_662
      else
        h_chk 0 (h_len 143) (
        if (lg_cmp (μ_662.2 143 (Int32.toNatClampNeg (0))) (Int32.toInt64 r656)) = 0 then
          f_Law_law_J689 xs L rec_ v4 μ_662
        else
          none)
    else
      none)))))))))))
  else if ((xs (Int32.toNatClampNeg (v4))) &&& 63) = 6 then
    h_chk (v4 + 1) L (
    h_chk (v4 + 2) L (
    h_chk (v4 + 3) L (
    h_chk (v4 + 4) L (
    h_bd (f_Law_derive (xs (Int32.toNatClampNeg (v4 + 1))) (xs (Int32.toNatClampNeg (v4 + 2))) (xs (Int32.toNatClampNeg (v4 + 3))) (xs (Int32.toNatClampNeg (v4 + 4))) μ) (fun r718 μ_718 =>
    h_chk (v4 + 1) L (
    h_chk (v4 + 2) L (
    h_chk (v4 + 3) L (
    h_chk (v4 + 4) L (
    h_bd (f_Model_derive (xs (Int32.toNatClampNeg (v4 + 1))) (xs (Int32.toNatClampNeg (v4 + 2))) (xs (Int32.toNatClampNeg (v4 + 3))) (xs (Int32.toNatClampNeg (v4 + 4))) μ_718) (fun r748 μ_748 =>
    h_bd (f_Model_thrown  μ_748) (fun r754 μ_754 =>
    if r754 = r718 then
      if ¬ r718 = 0 then
        f_Law_law_J781 xs L rec_ v4 μ_754
      else
        h_chk 0 (h_len 143) (
        if (lg_cmp (μ_754.2 143 (Int32.toNatClampNeg (0))) (Int32.toInt64 r748)) = 0 then
          f_Law_law_J781 xs L rec_ v4 μ_754
        else
          none)
    else
      none)))))))))))
  else if ((xs (Int32.toNatClampNeg (v4))) &&& 63) = 7 then
    h_chk (v4 + 1) L (
    h_chk (v4 + 2) L (
    h_bd (f_Law_graph (xs (Int32.toNatClampNeg (v4 + 1))) (xs (Int32.toNatClampNeg (v4 + 2))) μ) (fun r798 μ_798 =>
    h_chk (v4 + 1) L (
    h_chk (v4 + 2) L (
    h_bd (f_Model_graph (xs (Int32.toNatClampNeg (v4 + 1))) (xs (Int32.toNatClampNeg (v4 + 2))) μ_798) (fun r816 μ_816 =>
    h_bd (f_Model_thrown  μ_816) (fun r822 μ_822 =>
    if r822 = r798 then
      if ¬ r798 = 0 then
        f_Law_law_J849 xs L rec_ v4 μ_822
      else
        h_chk 0 (h_len 143) (
        if (lg_cmp (μ_822.2 143 (Int32.toNatClampNeg (0))) (Int32.toInt64 r816)) = 0 then
          f_Law_law_J849 xs L rec_ v4 μ_822
        else
          none)
    else
      none)))))))
  else if ((xs (Int32.toNatClampNeg (v4))) &&& 63) = 8 then
    h_chk (v4 + 1) L (
    h_chk (v4 + 2) L (
    h_chk (v4 + 3) L (
    h_bd (f_Law_vertex (xs (Int32.toNatClampNeg (v4 + 1))) (xs (Int32.toNatClampNeg (v4 + 2))) (xs (Int32.toNatClampNeg (v4 + 3))) μ) (fun r872 μ_872 =>
    h_chk (v4 + 1) L (
    h_chk (v4 + 2) L (
    h_chk (v4 + 3) L (
    h_bd (f_Model_vertex (xs (Int32.toNatClampNeg (v4 + 1))) (xs (Int32.toNatClampNeg (v4 + 2))) (xs (Int32.toNatClampNeg (v4 + 3))) μ_872) (fun r896 μ_896 =>
    h_bd (f_Model_thrown  μ_896) (fun r902 μ_902 =>
    if r902 = r872 then
      if ¬ r872 = 0 then
        f_Law_law_J929 xs L rec_ v4 μ_902
      else
        h_chk 0 (h_len 143) (
        if (lg_cmp (μ_902.2 143 (Int32.toNatClampNeg (0))) (Int32.toInt64 r896)) = 0 then
          f_Law_law_J929 xs L rec_ v4 μ_902
        else
          none)
    else
      none)))))))))
  else if ((xs (Int32.toNatClampNeg (v4))) &&& 63) = 9 then
    h_chk (v4 + 1) L (
    h_chk (v4 + 2) L (
    h_chk (v4 + 3) L (
    h_bd (f_Law_edge (xs (Int32.toNatClampNeg (v4 + 1))) (xs (Int32.toNatClampNeg (v4 + 2))) (xs (Int32.toNatClampNeg (v4 + 3))) μ) (fun r952 μ_952 =>
    h_chk (v4 + 1) L (
    h_chk (v4 + 2) L (
    h_chk (v4 + 3) L (
    h_bd (f_Model_edge (xs (Int32.toNatClampNeg (v4 + 1))) (xs (Int32.toNatClampNeg (v4 + 2))) (xs (Int32.toNatClampNeg (v4 + 3))) μ_952) (fun r976 μ_976 =>
    h_bd (f_Model_thrown  μ_976) (fun r982 μ_982 =>
    if r982 = r952 then
      if ¬ r952 = 0 then
        f_Law_law_J1009 xs L rec_ v4 μ_982
      else
        h_chk 0 (h_len 143) (
        if (lg_cmp (μ_982.2 143 (Int32.toNatClampNeg (0))) (Int32.toInt64 r976)) = 0 then
          f_Law_law_J1009 xs L rec_ v4 μ_982
        else
          none)
    else
      none)))))))))
  else if ((xs (Int32.toNatClampNeg (v4))) &&& 63) = 10 then
    h_chk (v4 + 1) L (
    h_chk (v4 + 2) L (
    h_bd (f_Law_greedy (xs (Int32.toNatClampNeg (v4 + 1))) (xs (Int32.toNatClampNeg (v4 + 2))) μ) (fun r1026 μ_1026 =>
    h_chk (v4 + 1) L (
    h_chk (v4 + 2) L (
    h_bd (f_Model_greedy (xs (Int32.toNatClampNeg (v4 + 1))) (xs (Int32.toNatClampNeg (v4 + 2))) μ_1026) (fun r1044 μ_1044 =>
    h_bd (f_Model_thrown  μ_1044) (fun r1050 μ_1050 =>
    if r1050 = r1026 then
      if ¬ r1026 = 0 then
        f_Law_law_J1077 xs L rec_ v4 μ_1050
      else
        h_chk 0 (h_len 143) (
        if (lg_cmp (μ_1050.2 143 (Int32.toNatClampNeg (0))) (Int32.toInt64 r1044)) = 0 then
          f_Law_law_J1077 xs L rec_ v4 μ_1050
        else
          none)
    else
      none)))))))
  else if ((xs (Int32.toNatClampNeg (v4))) &&& 63) = 11 then
    h_chk (v4 + 1) L (
    h_chk (v4 + 2) L (
    h_chk (v4 + 3) L (
    if (xs (Int32.toNatClampNeg (v4 + 3))) = 0 then
      f_Law_law_J1107 xs L rec_ v4 0 (xs (Int32.toNatClampNeg (v4 + 2))) (xs (Int32.toNatClampNeg (v4 + 1))) μ
    else
      f_Law_law_J1107 xs L rec_ v4 1 (xs (Int32.toNatClampNeg (v4 + 2))) (xs (Int32.toNatClampNeg (v4 + 1))) μ)))
  else if ((xs (Int32.toNatClampNeg (v4))) &&& 63) = 12 then
    h_chk (v4 + 1) L (
    h_bd (f_Law_treewidth (xs (Int32.toNatClampNeg (v4 + 1))) μ) (fun r1184 μ_1184 =>
    h_chk (v4 + 1) L (
    h_bd (f_Model_treewidth (xs (Int32.toNatClampNeg (v4 + 1))) μ_1184) (fun r1196 μ_1196 =>
    h_bd (f_Model_thrown  μ_1196) (fun r1202 μ_1202 =>
    if r1202 = r1184 then
      if ¬ r1184 = 0 then
        f_Law_law_J1229 xs L rec_ v4 μ_1202
      else
        h_chk 0 (h_len 143) (
        if (lg_cmp (μ_1202.2 143 (Int32.toNatClampNeg (0))) (Int32.toInt64 r1196)) = 0 then
          f_Law_law_J1229 xs L rec_ v4 μ_1202
        else
          none)
    else
      none)))))
  else if ((xs (Int32.toNatClampNeg (v4))) &&& 63) = 13 then
    h_chk (v4 + 1) L (
    h_chk (v4 + 2) L (
    h_bd (f_Law_bag (xs (Int32.toNatClampNeg (v4 + 1))) (xs (Int32.toNatClampNeg (v4 + 2))) μ) (fun r1246 μ_1246 =>
    h_chk (v4 + 1) L (
    h_chk (v4 + 2) L (
    h_bd (f_Model_bag (xs (Int32.toNatClampNeg (v4 + 1))) (xs (Int32.toNatClampNeg (v4 + 2))) μ_1246) (fun r1264 μ_1264 =>
    h_bd (f_Model_thrown  μ_1264) (fun r1270 μ_1270 =>
    if r1270 = r1246 then
      if ¬ r1246 = 0 then
        f_Law_law_J1297 xs L rec_ v4 μ_1270
      else
        h_chk 0 (h_len 143) (
        if (lg_cmp (μ_1270.2 143 (Int32.toNatClampNeg (0))) (Int32.toInt64 r1264)) = 0 then
          f_Law_law_J1297 xs L rec_ v4 μ_1270
        else
          none)
    else
      none)))))))
  else if ((xs (Int32.toNatClampNeg (v4))) &&& 63) = 14 then
    h_chk (v4 + 1) L (
    h_chk (v4 + 2) L (
    h_chk (v4 + 3) L (
    h_bd (f_Law_count (xs (Int32.toNatClampNeg (v4 + 1))) (xs (Int32.toNatClampNeg (v4 + 2))) (xs (Int32.toNatClampNeg (v4 + 3))) μ) (fun r1320 μ_1320 =>
    h_chk (v4 + 1) L (
    h_chk (v4 + 2) L (
    h_chk (v4 + 3) L (
    h_bd (f_Model_count (xs (Int32.toNatClampNeg (v4 + 1))) (xs (Int32.toNatClampNeg (v4 + 2))) (xs (Int32.toNatClampNeg (v4 + 3))) μ_1320) (fun r1344 μ_1344 =>
    h_bd (f_Model_thrown  μ_1344) (fun r1350 μ_1350 =>
    if r1350 = r1320 then
      if ¬ r1320 = 0 then
        f_Law_law_J1376 xs L rec_ v4 μ_1350
      else
        h_chk 0 (h_len 143) (
        if (lg_cmp (μ_1350.2 143 (Int32.toNatClampNeg (0))) r1344) = 0 then
          f_Law_law_J1376 xs L rec_ v4 μ_1350
        else
          none)
    else
      none)))))))))
  else if ((xs (Int32.toNatClampNeg (v4))) &&& 63) = 15 then
    h_chk (v4 + 1) L (
    h_chk (v4 + 2) L (
    h_chk (v4 + 3) L (
    h_bd (f_Law_density (xs (Int32.toNatClampNeg (v4 + 1))) (xs (Int32.toNatClampNeg (v4 + 2))) (xs (Int32.toNatClampNeg (v4 + 3))) μ) (fun r1399 μ_1399 =>
    h_chk (v4 + 1) L (
    h_chk (v4 + 2) L (
    h_chk (v4 + 3) L (
    h_bd (f_Model_density (xs (Int32.toNatClampNeg (v4 + 1))) (xs (Int32.toNatClampNeg (v4 + 2))) (xs (Int32.toNatClampNeg (v4 + 3))) μ_1399) (fun r1423 μ_1423 =>
    h_bd (f_Model_thrown  μ_1423) (fun r1429 μ_1429 =>
    if r1429 = r1399 then
      if ¬ r1399 = 0 then
        f_Law_law_J1455 xs L rec_ v4 μ_1429
      else
        h_chk 0 (h_len 143) (
        if (lg_cmp (μ_1429.2 143 (Int32.toNatClampNeg (0))) r1423) = 0 then
          f_Law_law_J1455 xs L rec_ v4 μ_1429
        else
          none)
    else
      none)))))))))
  else if ((xs (Int32.toNatClampNeg (v4))) &&& 63) = 16 then
    h_chk (v4 + 1) L (
    h_bd (f_Law_automorphisms (xs (Int32.toNatClampNeg (v4 + 1))) μ) (fun r1466 μ_1466 =>
    h_chk (v4 + 1) L (
    h_bd (f_Model_automorphisms (xs (Int32.toNatClampNeg (v4 + 1))) μ_1466) (fun r1478 μ_1478 =>
    h_bd (f_Model_thrown  μ_1478) (fun r1484 μ_1484 =>
    if r1484 = r1466 then
      if ¬ r1466 = 0 then
        f_Law_law_J1511 xs L rec_ v4 μ_1484
      else
        h_chk 0 (h_len 143) (
        if (lg_cmp (μ_1484.2 143 (Int32.toNatClampNeg (0))) (Int32.toInt64 r1478)) = 0 then
          f_Law_law_J1511 xs L rec_ v4 μ_1484
        else
          none)
    else
      none)))))
  else if ((xs (Int32.toNatClampNeg (v4))) &&& 63) = 17 then
    h_chk (v4 + 1) L (
    h_chk (v4 + 2) L (
    h_bd (f_Law_isomorphic (xs (Int32.toNatClampNeg (v4 + 1))) (xs (Int32.toNatClampNeg (v4 + 2))) μ) (fun r1528 μ_1528 =>
    h_chk (v4 + 1) L (
    h_chk (v4 + 2) L (
    h_bd (f_Model_isomorphic (xs (Int32.toNatClampNeg (v4 + 1))) (xs (Int32.toNatClampNeg (v4 + 2))) μ_1528) (fun r1546 μ_1546 =>
    h_bd (f_Model_thrown  μ_1546) (fun r1552 μ_1552 =>
    if r1552 = r1528 then
      if ¬ r1528 = 0 then
        f_Law_law_J1586 xs L rec_ v4 μ_1552
      else
        h_chk 0 (h_len 143) (
        if r1546 = 0 then
          f_Law_law_J1580 xs L rec_ v4 0 (μ_1552.2 143 (Int32.toNatClampNeg (0))) μ_1552
        else
          f_Law_law_J1580 xs L rec_ v4 1 (μ_1552.2 143 (Int32.toNatClampNeg (0))) μ_1552)
    else
      none)))))))
  else if ((xs (Int32.toNatClampNeg (v4))) &&& 63) = 18 then
    h_chk (v4 + 1) L (
    h_chk (v4 + 2) L (
    h_chk (v4 + 3) L (
    h_bd (f_Law_image (xs (Int32.toNatClampNeg (v4 + 1))) (xs (Int32.toNatClampNeg (v4 + 2))) (xs (Int32.toNatClampNeg (v4 + 3))) μ) (fun r1609 μ_1609 =>
    h_chk (v4 + 1) L (
    h_chk (v4 + 2) L (
    h_chk (v4 + 3) L (
    h_bd (f_Model_image (xs (Int32.toNatClampNeg (v4 + 1))) (xs (Int32.toNatClampNeg (v4 + 2))) (xs (Int32.toNatClampNeg (v4 + 3))) μ_1609) (fun r1633 μ_1633 =>
    h_bd (f_Model_thrown  μ_1633) (fun r1639 μ_1639 =>
    if r1639 = r1609 then
      if ¬ r1609 = 0 then
        f_Law_law_J1666 xs L rec_ v4 μ_1639
      else
        h_chk 0 (h_len 143) (
        if (lg_cmp (μ_1639.2 143 (Int32.toNatClampNeg (0))) (Int32.toInt64 r1633)) = 0 then
          f_Law_law_J1666 xs L rec_ v4 μ_1639
        else
          none)
    else
      none)))))))))
  else if ((xs (Int32.toNatClampNeg (v4))) &&& 63) = 19 then
    h_chk (v4 + 1) L (
    h_chk (v4 + 2) L (
    h_bd (f_Law_compare (xs (Int32.toNatClampNeg (v4 + 1))) (xs (Int32.toNatClampNeg (v4 + 2))) μ) (fun r1683 μ_1683 =>
    h_chk (v4 + 1) L (
    h_chk (v4 + 2) L (
    h_bd (f_Model_compare (xs (Int32.toNatClampNeg (v4 + 1))) (xs (Int32.toNatClampNeg (v4 + 2))) μ_1683) (fun r1701 μ_1701 =>
    h_bd (f_Model_thrown  μ_1701) (fun r1707 μ_1707 =>
    if r1707 = r1683 then
      if ¬ r1683 = 0 then
        f_Law_law_J1734 xs L rec_ v4 μ_1707
      else
        h_chk 0 (h_len 143) (
        if (lg_cmp (μ_1707.2 143 (Int32.toNatClampNeg (0))) (Int32.toInt64 r1701)) = 0 then
          f_Law_law_J1734 xs L rec_ v4 μ_1707
        else
          none)
    else
      none)))))))
  else if ((xs (Int32.toNatClampNeg (v4))) &&& 63) = 20 then
    h_chk (v4 + 1) L (
    h_chk (v4 + 2) L (
    h_bd (f_Law_colorings (xs (Int32.toNatClampNeg (v4 + 1))) (xs (Int32.toNatClampNeg (v4 + 2))) μ) (fun r1751 μ_1751 =>
    h_chk (v4 + 1) L (
    h_chk (v4 + 2) L (
    h_bd (f_Model_colorings (xs (Int32.toNatClampNeg (v4 + 1))) (xs (Int32.toNatClampNeg (v4 + 2))) μ_1751) (fun r1769 μ_1769 =>
    h_bd (f_Model_thrown  μ_1769) (fun r1775 μ_1775 =>
    if r1775 = r1751 then
      if ¬ r1751 = 0 then
        f_Law_law_J1801 xs L rec_ v4 μ_1775
      else
        h_chk 0 (h_len 143) (
        if (lg_cmp (μ_1775.2 143 (Int32.toNatClampNeg (0))) r1769) = 0 then
          f_Law_law_J1801 xs L rec_ v4 μ_1775
        else
          none)
    else
      none)))))))
  else if ((xs (Int32.toNatClampNeg (v4))) &&& 63) = 21 then
    h_chk (v4 + 1) L (
    h_bd (f_Law_chromatic (xs (Int32.toNatClampNeg (v4 + 1))) μ) (fun r1812 μ_1812 =>
    h_chk (v4 + 1) L (
    h_bd (f_Model_chromatic (xs (Int32.toNatClampNeg (v4 + 1))) μ_1812) (fun r1824 μ_1824 =>
    h_bd (f_Model_thrown  μ_1824) (fun r1830 μ_1830 =>
    if r1830 = r1812 then
      if ¬ r1812 = 0 then
        f_Law_law_J1857 xs L rec_ v4 μ_1830
      else
        h_chk 0 (h_len 143) (
        if (lg_cmp (μ_1830.2 143 (Int32.toNatClampNeg (0))) (Int32.toInt64 r1824)) = 0 then
          f_Law_law_J1857 xs L rec_ v4 μ_1830
        else
          none)
    else
      none)))))
  else if ((xs (Int32.toNatClampNeg (v4))) &&& 63) = 22 then
    h_chk (v4 + 1) L (
    h_chk (v4 + 2) L (
    h_bd (f_Law_independent (xs (Int32.toNatClampNeg (v4 + 1))) (xs (Int32.toNatClampNeg (v4 + 2))) μ) (fun r1874 μ_1874 =>
    h_chk (v4 + 1) L (
    h_chk (v4 + 2) L (
    h_bd (f_Model_independent (xs (Int32.toNatClampNeg (v4 + 1))) (xs (Int32.toNatClampNeg (v4 + 2))) μ_1874) (fun r1892 μ_1892 =>
    h_bd (f_Model_thrown  μ_1892) (fun r1898 μ_1898 =>
    if r1898 = r1874 then
      if ¬ r1874 = 0 then
        f_Law_law_J1925 xs L rec_ v4 μ_1898
      else
        h_chk 0 (h_len 143) (
        if (lg_cmp (μ_1898.2 143 (Int32.toNatClampNeg (0))) (Int32.toInt64 r1892)) = 0 then
          f_Law_law_J1925 xs L rec_ v4 μ_1898
        else
          none)
    else
      none)))))))
  else if ((xs (Int32.toNatClampNeg (v4))) &&& 63) = 23 then
    h_chk (v4 + 1) L (
    h_chk (v4 + 2) L (
    h_chk (v4 + 3) L (
    if (xs (Int32.toNatClampNeg (v4 + 3))) = 0 then
      f_Law_law_J1955 xs L rec_ v4 0 (xs (Int32.toNatClampNeg (v4 + 2))) (xs (Int32.toNatClampNeg (v4 + 1))) μ
    else
      f_Law_law_J1955 xs L rec_ v4 1 (xs (Int32.toNatClampNeg (v4 + 2))) (xs (Int32.toNatClampNeg (v4 + 1))) μ)))
  else if ((xs (Int32.toNatClampNeg (v4))) &&& 63) = 24 then
    h_chk (v4 + 1) L (
    h_chk (v4 + 2) L (
    h_bd (f_Law_folds (xs (Int32.toNatClampNeg (v4 + 1))) (xs (Int32.toNatClampNeg (v4 + 2))) μ) (fun r2037 μ_2037 =>
    h_chk (v4 + 1) L (
    h_chk (v4 + 2) L (
    h_bd (f_Model_folds (xs (Int32.toNatClampNeg (v4 + 1))) (xs (Int32.toNatClampNeg (v4 + 2))) μ_2037) (fun r2055 μ_2055 =>
    h_bd (f_Model_thrown  μ_2055) (fun r2061 μ_2061 =>
    if r2061 = r2037 then
      if ¬ r2037 = 0 then
        f_Law_law_J2088 xs L rec_ v4 μ_2061
      else
        h_chk 0 (h_len 143) (
        if (lg_cmp (μ_2061.2 143 (Int32.toNatClampNeg (0))) (Int32.toInt64 r2055)) = 0 then
          f_Law_law_J2088 xs L rec_ v4 μ_2061
        else
          none)
    else
      none)))))))
  else if ((xs (Int32.toNatClampNeg (v4))) &&& 63) = 25 then
    h_chk (v4 + 1) L (
    h_bd (f_Law_dismantle (xs (Int32.toNatClampNeg (v4 + 1))) μ) (fun r2099 μ_2099 =>
    h_chk (v4 + 1) L (
    h_bd (f_Model_dismantle (xs (Int32.toNatClampNeg (v4 + 1))) μ_2099) (fun r2111 μ_2111 =>
    h_bd (f_Model_thrown  μ_2111) (fun r2117 μ_2117 =>
    if r2117 = r2099 then
      if ¬ r2099 = 0 then
        f_Law_law_J2144 xs L rec_ v4 μ_2117
      else
        h_chk 0 (h_len 143) (
        if (lg_cmp (μ_2117.2 143 (Int32.toNatClampNeg (0))) (Int32.toInt64 r2111)) = 0 then
          f_Law_law_J2144 xs L rec_ v4 μ_2117
        else
          none)
    else
      none)))))
  else if ((xs (Int32.toNatClampNeg (v4))) &&& 63) = 26 then
    h_chk (v4 + 1) L (
    h_bd (f_Law_isCore (xs (Int32.toNatClampNeg (v4 + 1))) μ) (fun r2155 μ_2155 =>
    h_chk (v4 + 1) L (
    h_bd (f_Model_isCore (xs (Int32.toNatClampNeg (v4 + 1))) μ_2155) (fun r2167 μ_2167 =>
    h_bd (f_Model_thrown  μ_2167) (fun r2173 μ_2173 =>
    if r2173 = r2155 then
      if ¬ r2155 = 0 then
        f_Law_law_J2207 xs L rec_ v4 μ_2173
      else
        h_chk 0 (h_len 143) (
        if r2167 = 0 then
          f_Law_law_J2201 xs L rec_ v4 0 (μ_2173.2 143 (Int32.toNatClampNeg (0))) μ_2173
        else
          f_Law_law_J2201 xs L rec_ v4 1 (μ_2173.2 143 (Int32.toNatClampNeg (0))) μ_2173)
    else
      none)))))
  else if ((xs (Int32.toNatClampNeg (v4))) &&& 63) = 27 then
    h_chk (v4 + 1) L (
    h_bd (f_Law_coreSize (xs (Int32.toNatClampNeg (v4 + 1))) μ) (fun r2218 μ_2218 =>
    h_chk (v4 + 1) L (
    h_bd (f_Model_coreSize (xs (Int32.toNatClampNeg (v4 + 1))) μ_2218) (fun r2230 μ_2230 =>
    h_bd (f_Model_thrown  μ_2230) (fun r2236 μ_2236 =>
    if r2236 = r2218 then
      if ¬ r2218 = 0 then
        f_Law_law_J2263 xs L rec_ v4 μ_2236
      else
        h_chk 0 (h_len 143) (
        if (lg_cmp (μ_2236.2 143 (Int32.toNatClampNeg (0))) (Int32.toInt64 r2230)) = 0 then
          f_Law_law_J2263 xs L rec_ v4 μ_2236
        else
          none)
    else
      none)))))
  else if ((xs (Int32.toNatClampNeg (v4))) &&& 63) = 28 then
    h_chk (v4 + 1) L (
    h_bd (f_Law_append (xs (Int32.toNatClampNeg (v4 + 1))) μ) (fun r2274 μ_2274 =>
    h_chk (v4 + 1) L (
    h_bd (f_Model_append (xs (Int32.toNatClampNeg (v4 + 1))) μ_2274) (fun r2286 μ_2286 =>
    h_bd (f_Model_thrown  μ_2286) (fun r2292 μ_2292 =>
    if r2292 = r2274 then
      if ¬ r2274 = 0 then
        f_Law_law_J2319 xs L rec_ v4 μ_2292
      else
        h_chk 0 (h_len 143) (
        if (lg_cmp (μ_2292.2 143 (Int32.toNatClampNeg (0))) (Int32.toInt64 r2286)) = 0 then
          f_Law_law_J2319 xs L rec_ v4 μ_2292
        else
          none)
    else
      none)))))
  else if ((xs (Int32.toNatClampNeg (v4))) &&& 63) = 29 then
    h_bd (f_Bench_clearText  μ) (fun r2323 μ_2323 =>
    h_bd (f_Model_clearText  μ_2323) (fun r2327 μ_2327 =>
    if r2323 = r2327 then
      f_Law_law_J2517 xs L rec_ v4 μ_2327
    else
      none))
  else if ((xs (Int32.toNatClampNeg (v4))) &&& 63) = 30 then
    h_chk (v4 + 1) L (
    h_bd (f_Law_parse (xs (Int32.toNatClampNeg (v4 + 1))) μ) (fun r2343 μ_2343 =>
    h_chk (v4 + 1) L (
    h_bd (f_Model_parse (xs (Int32.toNatClampNeg (v4 + 1))) μ_2343) (fun r2355 μ_2355 =>
    h_bd (f_Model_thrown  μ_2355) (fun r2361 μ_2361 =>
    if r2361 = r2343 then
      if ¬ r2343 = 0 then
        f_Law_law_J2388 xs L rec_ v4 μ_2361
      else
        h_chk 0 (h_len 143) (
        if (lg_cmp (μ_2361.2 143 (Int32.toNatClampNeg (0))) (Int32.toInt64 r2355)) = 0 then
          f_Law_law_J2388 xs L rec_ v4 μ_2361
        else
          none)
    else
      none)))))
  else if ((xs (Int32.toNatClampNeg (v4))) &&& 63) = 31 then
    h_chk (v4 + 1) L (
    h_chk (v4 + 2) L (
    h_bd (f_Law_written (xs (Int32.toNatClampNeg (v4 + 1))) (xs (Int32.toNatClampNeg (v4 + 2))) μ) (fun r2405 μ_2405 =>
    h_chk (v4 + 1) L (
    h_chk (v4 + 2) L (
    h_bd (f_Model_written (xs (Int32.toNatClampNeg (v4 + 1))) (xs (Int32.toNatClampNeg (v4 + 2))) μ_2405) (fun r2423 μ_2423 =>
    h_bd (f_Model_thrown  μ_2423) (fun r2429 μ_2429 =>
    if r2429 = r2405 then
      if ¬ r2405 = 0 then
        f_Law_law_J2456 xs L rec_ v4 μ_2429
      else
        h_chk 0 (h_len 143) (
        if (lg_cmp (μ_2429.2 143 (Int32.toNatClampNeg (0))) (Int32.toInt64 r2423)) = 0 then
          f_Law_law_J2456 xs L rec_ v4 μ_2429
        else
          none)
    else
      none)))))))
  else if ((xs (Int32.toNatClampNeg (v4))) &&& 63) = 32 then
    h_bd (f_Law_undo  μ) (fun r2461 μ_2461 =>
    h_bd (f_Model_undo  μ_2461) (fun r2467 μ_2467 =>
    h_bd (f_Model_thrown  μ_2467) (fun r2473 μ_2473 =>
    if r2473 = r2461 then
      if ¬ r2461 = 0 then
        f_Law_law_J2500 xs L rec_ v4 μ_2473
      else
        h_chk 0 (h_len 143) (
        if (lg_cmp (μ_2473.2 143 (Int32.toNatClampNeg (0))) (Int32.toInt64 r2467)) = 0 then
          f_Law_law_J2500 xs L rec_ v4 μ_2473
        else
          none)
    else
      none)))
  else if ((xs (Int32.toNatClampNeg (v4))) &&& 63) = 33 then
    h_bd (f_Bench_digest  μ) (fun r2504 μ_2504 =>
    h_bd (f_Model_digest  μ_2504) (fun r2508 μ_2508 =>
    if (lg_cmp r2504 r2508) = 0 then
      f_Law_law_J2517 xs L rec_ v4 μ_2508
    else
      none))
  else none)
def f_Law_law_L23 (xs : Nat → Int32) (L : Nat) : Nat → Int32 → HMem → Option (Unit × HMem)
  | 0, _, _ => none
  | fuel + 1, v4, μ => f_Law_law_L23_b xs L (f_Law_law_L23 xs L fuel) v4 μ
theorem t_Law_law_J2517 {cx : HCx} {xs : Nat → Int32} {L : Nat} (hg : HGood cx R_Law code 8 1000 (some .boolean)) (hT : HLaw cx xs L) {B_ : Nat} (rec_ : Int32 → HMem → Option (Unit × HMem)) (hrec_ : p_Law_law_23 cx B_ rec_) (v4 : Int32) (μ : HMem) (k n : Nat) (hkn : hB k n B_) : HX cx (h_lawQ cx) (f_Law_law_J2517 xs L rec_ v4 μ) k n 2517 [(0, .ref 144), (1, .ref 84), (2, .ref 125), (3, .ref 143), (4, .int v4)] [] μ := by
  unfold f_Law_law_J2517
  refine r_letE (fun v4_2517 he_2517 => ?_)
  refine r_iinc (v := v4_2517) (l' := [(4, .int v4_2517), (0, .ref 144), (1, .ref 84), (2, .ref 125), (3, .ref 143)]) hg 4 d_Law_law_2517 rfl he_2517 (Nat.le_of_ble_eq_true rfl) rfl ?_
  refine r_goto (tgt := 23) hg d_Law_law_2520 (by decide) ?_
  refine r_sub [1, 2, 3, 4, 0] rfl ?_
  exact hrec_ v4_2517 μ k n hkn
theorem t_Law_law_J253 {cx : HCx} {xs : Nat → Int32} {L : Nat} (hg : HGood cx R_Law code 8 1000 (some .boolean)) (hT : HLaw cx xs L) {B_ : Nat} (rec_ : Int32 → HMem → Option (Unit × HMem)) (hrec_ : p_Law_law_23 cx B_ rec_) (v4 : Int32) (μ : HMem) (k n : Nat) (hkn : hB k n B_) : HX cx (h_lawQ cx) (f_Law_law_J253 xs L rec_ v4 μ) k n 253 [(0, .ref 144), (1, .ref 84), (2, .ref 125), (3, .ref 143), (4, .int v4)] [] μ := by
  unfold f_Law_law_J253
  refine r_goto (tgt := 2517) hg d_Law_law_253 (by decide) ?_
  exact t_Law_law_J2517 hg hT rec_ hrec_ v4 μ k n hkn
theorem t_Law_law_J333 {cx : HCx} {xs : Nat → Int32} {L : Nat} (hg : HGood cx R_Law code 8 1000 (some .boolean)) (hT : HLaw cx xs L) {B_ : Nat} (rec_ : Int32 → HMem → Option (Unit × HMem)) (hrec_ : p_Law_law_23 cx B_ rec_) (v4 : Int32) (μ : HMem) (k n : Nat) (hkn : hB k n B_) : HX cx (h_lawQ cx) (f_Law_law_J333 xs L rec_ v4 μ) k n 333 [(0, .ref 144), (1, .ref 84), (2, .ref 125), (3, .ref 143), (4, .int v4)] [] μ := by
  unfold f_Law_law_J333
  refine r_goto (tgt := 2517) hg d_Law_law_333 (by decide) ?_
  exact t_Law_law_J2517 hg hT rec_ hrec_ v4 μ k n hkn
theorem t_Law_law_J425 {cx : HCx} {xs : Nat → Int32} {L : Nat} (hg : HGood cx R_Law code 8 1000 (some .boolean)) (hT : HLaw cx xs L) {B_ : Nat} (rec_ : Int32 → HMem → Option (Unit × HMem)) (hrec_ : p_Law_law_23 cx B_ rec_) (v4 : Int32) (μ : HMem) (k n : Nat) (hkn : hB k n B_) : HX cx (h_lawQ cx) (f_Law_law_J425 xs L rec_ v4 μ) k n 425 [(0, .ref 144), (1, .ref 84), (2, .ref 125), (3, .ref 143), (4, .int v4)] [] μ := by
  unfold f_Law_law_J425
  refine r_goto (tgt := 2517) hg d_Law_law_425 (by decide) ?_
  exact t_Law_law_J2517 hg hT rec_ hrec_ v4 μ k n hkn
theorem t_Law_law_J505 {cx : HCx} {xs : Nat → Int32} {L : Nat} (hg : HGood cx R_Law code 8 1000 (some .boolean)) (hT : HLaw cx xs L) {B_ : Nat} (rec_ : Int32 → HMem → Option (Unit × HMem)) (hrec_ : p_Law_law_23 cx B_ rec_) (v4 : Int32) (μ : HMem) (k n : Nat) (hkn : hB k n B_) : HX cx (h_lawQ cx) (f_Law_law_J505 xs L rec_ v4 μ) k n 505 [(0, .ref 144), (1, .ref 84), (2, .ref 125), (3, .ref 143), (4, .int v4)] [] μ := by
  unfold f_Law_law_J505
  refine r_goto (tgt := 2517) hg d_Law_law_505 (by decide) ?_
  exact t_Law_law_J2517 hg hT rec_ hrec_ v4 μ k n hkn
theorem t_Law_law_J597 {cx : HCx} {xs : Nat → Int32} {L : Nat} (hg : HGood cx R_Law code 8 1000 (some .boolean)) (hT : HLaw cx xs L) {B_ : Nat} (rec_ : Int32 → HMem → Option (Unit × HMem)) (hrec_ : p_Law_law_23 cx B_ rec_) (v4 : Int32) (μ : HMem) (k n : Nat) (hkn : hB k n B_) : HX cx (h_lawQ cx) (f_Law_law_J597 xs L rec_ v4 μ) k n 597 [(0, .ref 144), (1, .ref 84), (2, .ref 125), (3, .ref 143), (4, .int v4)] [] μ := by
  unfold f_Law_law_J597
  refine r_goto (tgt := 2517) hg d_Law_law_597 (by decide) ?_
  exact t_Law_law_J2517 hg hT rec_ hrec_ v4 μ k n hkn
theorem t_Law_law_J689 {cx : HCx} {xs : Nat → Int32} {L : Nat} (hg : HGood cx R_Law code 8 1000 (some .boolean)) (hT : HLaw cx xs L) {B_ : Nat} (rec_ : Int32 → HMem → Option (Unit × HMem)) (hrec_ : p_Law_law_23 cx B_ rec_) (v4 : Int32) (μ : HMem) (k n : Nat) (hkn : hB k n B_) : HX cx (h_lawQ cx) (f_Law_law_J689 xs L rec_ v4 μ) k n 689 [(0, .ref 144), (1, .ref 84), (2, .ref 125), (3, .ref 143), (4, .int v4)] [] μ := by
  unfold f_Law_law_J689
  refine r_goto (tgt := 2517) hg d_Law_law_689 (by decide) ?_
  exact t_Law_law_J2517 hg hT rec_ hrec_ v4 μ k n hkn
theorem t_Law_law_J781 {cx : HCx} {xs : Nat → Int32} {L : Nat} (hg : HGood cx R_Law code 8 1000 (some .boolean)) (hT : HLaw cx xs L) {B_ : Nat} (rec_ : Int32 → HMem → Option (Unit × HMem)) (hrec_ : p_Law_law_23 cx B_ rec_) (v4 : Int32) (μ : HMem) (k n : Nat) (hkn : hB k n B_) : HX cx (h_lawQ cx) (f_Law_law_J781 xs L rec_ v4 μ) k n 781 [(0, .ref 144), (1, .ref 84), (2, .ref 125), (3, .ref 143), (4, .int v4)] [] μ := by
  unfold f_Law_law_J781
  refine r_goto (tgt := 2517) hg d_Law_law_781 (by decide) ?_
  exact t_Law_law_J2517 hg hT rec_ hrec_ v4 μ k n hkn
theorem t_Law_law_J849 {cx : HCx} {xs : Nat → Int32} {L : Nat} (hg : HGood cx R_Law code 8 1000 (some .boolean)) (hT : HLaw cx xs L) {B_ : Nat} (rec_ : Int32 → HMem → Option (Unit × HMem)) (hrec_ : p_Law_law_23 cx B_ rec_) (v4 : Int32) (μ : HMem) (k n : Nat) (hkn : hB k n B_) : HX cx (h_lawQ cx) (f_Law_law_J849 xs L rec_ v4 μ) k n 849 [(0, .ref 144), (1, .ref 84), (2, .ref 125), (3, .ref 143), (4, .int v4)] [] μ := by
  unfold f_Law_law_J849
  refine r_goto (tgt := 2517) hg d_Law_law_849 (by decide) ?_
  exact t_Law_law_J2517 hg hT rec_ hrec_ v4 μ k n hkn
theorem t_Law_law_J929 {cx : HCx} {xs : Nat → Int32} {L : Nat} (hg : HGood cx R_Law code 8 1000 (some .boolean)) (hT : HLaw cx xs L) {B_ : Nat} (rec_ : Int32 → HMem → Option (Unit × HMem)) (hrec_ : p_Law_law_23 cx B_ rec_) (v4 : Int32) (μ : HMem) (k n : Nat) (hkn : hB k n B_) : HX cx (h_lawQ cx) (f_Law_law_J929 xs L rec_ v4 μ) k n 929 [(0, .ref 144), (1, .ref 84), (2, .ref 125), (3, .ref 143), (4, .int v4)] [] μ := by
  unfold f_Law_law_J929
  refine r_goto (tgt := 2517) hg d_Law_law_929 (by decide) ?_
  exact t_Law_law_J2517 hg hT rec_ hrec_ v4 μ k n hkn
theorem t_Law_law_J1009 {cx : HCx} {xs : Nat → Int32} {L : Nat} (hg : HGood cx R_Law code 8 1000 (some .boolean)) (hT : HLaw cx xs L) {B_ : Nat} (rec_ : Int32 → HMem → Option (Unit × HMem)) (hrec_ : p_Law_law_23 cx B_ rec_) (v4 : Int32) (μ : HMem) (k n : Nat) (hkn : hB k n B_) : HX cx (h_lawQ cx) (f_Law_law_J1009 xs L rec_ v4 μ) k n 1009 [(0, .ref 144), (1, .ref 84), (2, .ref 125), (3, .ref 143), (4, .int v4)] [] μ := by
  unfold f_Law_law_J1009
  refine r_goto (tgt := 2517) hg d_Law_law_1009 (by decide) ?_
  exact t_Law_law_J2517 hg hT rec_ hrec_ v4 μ k n hkn
theorem t_Law_law_J1077 {cx : HCx} {xs : Nat → Int32} {L : Nat} (hg : HGood cx R_Law code 8 1000 (some .boolean)) (hT : HLaw cx xs L) {B_ : Nat} (rec_ : Int32 → HMem → Option (Unit × HMem)) (hrec_ : p_Law_law_23 cx B_ rec_) (v4 : Int32) (μ : HMem) (k n : Nat) (hkn : hB k n B_) : HX cx (h_lawQ cx) (f_Law_law_J1077 xs L rec_ v4 μ) k n 1077 [(0, .ref 144), (1, .ref 84), (2, .ref 125), (3, .ref 143), (4, .int v4)] [] μ := by
  unfold f_Law_law_J1077
  refine r_goto (tgt := 2517) hg d_Law_law_1077 (by decide) ?_
  exact t_Law_law_J2517 hg hT rec_ hrec_ v4 μ k n hkn
theorem t_Law_law_J1173 {cx : HCx} {xs : Nat → Int32} {L : Nat} (hg : HGood cx R_Law code 8 1000 (some .boolean)) (hT : HLaw cx xs L) {B_ : Nat} (rec_ : Int32 → HMem → Option (Unit × HMem)) (hrec_ : p_Law_law_23 cx B_ rec_) (v4 : Int32) (μ : HMem) (k n : Nat) (hkn : hB k n B_) : HX cx (h_lawQ cx) (f_Law_law_J1173 xs L rec_ v4 μ) k n 1173 [(0, .ref 144), (1, .ref 84), (2, .ref 125), (3, .ref 143), (4, .int v4)] [] μ := by
  unfold f_Law_law_J1173
  refine r_goto (tgt := 2517) hg d_Law_law_1173 (by decide) ?_
  exact t_Law_law_J2517 hg hT rec_ hrec_ v4 μ k n hkn
theorem t_Law_law_J1140 {cx : HCx} {xs : Nat → Int32} {L : Nat} (hg : HGood cx R_Law code 8 1000 (some .boolean)) (hT : HLaw cx xs L) {B_ : Nat} (rec_ : Int32 → HMem → Option (Unit × HMem)) (hrec_ : p_Law_law_23 cx B_ rec_) (v4 : Int32) (v5 : Int32) (s0 : Int32) (s1 : Int32) (s2 : Int32) (μ : HMem) (k n : Nat) (hkn : hB k n B_) : HX cx (h_lawQ cx) (f_Law_law_J1140 xs L rec_ v4 v5 s0 s1 s2 μ) k n 1140 [(0, .ref 144), (1, .ref 84), (2, .ref 125), (3, .ref 143), (4, .int v4), (5, .int v5)] [.int s0, .int s1, .int s2, .ref 125] μ := by
  unfold f_Law_law_J1140
  refine r_callV (As := [.int s2, .int s1, .int s0]) hg (t_Model_width s2 s1 s0 μ) v_Model_width c_Model rfl (by decide) rfl wm_Law_170 d_Law_law_1140 rfl ⟨by decide, by decide⟩ (Nat.le_of_ble_eq_true rfl) rfl (fun r1140 μ_1140 _ => ?_)
  refine r_istore (l' := [(6, .int r1140), (0, .ref 144), (1, .ref 84), (2, .ref 125), (3, .ref 143), (4, .int v4), (5, .int v5)]) hg d_Law_law_1143 (Nat.le_of_ble_eq_true rfl) rfl ?_
  refine r_aload_n hg 3 d_Law_law_1145 rfl rfl ?_
  refine r_callV (As := []) hg (t_Model_thrown  μ_1140) v_Model_thrown c_Model rfl (by decide) rfl wm_Law_132 d_Law_law_1146 rfl ⟨by decide, by decide⟩ (Nat.le_of_ble_eq_true rfl) rfl (fun r1146 μ_1146 _ => ?_)
  refine r_iload hg 6 d_Law_law_1149 rfl ?_
  refine r_icmp_eq (tgt := 1156) hg d_Law_law_1151 (by decide) ?_ ?_
  · refine r_iload hg 6 d_Law_law_1156 rfl ?_
    refine r_if_ne (tgt := 1173) hg d_Law_law_1158 (by decide) ?_ ?_
    · refine r_sub [1, 2, 3, 4, 5] rfl ?_
      exact t_Law_law_J1173 hg hT rec_ hrec_ v4 μ_1146 k n hkn
    · refine r_aload_n hg 4 d_Law_law_1161 rfl rfl ?_
      refine r_iconst (v := 0) hg d_Law_law_1162 (by decide) ?_
      refine r_lald hg (by decide) rfl d_Law_law_1163 ?_
      refine r_iload hg 0 d_Law_law_1164 rfl ?_
      refine r_i2l hg d_Law_law_1166 ?_
      refine r_lcmp hg d_Law_law_1167 ?_
      refine r_if_eq (tgt := 1173) hg d_Law_law_1168 (by decide) ?_ ?_
      · refine r_sub [1, 2, 3, 4, 5] rfl ?_
        exact t_Law_law_J1173 hg hT rec_ hrec_ v4 μ_1146 k n hkn
      · exact HX.none
  · exact HX.none
theorem t_Law_law_J1107 {cx : HCx} {xs : Nat → Int32} {L : Nat} (hg : HGood cx R_Law code 8 1000 (some .boolean)) (hT : HLaw cx xs L) {B_ : Nat} (rec_ : Int32 → HMem → Option (Unit × HMem)) (hrec_ : p_Law_law_23 cx B_ rec_) (v4 : Int32) (s0 : Int32) (s1 : Int32) (s2 : Int32) (μ : HMem) (k n : Nat) (hkn : hB k n (B_ + 16)) : HX cx (h_lawQ cx) (f_Law_law_J1107 xs L rec_ v4 s0 s1 s2 μ) k n 1107 [(0, .ref 144), (1, .ref 84), (2, .ref 125), (3, .ref 143), (4, .int v4)] [.int s0, .int s1, .int s2, .ref 84] μ := by
  unfold f_Law_law_J1107
  refine r_aload_n hg 3 d_Law_law_1107 rfl rfl ?_
  refine r_wcall (As := [.ref 84, .int s2, .int s1, .int s0, .ref 143]) hg hT (t_Law_width s2 s1 s0 μ) v_Law_width wm_Law_167 d_Law_law_1108 rfl ⟨by decide, by decide⟩ hkn (by decide) (Nat.le_of_ble_eq_true rfl) rfl (fun r1108 μ_1108 _ k1 n1 hkn1 => ?_)
  refine r_istore (l' := [(5, .int r1108), (0, .ref 144), (1, .ref 84), (2, .ref 125), (3, .ref 143), (4, .int v4)]) hg d_Law_law_1111 (Nat.le_of_ble_eq_true rfl) rfl ?_
  refine r_aload_n hg 3 d_Law_law_1113 rfl rfl ?_
  refine r_aload_n hg 1 d_Law_law_1114 rfl rfl ?_
  refine r_iload hg 5 d_Law_law_1115 rfl ?_
  refine r_iconst (v := 1) hg d_Law_law_1117 (by decide) ?_
  refine r_iadd hg d_Law_law_1118 ?_
  refine r_sld hg hT d_Law_law_1119 ?_
  refine r_aload_n hg 1 d_Law_law_1120 rfl rfl ?_
  refine r_iload hg 5 d_Law_law_1121 rfl ?_
  refine r_iconst (v := 2) hg d_Law_law_1123 (by decide) ?_
  refine r_iadd hg d_Law_law_1124 ?_
  refine r_sld hg hT d_Law_law_1125 ?_
  refine r_aload_n hg 1 d_Law_law_1126 rfl rfl ?_
  refine r_iload hg 5 d_Law_law_1127 rfl ?_
  refine r_iconst (v := 3) hg d_Law_law_1129 (by decide) ?_
  refine r_iadd hg d_Law_law_1130 ?_
  refine r_sld hg hT d_Law_law_1131 ?_
  refine r_if_eq (tgt := 1139) hg d_Law_law_1132 (by decide) ?_ ?_
  · refine r_iconst (v := 0) hg d_Law_law_1139 (by decide) ?_
    refine r_sub [1, 2, 3, 4, 5, 0] rfl ?_
    exact t_Law_law_J1140 hg hT rec_ hrec_ v4 r1108 0 (xs (Int32.toNatClampNeg (v4 + 2))) (xs (Int32.toNatClampNeg (v4 + 1))) μ_1108 k1 n1 hkn1
  · refine r_iconst (v := 1) hg d_Law_law_1135 (by decide) ?_
    refine r_goto (tgt := 1140) hg d_Law_law_1136 (by decide) ?_
    refine r_sub [1, 2, 3, 4, 5, 0] rfl ?_
    exact t_Law_law_J1140 hg hT rec_ hrec_ v4 r1108 1 (xs (Int32.toNatClampNeg (v4 + 2))) (xs (Int32.toNatClampNeg (v4 + 1))) μ_1108 k1 n1 hkn1
theorem t_Law_law_J1229 {cx : HCx} {xs : Nat → Int32} {L : Nat} (hg : HGood cx R_Law code 8 1000 (some .boolean)) (hT : HLaw cx xs L) {B_ : Nat} (rec_ : Int32 → HMem → Option (Unit × HMem)) (hrec_ : p_Law_law_23 cx B_ rec_) (v4 : Int32) (μ : HMem) (k n : Nat) (hkn : hB k n B_) : HX cx (h_lawQ cx) (f_Law_law_J1229 xs L rec_ v4 μ) k n 1229 [(0, .ref 144), (1, .ref 84), (2, .ref 125), (3, .ref 143), (4, .int v4)] [] μ := by
  unfold f_Law_law_J1229
  refine r_goto (tgt := 2517) hg d_Law_law_1229 (by decide) ?_
  exact t_Law_law_J2517 hg hT rec_ hrec_ v4 μ k n hkn
theorem t_Law_law_J1297 {cx : HCx} {xs : Nat → Int32} {L : Nat} (hg : HGood cx R_Law code 8 1000 (some .boolean)) (hT : HLaw cx xs L) {B_ : Nat} (rec_ : Int32 → HMem → Option (Unit × HMem)) (hrec_ : p_Law_law_23 cx B_ rec_) (v4 : Int32) (μ : HMem) (k n : Nat) (hkn : hB k n B_) : HX cx (h_lawQ cx) (f_Law_law_J1297 xs L rec_ v4 μ) k n 1297 [(0, .ref 144), (1, .ref 84), (2, .ref 125), (3, .ref 143), (4, .int v4)] [] μ := by
  unfold f_Law_law_J1297
  refine r_goto (tgt := 2517) hg d_Law_law_1297 (by decide) ?_
  exact t_Law_law_J2517 hg hT rec_ hrec_ v4 μ k n hkn
theorem t_Law_law_J1376 {cx : HCx} {xs : Nat → Int32} {L : Nat} (hg : HGood cx R_Law code 8 1000 (some .boolean)) (hT : HLaw cx xs L) {B_ : Nat} (rec_ : Int32 → HMem → Option (Unit × HMem)) (hrec_ : p_Law_law_23 cx B_ rec_) (v4 : Int32) (μ : HMem) (k n : Nat) (hkn : hB k n B_) : HX cx (h_lawQ cx) (f_Law_law_J1376 xs L rec_ v4 μ) k n 1376 [(0, .ref 144), (1, .ref 84), (2, .ref 125), (3, .ref 143), (4, .int v4)] [] μ := by
  unfold f_Law_law_J1376
  refine r_goto (tgt := 2517) hg d_Law_law_1376 (by decide) ?_
  exact t_Law_law_J2517 hg hT rec_ hrec_ v4 μ k n hkn
theorem t_Law_law_J1455 {cx : HCx} {xs : Nat → Int32} {L : Nat} (hg : HGood cx R_Law code 8 1000 (some .boolean)) (hT : HLaw cx xs L) {B_ : Nat} (rec_ : Int32 → HMem → Option (Unit × HMem)) (hrec_ : p_Law_law_23 cx B_ rec_) (v4 : Int32) (μ : HMem) (k n : Nat) (hkn : hB k n B_) : HX cx (h_lawQ cx) (f_Law_law_J1455 xs L rec_ v4 μ) k n 1455 [(0, .ref 144), (1, .ref 84), (2, .ref 125), (3, .ref 143), (4, .int v4)] [] μ := by
  unfold f_Law_law_J1455
  refine r_goto (tgt := 2517) hg d_Law_law_1455 (by decide) ?_
  exact t_Law_law_J2517 hg hT rec_ hrec_ v4 μ k n hkn
theorem t_Law_law_J1511 {cx : HCx} {xs : Nat → Int32} {L : Nat} (hg : HGood cx R_Law code 8 1000 (some .boolean)) (hT : HLaw cx xs L) {B_ : Nat} (rec_ : Int32 → HMem → Option (Unit × HMem)) (hrec_ : p_Law_law_23 cx B_ rec_) (v4 : Int32) (μ : HMem) (k n : Nat) (hkn : hB k n B_) : HX cx (h_lawQ cx) (f_Law_law_J1511 xs L rec_ v4 μ) k n 1511 [(0, .ref 144), (1, .ref 84), (2, .ref 125), (3, .ref 143), (4, .int v4)] [] μ := by
  unfold f_Law_law_J1511
  refine r_goto (tgt := 2517) hg d_Law_law_1511 (by decide) ?_
  exact t_Law_law_J2517 hg hT rec_ hrec_ v4 μ k n hkn
theorem t_Law_law_J1586 {cx : HCx} {xs : Nat → Int32} {L : Nat} (hg : HGood cx R_Law code 8 1000 (some .boolean)) (hT : HLaw cx xs L) {B_ : Nat} (rec_ : Int32 → HMem → Option (Unit × HMem)) (hrec_ : p_Law_law_23 cx B_ rec_) (v4 : Int32) (μ : HMem) (k n : Nat) (hkn : hB k n B_) : HX cx (h_lawQ cx) (f_Law_law_J1586 xs L rec_ v4 μ) k n 1586 [(0, .ref 144), (1, .ref 84), (2, .ref 125), (3, .ref 143), (4, .int v4)] [] μ := by
  unfold f_Law_law_J1586
  refine r_goto (tgt := 2517) hg d_Law_law_1586 (by decide) ?_
  exact t_Law_law_J2517 hg hT rec_ hrec_ v4 μ k n hkn
theorem t_Law_law_J1580 {cx : HCx} {xs : Nat → Int32} {L : Nat} (hg : HGood cx R_Law code 8 1000 (some .boolean)) (hT : HLaw cx xs L) {B_ : Nat} (rec_ : Int32 → HMem → Option (Unit × HMem)) (hrec_ : p_Law_law_23 cx B_ rec_) (v4 : Int32) (s0 : Int64) (s1 : Int64) (μ : HMem) (k n : Nat) (hkn : hB k n B_) : HX cx (h_lawQ cx) (f_Law_law_J1580 xs L rec_ v4 s0 s1 μ) k n 1580 [(0, .ref 144), (1, .ref 84), (2, .ref 125), (3, .ref 143), (4, .int v4)] [.long s0, .long s1] μ := by
  unfold f_Law_law_J1580
  refine r_lcmp hg d_Law_law_1580 ?_
  refine r_if_eq (tgt := 1586) hg d_Law_law_1581 (by decide) ?_ ?_
  · exact t_Law_law_J1586 hg hT rec_ hrec_ v4 μ k n hkn
  · exact HX.none
theorem t_Law_law_J1666 {cx : HCx} {xs : Nat → Int32} {L : Nat} (hg : HGood cx R_Law code 8 1000 (some .boolean)) (hT : HLaw cx xs L) {B_ : Nat} (rec_ : Int32 → HMem → Option (Unit × HMem)) (hrec_ : p_Law_law_23 cx B_ rec_) (v4 : Int32) (μ : HMem) (k n : Nat) (hkn : hB k n B_) : HX cx (h_lawQ cx) (f_Law_law_J1666 xs L rec_ v4 μ) k n 1666 [(0, .ref 144), (1, .ref 84), (2, .ref 125), (3, .ref 143), (4, .int v4)] [] μ := by
  unfold f_Law_law_J1666
  refine r_goto (tgt := 2517) hg d_Law_law_1666 (by decide) ?_
  exact t_Law_law_J2517 hg hT rec_ hrec_ v4 μ k n hkn
theorem t_Law_law_J1734 {cx : HCx} {xs : Nat → Int32} {L : Nat} (hg : HGood cx R_Law code 8 1000 (some .boolean)) (hT : HLaw cx xs L) {B_ : Nat} (rec_ : Int32 → HMem → Option (Unit × HMem)) (hrec_ : p_Law_law_23 cx B_ rec_) (v4 : Int32) (μ : HMem) (k n : Nat) (hkn : hB k n B_) : HX cx (h_lawQ cx) (f_Law_law_J1734 xs L rec_ v4 μ) k n 1734 [(0, .ref 144), (1, .ref 84), (2, .ref 125), (3, .ref 143), (4, .int v4)] [] μ := by
  unfold f_Law_law_J1734
  refine r_goto (tgt := 2517) hg d_Law_law_1734 (by decide) ?_
  exact t_Law_law_J2517 hg hT rec_ hrec_ v4 μ k n hkn
theorem t_Law_law_J1801 {cx : HCx} {xs : Nat → Int32} {L : Nat} (hg : HGood cx R_Law code 8 1000 (some .boolean)) (hT : HLaw cx xs L) {B_ : Nat} (rec_ : Int32 → HMem → Option (Unit × HMem)) (hrec_ : p_Law_law_23 cx B_ rec_) (v4 : Int32) (μ : HMem) (k n : Nat) (hkn : hB k n B_) : HX cx (h_lawQ cx) (f_Law_law_J1801 xs L rec_ v4 μ) k n 1801 [(0, .ref 144), (1, .ref 84), (2, .ref 125), (3, .ref 143), (4, .int v4)] [] μ := by
  unfold f_Law_law_J1801
  refine r_goto (tgt := 2517) hg d_Law_law_1801 (by decide) ?_
  exact t_Law_law_J2517 hg hT rec_ hrec_ v4 μ k n hkn
theorem t_Law_law_J1857 {cx : HCx} {xs : Nat → Int32} {L : Nat} (hg : HGood cx R_Law code 8 1000 (some .boolean)) (hT : HLaw cx xs L) {B_ : Nat} (rec_ : Int32 → HMem → Option (Unit × HMem)) (hrec_ : p_Law_law_23 cx B_ rec_) (v4 : Int32) (μ : HMem) (k n : Nat) (hkn : hB k n B_) : HX cx (h_lawQ cx) (f_Law_law_J1857 xs L rec_ v4 μ) k n 1857 [(0, .ref 144), (1, .ref 84), (2, .ref 125), (3, .ref 143), (4, .int v4)] [] μ := by
  unfold f_Law_law_J1857
  refine r_goto (tgt := 2517) hg d_Law_law_1857 (by decide) ?_
  exact t_Law_law_J2517 hg hT rec_ hrec_ v4 μ k n hkn
theorem t_Law_law_J1925 {cx : HCx} {xs : Nat → Int32} {L : Nat} (hg : HGood cx R_Law code 8 1000 (some .boolean)) (hT : HLaw cx xs L) {B_ : Nat} (rec_ : Int32 → HMem → Option (Unit × HMem)) (hrec_ : p_Law_law_23 cx B_ rec_) (v4 : Int32) (μ : HMem) (k n : Nat) (hkn : hB k n B_) : HX cx (h_lawQ cx) (f_Law_law_J1925 xs L rec_ v4 μ) k n 1925 [(0, .ref 144), (1, .ref 84), (2, .ref 125), (3, .ref 143), (4, .int v4)] [] μ := by
  unfold f_Law_law_J1925
  refine r_goto (tgt := 2517) hg d_Law_law_1925 (by decide) ?_
  exact t_Law_law_J2517 hg hT rec_ hrec_ v4 μ k n hkn
theorem t_Law_law_J2020 {cx : HCx} {xs : Nat → Int32} {L : Nat} (hg : HGood cx R_Law code 8 1000 (some .boolean)) (hT : HLaw cx xs L) {B_ : Nat} (rec_ : Int32 → HMem → Option (Unit × HMem)) (hrec_ : p_Law_law_23 cx B_ rec_) (v4 : Int32) (μ : HMem) (k n : Nat) (hkn : hB k n B_) : HX cx (h_lawQ cx) (f_Law_law_J2020 xs L rec_ v4 μ) k n 2020 [(0, .ref 144), (1, .ref 84), (2, .ref 125), (3, .ref 143), (4, .int v4)] [] μ := by
  unfold f_Law_law_J2020
  refine r_goto (tgt := 2517) hg d_Law_law_2020 (by decide) ?_
  exact t_Law_law_J2517 hg hT rec_ hrec_ v4 μ k n hkn
theorem t_Law_law_J1988 {cx : HCx} {xs : Nat → Int32} {L : Nat} (hg : HGood cx R_Law code 8 1000 (some .boolean)) (hT : HLaw cx xs L) {B_ : Nat} (rec_ : Int32 → HMem → Option (Unit × HMem)) (hrec_ : p_Law_law_23 cx B_ rec_) (v4 : Int32) (v5 : Int32) (s0 : Int32) (s1 : Int32) (s2 : Int32) (μ : HMem) (k n : Nat) (hkn : hB k n B_) : HX cx (h_lawQ cx) (f_Law_law_J1988 xs L rec_ v4 v5 s0 s1 s2 μ) k n 1988 [(0, .ref 144), (1, .ref 84), (2, .ref 125), (3, .ref 143), (4, .int v4), (5, .int v5)] [.int s0, .int s1, .int s2, .ref 125] μ := by
  unfold f_Law_law_J1988
  refine r_callV (As := [.int s2, .int s1, .int s0]) hg (t_Model_walks s2 s1 s0 μ) v_Model_walks c_Model rfl (by decide) rfl wm_Law_207 d_Law_law_1988 rfl ⟨by decide, by decide⟩ (Nat.le_of_ble_eq_true rfl) rfl (fun r1988 μ_1988 _ => ?_)
  refine r_lstore (l' := [(6, .long r1988), (0, .ref 144), (1, .ref 84), (2, .ref 125), (3, .ref 143), (4, .int v4), (5, .int v5)]) hg d_Law_law_1991 (Nat.le_of_ble_eq_true rfl) rfl ?_
  refine r_aload_n hg 3 d_Law_law_1993 rfl rfl ?_
  refine r_callV (As := []) hg (t_Model_thrown  μ_1988) v_Model_thrown c_Model rfl (by decide) rfl wm_Law_132 d_Law_law_1994 rfl ⟨by decide, by decide⟩ (Nat.le_of_ble_eq_true rfl) rfl (fun r1994 μ_1994 _ => ?_)
  refine r_iload hg 6 d_Law_law_1997 rfl ?_
  refine r_icmp_eq (tgt := 2004) hg d_Law_law_1999 (by decide) ?_ ?_
  · refine r_iload hg 6 d_Law_law_2004 rfl ?_
    refine r_if_ne (tgt := 2020) hg d_Law_law_2006 (by decide) ?_ ?_
    · refine r_sub [1, 2, 3, 4, 5] rfl ?_
      exact t_Law_law_J2020 hg hT rec_ hrec_ v4 μ_1994 k n hkn
    · refine r_aload_n hg 4 d_Law_law_2009 rfl rfl ?_
      refine r_iconst (v := 0) hg d_Law_law_2010 (by decide) ?_
      refine r_lald hg (by decide) rfl d_Law_law_2011 ?_
      refine r_lload hg 0 d_Law_law_2012 rfl ?_
      refine r_lcmp hg d_Law_law_2014 ?_
      refine r_if_eq (tgt := 2020) hg d_Law_law_2015 (by decide) ?_ ?_
      · refine r_sub [1, 2, 3, 4, 5] rfl ?_
        exact t_Law_law_J2020 hg hT rec_ hrec_ v4 μ_1994 k n hkn
      · exact HX.none
  · exact HX.none
theorem t_Law_law_J1955 {cx : HCx} {xs : Nat → Int32} {L : Nat} (hg : HGood cx R_Law code 8 1000 (some .boolean)) (hT : HLaw cx xs L) {B_ : Nat} (rec_ : Int32 → HMem → Option (Unit × HMem)) (hrec_ : p_Law_law_23 cx B_ rec_) (v4 : Int32) (s0 : Int32) (s1 : Int32) (s2 : Int32) (μ : HMem) (k n : Nat) (hkn : hB k n (B_ + 16)) : HX cx (h_lawQ cx) (f_Law_law_J1955 xs L rec_ v4 s0 s1 s2 μ) k n 1955 [(0, .ref 144), (1, .ref 84), (2, .ref 125), (3, .ref 143), (4, .int v4)] [.int s0, .int s1, .int s2, .ref 84] μ := by
  unfold f_Law_law_J1955
  refine r_aload_n hg 3 d_Law_law_1955 rfl rfl ?_
  refine r_wcall (As := [.ref 84, .int s2, .int s1, .int s0, .ref 143]) hg hT (t_Law_walks s2 s1 s0 μ) v_Law_walks wm_Law_205 d_Law_law_1956 rfl ⟨by decide, by decide⟩ hkn (by decide) (Nat.le_of_ble_eq_true rfl) rfl (fun r1956 μ_1956 _ k1 n1 hkn1 => ?_)
  refine r_istore (l' := [(5, .int r1956), (0, .ref 144), (1, .ref 84), (2, .ref 125), (3, .ref 143), (4, .int v4)]) hg d_Law_law_1959 (Nat.le_of_ble_eq_true rfl) rfl ?_
  refine r_aload_n hg 3 d_Law_law_1961 rfl rfl ?_
  refine r_aload_n hg 1 d_Law_law_1962 rfl rfl ?_
  refine r_iload hg 5 d_Law_law_1963 rfl ?_
  refine r_iconst (v := 1) hg d_Law_law_1965 (by decide) ?_
  refine r_iadd hg d_Law_law_1966 ?_
  refine r_sld hg hT d_Law_law_1967 ?_
  refine r_aload_n hg 1 d_Law_law_1968 rfl rfl ?_
  refine r_iload hg 5 d_Law_law_1969 rfl ?_
  refine r_iconst (v := 2) hg d_Law_law_1971 (by decide) ?_
  refine r_iadd hg d_Law_law_1972 ?_
  refine r_sld hg hT d_Law_law_1973 ?_
  refine r_aload_n hg 1 d_Law_law_1974 rfl rfl ?_
  refine r_iload hg 5 d_Law_law_1975 rfl ?_
  refine r_iconst (v := 3) hg d_Law_law_1977 (by decide) ?_
  refine r_iadd hg d_Law_law_1978 ?_
  refine r_sld hg hT d_Law_law_1979 ?_
  refine r_if_eq (tgt := 1987) hg d_Law_law_1980 (by decide) ?_ ?_
  · refine r_iconst (v := 0) hg d_Law_law_1987 (by decide) ?_
    refine r_sub [1, 2, 3, 4, 5, 0] rfl ?_
    exact t_Law_law_J1988 hg hT rec_ hrec_ v4 r1956 0 (xs (Int32.toNatClampNeg (v4 + 2))) (xs (Int32.toNatClampNeg (v4 + 1))) μ_1956 k1 n1 hkn1
  · refine r_iconst (v := 1) hg d_Law_law_1983 (by decide) ?_
    refine r_goto (tgt := 1988) hg d_Law_law_1984 (by decide) ?_
    refine r_sub [1, 2, 3, 4, 5, 0] rfl ?_
    exact t_Law_law_J1988 hg hT rec_ hrec_ v4 r1956 1 (xs (Int32.toNatClampNeg (v4 + 2))) (xs (Int32.toNatClampNeg (v4 + 1))) μ_1956 k1 n1 hkn1
theorem t_Law_law_J2088 {cx : HCx} {xs : Nat → Int32} {L : Nat} (hg : HGood cx R_Law code 8 1000 (some .boolean)) (hT : HLaw cx xs L) {B_ : Nat} (rec_ : Int32 → HMem → Option (Unit × HMem)) (hrec_ : p_Law_law_23 cx B_ rec_) (v4 : Int32) (μ : HMem) (k n : Nat) (hkn : hB k n B_) : HX cx (h_lawQ cx) (f_Law_law_J2088 xs L rec_ v4 μ) k n 2088 [(0, .ref 144), (1, .ref 84), (2, .ref 125), (3, .ref 143), (4, .int v4)] [] μ := by
  unfold f_Law_law_J2088
  refine r_goto (tgt := 2517) hg d_Law_law_2088 (by decide) ?_
  exact t_Law_law_J2517 hg hT rec_ hrec_ v4 μ k n hkn
theorem t_Law_law_J2144 {cx : HCx} {xs : Nat → Int32} {L : Nat} (hg : HGood cx R_Law code 8 1000 (some .boolean)) (hT : HLaw cx xs L) {B_ : Nat} (rec_ : Int32 → HMem → Option (Unit × HMem)) (hrec_ : p_Law_law_23 cx B_ rec_) (v4 : Int32) (μ : HMem) (k n : Nat) (hkn : hB k n B_) : HX cx (h_lawQ cx) (f_Law_law_J2144 xs L rec_ v4 μ) k n 2144 [(0, .ref 144), (1, .ref 84), (2, .ref 125), (3, .ref 143), (4, .int v4)] [] μ := by
  unfold f_Law_law_J2144
  refine r_goto (tgt := 2517) hg d_Law_law_2144 (by decide) ?_
  exact t_Law_law_J2517 hg hT rec_ hrec_ v4 μ k n hkn
theorem t_Law_law_J2207 {cx : HCx} {xs : Nat → Int32} {L : Nat} (hg : HGood cx R_Law code 8 1000 (some .boolean)) (hT : HLaw cx xs L) {B_ : Nat} (rec_ : Int32 → HMem → Option (Unit × HMem)) (hrec_ : p_Law_law_23 cx B_ rec_) (v4 : Int32) (μ : HMem) (k n : Nat) (hkn : hB k n B_) : HX cx (h_lawQ cx) (f_Law_law_J2207 xs L rec_ v4 μ) k n 2207 [(0, .ref 144), (1, .ref 84), (2, .ref 125), (3, .ref 143), (4, .int v4)] [] μ := by
  unfold f_Law_law_J2207
  refine r_goto (tgt := 2517) hg d_Law_law_2207 (by decide) ?_
  exact t_Law_law_J2517 hg hT rec_ hrec_ v4 μ k n hkn
theorem t_Law_law_J2201 {cx : HCx} {xs : Nat → Int32} {L : Nat} (hg : HGood cx R_Law code 8 1000 (some .boolean)) (hT : HLaw cx xs L) {B_ : Nat} (rec_ : Int32 → HMem → Option (Unit × HMem)) (hrec_ : p_Law_law_23 cx B_ rec_) (v4 : Int32) (s0 : Int64) (s1 : Int64) (μ : HMem) (k n : Nat) (hkn : hB k n B_) : HX cx (h_lawQ cx) (f_Law_law_J2201 xs L rec_ v4 s0 s1 μ) k n 2201 [(0, .ref 144), (1, .ref 84), (2, .ref 125), (3, .ref 143), (4, .int v4)] [.long s0, .long s1] μ := by
  unfold f_Law_law_J2201
  refine r_lcmp hg d_Law_law_2201 ?_
  refine r_if_eq (tgt := 2207) hg d_Law_law_2202 (by decide) ?_ ?_
  · exact t_Law_law_J2207 hg hT rec_ hrec_ v4 μ k n hkn
  · exact HX.none
theorem t_Law_law_J2263 {cx : HCx} {xs : Nat → Int32} {L : Nat} (hg : HGood cx R_Law code 8 1000 (some .boolean)) (hT : HLaw cx xs L) {B_ : Nat} (rec_ : Int32 → HMem → Option (Unit × HMem)) (hrec_ : p_Law_law_23 cx B_ rec_) (v4 : Int32) (μ : HMem) (k n : Nat) (hkn : hB k n B_) : HX cx (h_lawQ cx) (f_Law_law_J2263 xs L rec_ v4 μ) k n 2263 [(0, .ref 144), (1, .ref 84), (2, .ref 125), (3, .ref 143), (4, .int v4)] [] μ := by
  unfold f_Law_law_J2263
  refine r_goto (tgt := 2517) hg d_Law_law_2263 (by decide) ?_
  exact t_Law_law_J2517 hg hT rec_ hrec_ v4 μ k n hkn
theorem t_Law_law_J2319 {cx : HCx} {xs : Nat → Int32} {L : Nat} (hg : HGood cx R_Law code 8 1000 (some .boolean)) (hT : HLaw cx xs L) {B_ : Nat} (rec_ : Int32 → HMem → Option (Unit × HMem)) (hrec_ : p_Law_law_23 cx B_ rec_) (v4 : Int32) (μ : HMem) (k n : Nat) (hkn : hB k n B_) : HX cx (h_lawQ cx) (f_Law_law_J2319 xs L rec_ v4 μ) k n 2319 [(0, .ref 144), (1, .ref 84), (2, .ref 125), (3, .ref 143), (4, .int v4)] [] μ := by
  unfold f_Law_law_J2319
  refine r_goto (tgt := 2517) hg d_Law_law_2319 (by decide) ?_
  exact t_Law_law_J2517 hg hT rec_ hrec_ v4 μ k n hkn
theorem t_Law_law_J2388 {cx : HCx} {xs : Nat → Int32} {L : Nat} (hg : HGood cx R_Law code 8 1000 (some .boolean)) (hT : HLaw cx xs L) {B_ : Nat} (rec_ : Int32 → HMem → Option (Unit × HMem)) (hrec_ : p_Law_law_23 cx B_ rec_) (v4 : Int32) (μ : HMem) (k n : Nat) (hkn : hB k n B_) : HX cx (h_lawQ cx) (f_Law_law_J2388 xs L rec_ v4 μ) k n 2388 [(0, .ref 144), (1, .ref 84), (2, .ref 125), (3, .ref 143), (4, .int v4)] [] μ := by
  unfold f_Law_law_J2388
  refine r_goto (tgt := 2517) hg d_Law_law_2388 (by decide) ?_
  exact t_Law_law_J2517 hg hT rec_ hrec_ v4 μ k n hkn
theorem t_Law_law_J2456 {cx : HCx} {xs : Nat → Int32} {L : Nat} (hg : HGood cx R_Law code 8 1000 (some .boolean)) (hT : HLaw cx xs L) {B_ : Nat} (rec_ : Int32 → HMem → Option (Unit × HMem)) (hrec_ : p_Law_law_23 cx B_ rec_) (v4 : Int32) (μ : HMem) (k n : Nat) (hkn : hB k n B_) : HX cx (h_lawQ cx) (f_Law_law_J2456 xs L rec_ v4 μ) k n 2456 [(0, .ref 144), (1, .ref 84), (2, .ref 125), (3, .ref 143), (4, .int v4)] [] μ := by
  unfold f_Law_law_J2456
  refine r_goto (tgt := 2517) hg d_Law_law_2456 (by decide) ?_
  exact t_Law_law_J2517 hg hT rec_ hrec_ v4 μ k n hkn
theorem t_Law_law_J2500 {cx : HCx} {xs : Nat → Int32} {L : Nat} (hg : HGood cx R_Law code 8 1000 (some .boolean)) (hT : HLaw cx xs L) {B_ : Nat} (rec_ : Int32 → HMem → Option (Unit × HMem)) (hrec_ : p_Law_law_23 cx B_ rec_) (v4 : Int32) (μ : HMem) (k n : Nat) (hkn : hB k n B_) : HX cx (h_lawQ cx) (f_Law_law_J2500 xs L rec_ v4 μ) k n 2500 [(0, .ref 144), (1, .ref 84), (2, .ref 125), (3, .ref 143), (4, .int v4)] [] μ := by
  unfold f_Law_law_J2500
  refine r_goto (tgt := 2517) hg d_Law_law_2500 (by decide) ?_
  exact t_Law_law_J2517 hg hT rec_ hrec_ v4 μ k n hkn
theorem t_Law_law_L23_b {cx : HCx} {xs : Nat → Int32} {L : Nat} (hg : HGood cx R_Law code 8 1000 (some .boolean)) (hT : HLaw cx xs L) {B_ : Nat} (rec_ : Int32 → HMem → Option (Unit × HMem)) (hrec_ : p_Law_law_23 cx B_ rec_) (v4 : Int32) (μ : HMem) (k n : Nat) (hkn : hB k n (B_ + 16)) : HX cx (h_lawQ cx) (f_Law_law_L23_b xs L rec_ v4 μ) k n 23 [(0, .ref 144), (1, .ref 84), (2, .ref 125), (3, .ref 143), (4, .int v4)] [] μ := by
  unfold f_Law_law_L23_b
  refine r_iload hg 4 d_Law_law_23 rfl ?_
  refine r_aload_n hg 0 d_Law_law_25 rfl rfl ?_
  refine r_slen hg hT d_Law_law_26 ?_
  refine r_iconst (v := 5) hg d_Law_law_27 (by decide) ?_
  refine r_isub hg d_Law_law_28 ?_
  refine r_icmp_gt (tgt := 2523) hg d_Law_law_29 (by decide) ?_ ?_
  · refine r_iconst (v := 1) hg d_Law_law_2523 (by decide) ?_
    exact r_lawret (k0 := 0) (n0 := 0) hg hT hkn rfl rfl d_Law_law_2524
  · refine r_aload_n hg 0 d_Law_law_32 rfl rfl ?_
    refine r_iload hg 4 d_Law_law_33 rfl ?_
    refine r_sld hg hT d_Law_law_35 ?_
    refine r_bipush (v := 63) hg d_Law_law_36 (by decide) ?_
    refine r_iand hg d_Law_law_38 ?_
    refine h_ite (fun hs_ => ?_) (fun hs_ => ?_)
    · refine r_tswOut (tgt := 2517) hg d_Law_law_39 hs_ (by decide) ?_
      exact t_Law_law_J2517 hg hT rec_ hrec_ v4 μ k n (hkn).less
    refine h_ite (fun he_ => ?_) (fun _ => ?_)
    · refine r_tswIn (tgt := 188) (y := 0) (off := 149) hg d_Law_law_39 he_ (by decide) (by decide) (by decide) (by decide) ?_
      refine r_aload_n hg 1 d_Law_law_188 rfl rfl ?_
      refine r_aload_n hg 0 d_Law_law_189 rfl rfl ?_
      refine r_iload hg 4 d_Law_law_190 rfl ?_
      refine r_iconst (v := 1) hg d_Law_law_192 (by decide) ?_
      refine r_iadd hg d_Law_law_193 ?_
      refine r_sld hg hT d_Law_law_194 ?_
      refine r_aload_n hg 0 d_Law_law_195 rfl rfl ?_
      refine r_iload hg 4 d_Law_law_196 rfl ?_
      refine r_iconst (v := 2) hg d_Law_law_198 (by decide) ?_
      refine r_iadd hg d_Law_law_199 ?_
      refine r_sld hg hT d_Law_law_200 ?_
      refine r_aload_n hg 3 d_Law_law_201 rfl rfl ?_
      refine r_wcall (As := [.ref 84, .int (xs (Int32.toNatClampNeg (v4 + 1))), .int (xs (Int32.toNatClampNeg (v4 + 2))), .ref 143]) hg hT (t_Law_setSize (xs (Int32.toNatClampNeg (v4 + 1))) (xs (Int32.toNatClampNeg (v4 + 2))) μ) v_Law_setSize wm_Law_126 d_Law_law_202 rfl ⟨by decide, by decide⟩ hkn (by decide) (Nat.le_of_ble_eq_true rfl) rfl (fun r202 μ_202 _ k1 n1 hkn1 => ?_)
      refine r_istore (l' := [(5, .int r202), (0, .ref 144), (1, .ref 84), (2, .ref 125), (3, .ref 143), (4, .int v4)]) hg d_Law_law_205 (Nat.le_of_ble_eq_true rfl) rfl ?_
      refine r_aload_n hg 3 d_Law_law_207 rfl rfl ?_
      refine r_aload_n hg 1 d_Law_law_208 rfl rfl ?_
      refine r_iload hg 5 d_Law_law_209 rfl ?_
      refine r_iconst (v := 1) hg d_Law_law_211 (by decide) ?_
      refine r_iadd hg d_Law_law_212 ?_
      refine r_sld hg hT d_Law_law_213 ?_
      refine r_aload_n hg 1 d_Law_law_214 rfl rfl ?_
      refine r_iload hg 5 d_Law_law_215 rfl ?_
      refine r_iconst (v := 2) hg d_Law_law_217 (by decide) ?_
      refine r_iadd hg d_Law_law_218 ?_
      refine r_sld hg hT d_Law_law_219 ?_
      refine r_callV (As := [.int (xs (Int32.toNatClampNeg (v4 + 1))), .int (xs (Int32.toNatClampNeg (v4 + 2)))]) hg (t_Model_setSize (xs (Int32.toNatClampNeg (v4 + 1))) (xs (Int32.toNatClampNeg (v4 + 2))) μ_202) v_Model_setSize c_Model rfl (by decide) rfl wm_Law_131 d_Law_law_220 rfl ⟨by decide, by decide⟩ (Nat.le_of_ble_eq_true rfl) rfl (fun r220 μ_220 _ => ?_)
      refine r_istore (l' := [(6, .int r220), (5, .int r202), (0, .ref 144), (1, .ref 84), (2, .ref 125), (3, .ref 143), (4, .int v4)]) hg d_Law_law_223 (Nat.le_of_ble_eq_true rfl) rfl ?_
      refine r_aload_n hg 4 d_Law_law_225 rfl rfl ?_
      refine r_callV (As := []) hg (t_Model_thrown  μ_220) v_Model_thrown c_Model rfl (by decide) rfl wm_Law_132 d_Law_law_226 rfl ⟨by decide, by decide⟩ (Nat.le_of_ble_eq_true rfl) rfl (fun r226 μ_226 _ => ?_)
      refine r_iload hg 1 d_Law_law_229 rfl ?_
      refine r_icmp_eq (tgt := 236) hg d_Law_law_231 (by decide) ?_ ?_
      · refine r_iload hg 1 d_Law_law_236 rfl ?_
        refine r_if_ne (tgt := 253) hg d_Law_law_238 (by decide) ?_ ?_
        · refine r_sub [2, 3, 4, 5, 6] rfl ?_
          exact t_Law_law_J253 hg hT rec_ hrec_ v4 μ_226 k1 n1 hkn1
        · refine r_aload_n hg 5 d_Law_law_241 rfl rfl ?_
          refine r_iconst (v := 0) hg d_Law_law_242 (by decide) ?_
          refine r_lald hg (by decide) rfl d_Law_law_243 ?_
          refine r_iload hg 0 d_Law_law_244 rfl ?_
          refine r_i2l hg d_Law_law_246 ?_
          refine r_lcmp hg d_Law_law_247 ?_
          refine r_if_eq (tgt := 253) hg d_Law_law_248 (by decide) ?_ ?_
          · refine r_sub [2, 3, 4, 5, 6] rfl ?_
            exact t_Law_law_J253 hg hT rec_ hrec_ v4 μ_226 k1 n1 hkn1
          · exact HX.none
      · exact HX.none
    refine h_ite (fun he_ => ?_) (fun _ => ?_)
    · refine r_tswIn (tgt := 256) (y := 1) (off := 217) hg d_Law_law_39 he_ (by decide) (by decide) (by decide) (by decide) ?_
      refine r_aload_n hg 1 d_Law_law_256 rfl rfl ?_
      refine r_aload_n hg 0 d_Law_law_257 rfl rfl ?_
      refine r_iload hg 4 d_Law_law_258 rfl ?_
      refine r_iconst (v := 1) hg d_Law_law_260 (by decide) ?_
      refine r_iadd hg d_Law_law_261 ?_
      refine r_sld hg hT d_Law_law_262 ?_
      refine r_aload_n hg 0 d_Law_law_263 rfl rfl ?_
      refine r_iload hg 4 d_Law_law_264 rfl ?_
      refine r_iconst (v := 2) hg d_Law_law_266 (by decide) ?_
      refine r_iadd hg d_Law_law_267 ?_
      refine r_sld hg hT d_Law_law_268 ?_
      refine r_aload_n hg 0 d_Law_law_269 rfl rfl ?_
      refine r_iload hg 4 d_Law_law_270 rfl ?_
      refine r_iconst (v := 3) hg d_Law_law_272 (by decide) ?_
      refine r_iadd hg d_Law_law_273 ?_
      refine r_sld hg hT d_Law_law_274 ?_
      refine r_aload_n hg 3 d_Law_law_275 rfl rfl ?_
      refine r_wcall (As := [.ref 84, .int (xs (Int32.toNatClampNeg (v4 + 1))), .int (xs (Int32.toNatClampNeg (v4 + 2))), .int (xs (Int32.toNatClampNeg (v4 + 3))), .ref 143]) hg hT (t_Law_setVertex (xs (Int32.toNatClampNeg (v4 + 1))) (xs (Int32.toNatClampNeg (v4 + 2))) (xs (Int32.toNatClampNeg (v4 + 3))) μ) v_Law_setVertex wm_Law_135 d_Law_law_276 rfl ⟨by decide, by decide⟩ hkn (by decide) (Nat.le_of_ble_eq_true rfl) rfl (fun r276 μ_276 _ k1 n1 hkn1 => ?_)
      refine r_istore (l' := [(5, .int r276), (0, .ref 144), (1, .ref 84), (2, .ref 125), (3, .ref 143), (4, .int v4)]) hg d_Law_law_279 (Nat.le_of_ble_eq_true rfl) rfl ?_
      refine r_aload_n hg 3 d_Law_law_281 rfl rfl ?_
      refine r_aload_n hg 1 d_Law_law_282 rfl rfl ?_
      refine r_iload hg 5 d_Law_law_283 rfl ?_
      refine r_iconst (v := 1) hg d_Law_law_285 (by decide) ?_
      refine r_iadd hg d_Law_law_286 ?_
      refine r_sld hg hT d_Law_law_287 ?_
      refine r_aload_n hg 1 d_Law_law_288 rfl rfl ?_
      refine r_iload hg 5 d_Law_law_289 rfl ?_
      refine r_iconst (v := 2) hg d_Law_law_291 (by decide) ?_
      refine r_iadd hg d_Law_law_292 ?_
      refine r_sld hg hT d_Law_law_293 ?_
      refine r_aload_n hg 1 d_Law_law_294 rfl rfl ?_
      refine r_iload hg 5 d_Law_law_295 rfl ?_
      refine r_iconst (v := 3) hg d_Law_law_297 (by decide) ?_
      refine r_iadd hg d_Law_law_298 ?_
      refine r_sld hg hT d_Law_law_299 ?_
      refine r_callV (As := [.int (xs (Int32.toNatClampNeg (v4 + 1))), .int (xs (Int32.toNatClampNeg (v4 + 2))), .int (xs (Int32.toNatClampNeg (v4 + 3)))]) hg (t_Model_setVertex (xs (Int32.toNatClampNeg (v4 + 1))) (xs (Int32.toNatClampNeg (v4 + 2))) (xs (Int32.toNatClampNeg (v4 + 3))) μ_276) v_Model_setVertex c_Model rfl (by decide) rfl wm_Law_138 d_Law_law_300 rfl ⟨by decide, by decide⟩ (Nat.le_of_ble_eq_true rfl) rfl (fun r300 μ_300 _ => ?_)
      refine r_istore (l' := [(6, .int r300), (5, .int r276), (0, .ref 144), (1, .ref 84), (2, .ref 125), (3, .ref 143), (4, .int v4)]) hg d_Law_law_303 (Nat.le_of_ble_eq_true rfl) rfl ?_
      refine r_aload_n hg 4 d_Law_law_305 rfl rfl ?_
      refine r_callV (As := []) hg (t_Model_thrown  μ_300) v_Model_thrown c_Model rfl (by decide) rfl wm_Law_132 d_Law_law_306 rfl ⟨by decide, by decide⟩ (Nat.le_of_ble_eq_true rfl) rfl (fun r306 μ_306 _ => ?_)
      refine r_iload hg 1 d_Law_law_309 rfl ?_
      refine r_icmp_eq (tgt := 316) hg d_Law_law_311 (by decide) ?_ ?_
      · refine r_iload hg 1 d_Law_law_316 rfl ?_
        refine r_if_ne (tgt := 333) hg d_Law_law_318 (by decide) ?_ ?_
        · refine r_sub [2, 3, 4, 5, 6] rfl ?_
          exact t_Law_law_J333 hg hT rec_ hrec_ v4 μ_306 k1 n1 hkn1
        · refine r_aload_n hg 5 d_Law_law_321 rfl rfl ?_
          refine r_iconst (v := 0) hg d_Law_law_322 (by decide) ?_
          refine r_lald hg (by decide) rfl d_Law_law_323 ?_
          refine r_iload hg 0 d_Law_law_324 rfl ?_
          refine r_i2l hg d_Law_law_326 ?_
          refine r_lcmp hg d_Law_law_327 ?_
          refine r_if_eq (tgt := 333) hg d_Law_law_328 (by decide) ?_ ?_
          · refine r_sub [2, 3, 4, 5, 6] rfl ?_
            exact t_Law_law_J333 hg hT rec_ hrec_ v4 μ_306 k1 n1 hkn1
          · exact HX.none
      · exact HX.none
    refine h_ite (fun he_ => ?_) (fun _ => ?_)
    · refine r_tswIn (tgt := 336) (y := 2) (off := 297) hg d_Law_law_39 he_ (by decide) (by decide) (by decide) (by decide) ?_
      refine r_aload_n hg 1 d_Law_law_336 rfl rfl ?_
      refine r_aload_n hg 0 d_Law_law_337 rfl rfl ?_
      refine r_iload hg 4 d_Law_law_338 rfl ?_
      refine r_iconst (v := 1) hg d_Law_law_340 (by decide) ?_
      refine r_iadd hg d_Law_law_341 ?_
      refine r_sld hg hT d_Law_law_342 ?_
      refine r_aload_n hg 0 d_Law_law_343 rfl rfl ?_
      refine r_iload hg 4 d_Law_law_344 rfl ?_
      refine r_iconst (v := 2) hg d_Law_law_346 (by decide) ?_
      refine r_iadd hg d_Law_law_347 ?_
      refine r_sld hg hT d_Law_law_348 ?_
      refine r_aload_n hg 0 d_Law_law_349 rfl rfl ?_
      refine r_iload hg 4 d_Law_law_350 rfl ?_
      refine r_iconst (v := 3) hg d_Law_law_352 (by decide) ?_
      refine r_iadd hg d_Law_law_353 ?_
      refine r_sld hg hT d_Law_law_354 ?_
      refine r_aload_n hg 0 d_Law_law_355 rfl rfl ?_
      refine r_iload hg 4 d_Law_law_356 rfl ?_
      refine r_iconst (v := 4) hg d_Law_law_358 (by decide) ?_
      refine r_iadd hg d_Law_law_359 ?_
      refine r_sld hg hT d_Law_law_360 ?_
      refine r_aload_n hg 3 d_Law_law_361 rfl rfl ?_
      refine r_wcall (As := [.ref 84, .int (xs (Int32.toNatClampNeg (v4 + 1))), .int (xs (Int32.toNatClampNeg (v4 + 2))), .int (xs (Int32.toNatClampNeg (v4 + 3))), .int (xs (Int32.toNatClampNeg (v4 + 4))), .ref 143]) hg hT (t_Law_setEdge (xs (Int32.toNatClampNeg (v4 + 1))) (xs (Int32.toNatClampNeg (v4 + 2))) (xs (Int32.toNatClampNeg (v4 + 3))) (xs (Int32.toNatClampNeg (v4 + 4))) μ) v_Law_setEdge wm_Law_139 d_Law_law_362 rfl ⟨by decide, by decide⟩ hkn (by decide) (Nat.le_of_ble_eq_true rfl) rfl (fun r362 μ_362 _ k1 n1 hkn1 => ?_)
      refine r_istore (l' := [(5, .int r362), (0, .ref 144), (1, .ref 84), (2, .ref 125), (3, .ref 143), (4, .int v4)]) hg d_Law_law_365 (Nat.le_of_ble_eq_true rfl) rfl ?_
      refine r_aload_n hg 3 d_Law_law_367 rfl rfl ?_
      refine r_aload_n hg 1 d_Law_law_368 rfl rfl ?_
      refine r_iload hg 5 d_Law_law_369 rfl ?_
      refine r_iconst (v := 1) hg d_Law_law_371 (by decide) ?_
      refine r_iadd hg d_Law_law_372 ?_
      refine r_sld hg hT d_Law_law_373 ?_
      refine r_aload_n hg 1 d_Law_law_374 rfl rfl ?_
      refine r_iload hg 5 d_Law_law_375 rfl ?_
      refine r_iconst (v := 2) hg d_Law_law_377 (by decide) ?_
      refine r_iadd hg d_Law_law_378 ?_
      refine r_sld hg hT d_Law_law_379 ?_
      refine r_aload_n hg 1 d_Law_law_380 rfl rfl ?_
      refine r_iload hg 5 d_Law_law_381 rfl ?_
      refine r_iconst (v := 3) hg d_Law_law_383 (by decide) ?_
      refine r_iadd hg d_Law_law_384 ?_
      refine r_sld hg hT d_Law_law_385 ?_
      refine r_aload_n hg 1 d_Law_law_386 rfl rfl ?_
      refine r_iload hg 5 d_Law_law_387 rfl ?_
      refine r_iconst (v := 4) hg d_Law_law_389 (by decide) ?_
      refine r_iadd hg d_Law_law_390 ?_
      refine r_sld hg hT d_Law_law_391 ?_
      refine r_callV (As := [.int (xs (Int32.toNatClampNeg (v4 + 1))), .int (xs (Int32.toNatClampNeg (v4 + 2))), .int (xs (Int32.toNatClampNeg (v4 + 3))), .int (xs (Int32.toNatClampNeg (v4 + 4)))]) hg (t_Model_setEdge (xs (Int32.toNatClampNeg (v4 + 1))) (xs (Int32.toNatClampNeg (v4 + 2))) (xs (Int32.toNatClampNeg (v4 + 3))) (xs (Int32.toNatClampNeg (v4 + 4))) μ_362) v_Model_setEdge c_Model rfl (by decide) rfl wm_Law_142 d_Law_law_392 rfl ⟨by decide, by decide⟩ (Nat.le_of_ble_eq_true rfl) rfl (fun r392 μ_392 _ => ?_)
      refine r_istore (l' := [(6, .int r392), (5, .int r362), (0, .ref 144), (1, .ref 84), (2, .ref 125), (3, .ref 143), (4, .int v4)]) hg d_Law_law_395 (Nat.le_of_ble_eq_true rfl) rfl ?_
      refine r_aload_n hg 4 d_Law_law_397 rfl rfl ?_
      refine r_callV (As := []) hg (t_Model_thrown  μ_392) v_Model_thrown c_Model rfl (by decide) rfl wm_Law_132 d_Law_law_398 rfl ⟨by decide, by decide⟩ (Nat.le_of_ble_eq_true rfl) rfl (fun r398 μ_398 _ => ?_)
      refine r_iload hg 1 d_Law_law_401 rfl ?_
      refine r_icmp_eq (tgt := 408) hg d_Law_law_403 (by decide) ?_ ?_
      · refine r_iload hg 1 d_Law_law_408 rfl ?_
        refine r_if_ne (tgt := 425) hg d_Law_law_410 (by decide) ?_ ?_
        · refine r_sub [2, 3, 4, 5, 6] rfl ?_
          exact t_Law_law_J425 hg hT rec_ hrec_ v4 μ_398 k1 n1 hkn1
        · refine r_aload_n hg 5 d_Law_law_413 rfl rfl ?_
          refine r_iconst (v := 0) hg d_Law_law_414 (by decide) ?_
          refine r_lald hg (by decide) rfl d_Law_law_415 ?_
          refine r_iload hg 0 d_Law_law_416 rfl ?_
          refine r_i2l hg d_Law_law_418 ?_
          refine r_lcmp hg d_Law_law_419 ?_
          refine r_if_eq (tgt := 425) hg d_Law_law_420 (by decide) ?_ ?_
          · refine r_sub [2, 3, 4, 5, 6] rfl ?_
            exact t_Law_law_J425 hg hT rec_ hrec_ v4 μ_398 k1 n1 hkn1
          · exact HX.none
      · exact HX.none
    refine h_ite (fun he_ => ?_) (fun _ => ?_)
    · refine r_tswIn (tgt := 428) (y := 3) (off := 389) hg d_Law_law_39 he_ (by decide) (by decide) (by decide) (by decide) ?_
      refine r_aload_n hg 1 d_Law_law_428 rfl rfl ?_
      refine r_aload_n hg 0 d_Law_law_429 rfl rfl ?_
      refine r_iload hg 4 d_Law_law_430 rfl ?_
      refine r_iconst (v := 1) hg d_Law_law_432 (by decide) ?_
      refine r_iadd hg d_Law_law_433 ?_
      refine r_sld hg hT d_Law_law_434 ?_
      refine r_aload_n hg 0 d_Law_law_435 rfl rfl ?_
      refine r_iload hg 4 d_Law_law_436 rfl ?_
      refine r_iconst (v := 2) hg d_Law_law_438 (by decide) ?_
      refine r_iadd hg d_Law_law_439 ?_
      refine r_sld hg hT d_Law_law_440 ?_
      refine r_aload_n hg 0 d_Law_law_441 rfl rfl ?_
      refine r_iload hg 4 d_Law_law_442 rfl ?_
      refine r_iconst (v := 3) hg d_Law_law_444 (by decide) ?_
      refine r_iadd hg d_Law_law_445 ?_
      refine r_sld hg hT d_Law_law_446 ?_
      refine r_aload_n hg 3 d_Law_law_447 rfl rfl ?_
      refine r_wcall (As := [.ref 84, .int (xs (Int32.toNatClampNeg (v4 + 1))), .int (xs (Int32.toNatClampNeg (v4 + 2))), .int (xs (Int32.toNatClampNeg (v4 + 3))), .ref 143]) hg hT (t_Law_make (xs (Int32.toNatClampNeg (v4 + 1))) (xs (Int32.toNatClampNeg (v4 + 2))) (xs (Int32.toNatClampNeg (v4 + 3))) μ) v_Law_make wm_Law_143 d_Law_law_448 rfl ⟨by decide, by decide⟩ hkn (by decide) (Nat.le_of_ble_eq_true rfl) rfl (fun r448 μ_448 _ k1 n1 hkn1 => ?_)
      refine r_istore (l' := [(5, .int r448), (0, .ref 144), (1, .ref 84), (2, .ref 125), (3, .ref 143), (4, .int v4)]) hg d_Law_law_451 (Nat.le_of_ble_eq_true rfl) rfl ?_
      refine r_aload_n hg 3 d_Law_law_453 rfl rfl ?_
      refine r_aload_n hg 1 d_Law_law_454 rfl rfl ?_
      refine r_iload hg 5 d_Law_law_455 rfl ?_
      refine r_iconst (v := 1) hg d_Law_law_457 (by decide) ?_
      refine r_iadd hg d_Law_law_458 ?_
      refine r_sld hg hT d_Law_law_459 ?_
      refine r_aload_n hg 1 d_Law_law_460 rfl rfl ?_
      refine r_iload hg 5 d_Law_law_461 rfl ?_
      refine r_iconst (v := 2) hg d_Law_law_463 (by decide) ?_
      refine r_iadd hg d_Law_law_464 ?_
      refine r_sld hg hT d_Law_law_465 ?_
      refine r_aload_n hg 1 d_Law_law_466 rfl rfl ?_
      refine r_iload hg 5 d_Law_law_467 rfl ?_
      refine r_iconst (v := 3) hg d_Law_law_469 (by decide) ?_
      refine r_iadd hg d_Law_law_470 ?_
      refine r_sld hg hT d_Law_law_471 ?_
      refine r_callV (As := [.int (xs (Int32.toNatClampNeg (v4 + 1))), .int (xs (Int32.toNatClampNeg (v4 + 2))), .int (xs (Int32.toNatClampNeg (v4 + 3)))]) hg (t_Model_make (xs (Int32.toNatClampNeg (v4 + 1))) (xs (Int32.toNatClampNeg (v4 + 2))) (xs (Int32.toNatClampNeg (v4 + 3))) μ_448) v_Model_make c_Model rfl (by decide) rfl wm_Law_145 d_Law_law_472 rfl ⟨by decide, by decide⟩ (Nat.le_of_ble_eq_true rfl) rfl (fun r472 μ_472 _ => ?_)
      refine r_istore (l' := [(6, .int r472), (5, .int r448), (0, .ref 144), (1, .ref 84), (2, .ref 125), (3, .ref 143), (4, .int v4)]) hg d_Law_law_475 (Nat.le_of_ble_eq_true rfl) rfl ?_
      refine r_aload_n hg 4 d_Law_law_477 rfl rfl ?_
      refine r_callV (As := []) hg (t_Model_thrown  μ_472) v_Model_thrown c_Model rfl (by decide) rfl wm_Law_132 d_Law_law_478 rfl ⟨by decide, by decide⟩ (Nat.le_of_ble_eq_true rfl) rfl (fun r478 μ_478 _ => ?_)
      refine r_iload hg 1 d_Law_law_481 rfl ?_
      refine r_icmp_eq (tgt := 488) hg d_Law_law_483 (by decide) ?_ ?_
      · refine r_iload hg 1 d_Law_law_488 rfl ?_
        refine r_if_ne (tgt := 505) hg d_Law_law_490 (by decide) ?_ ?_
        · refine r_sub [2, 3, 4, 5, 6] rfl ?_
          exact t_Law_law_J505 hg hT rec_ hrec_ v4 μ_478 k1 n1 hkn1
        · refine r_aload_n hg 5 d_Law_law_493 rfl rfl ?_
          refine r_iconst (v := 0) hg d_Law_law_494 (by decide) ?_
          refine r_lald hg (by decide) rfl d_Law_law_495 ?_
          refine r_iload hg 0 d_Law_law_496 rfl ?_
          refine r_i2l hg d_Law_law_498 ?_
          refine r_lcmp hg d_Law_law_499 ?_
          refine r_if_eq (tgt := 505) hg d_Law_law_500 (by decide) ?_ ?_
          · refine r_sub [2, 3, 4, 5, 6] rfl ?_
            exact t_Law_law_J505 hg hT rec_ hrec_ v4 μ_478 k1 n1 hkn1
          · exact HX.none
      · exact HX.none
    refine h_ite (fun he_ => ?_) (fun _ => ?_)
    · refine r_tswIn (tgt := 508) (y := 4) (off := 469) hg d_Law_law_39 he_ (by decide) (by decide) (by decide) (by decide) ?_
      refine r_aload_n hg 1 d_Law_law_508 rfl rfl ?_
      refine r_aload_n hg 0 d_Law_law_509 rfl rfl ?_
      refine r_iload hg 4 d_Law_law_510 rfl ?_
      refine r_iconst (v := 1) hg d_Law_law_512 (by decide) ?_
      refine r_iadd hg d_Law_law_513 ?_
      refine r_sld hg hT d_Law_law_514 ?_
      refine r_aload_n hg 0 d_Law_law_515 rfl rfl ?_
      refine r_iload hg 4 d_Law_law_516 rfl ?_
      refine r_iconst (v := 2) hg d_Law_law_518 (by decide) ?_
      refine r_iadd hg d_Law_law_519 ?_
      refine r_sld hg hT d_Law_law_520 ?_
      refine r_aload_n hg 0 d_Law_law_521 rfl rfl ?_
      refine r_iload hg 4 d_Law_law_522 rfl ?_
      refine r_iconst (v := 3) hg d_Law_law_524 (by decide) ?_
      refine r_iadd hg d_Law_law_525 ?_
      refine r_sld hg hT d_Law_law_526 ?_
      refine r_aload_n hg 0 d_Law_law_527 rfl rfl ?_
      refine r_iload hg 4 d_Law_law_528 rfl ?_
      refine r_iconst (v := 4) hg d_Law_law_530 (by decide) ?_
      refine r_iadd hg d_Law_law_531 ?_
      refine r_sld hg hT d_Law_law_532 ?_
      refine r_aload_n hg 3 d_Law_law_533 rfl rfl ?_
      refine r_wcall (As := [.ref 84, .int (xs (Int32.toNatClampNeg (v4 + 1))), .int (xs (Int32.toNatClampNeg (v4 + 2))), .int (xs (Int32.toNatClampNeg (v4 + 3))), .int (xs (Int32.toNatClampNeg (v4 + 4))), .ref 143]) hg hT (t_Law_random (xs (Int32.toNatClampNeg (v4 + 1))) (xs (Int32.toNatClampNeg (v4 + 2))) (xs (Int32.toNatClampNeg (v4 + 3))) (xs (Int32.toNatClampNeg (v4 + 4))) μ) v_Law_random wm_Law_146 d_Law_law_534 rfl ⟨by decide, by decide⟩ hkn (by decide) (Nat.le_of_ble_eq_true rfl) rfl (fun r534 μ_534 _ k1 n1 hkn1 => ?_)
      refine r_istore (l' := [(5, .int r534), (0, .ref 144), (1, .ref 84), (2, .ref 125), (3, .ref 143), (4, .int v4)]) hg d_Law_law_537 (Nat.le_of_ble_eq_true rfl) rfl ?_
      refine r_aload_n hg 3 d_Law_law_539 rfl rfl ?_
      refine r_aload_n hg 1 d_Law_law_540 rfl rfl ?_
      refine r_iload hg 5 d_Law_law_541 rfl ?_
      refine r_iconst (v := 1) hg d_Law_law_543 (by decide) ?_
      refine r_iadd hg d_Law_law_544 ?_
      refine r_sld hg hT d_Law_law_545 ?_
      refine r_aload_n hg 1 d_Law_law_546 rfl rfl ?_
      refine r_iload hg 5 d_Law_law_547 rfl ?_
      refine r_iconst (v := 2) hg d_Law_law_549 (by decide) ?_
      refine r_iadd hg d_Law_law_550 ?_
      refine r_sld hg hT d_Law_law_551 ?_
      refine r_aload_n hg 1 d_Law_law_552 rfl rfl ?_
      refine r_iload hg 5 d_Law_law_553 rfl ?_
      refine r_iconst (v := 3) hg d_Law_law_555 (by decide) ?_
      refine r_iadd hg d_Law_law_556 ?_
      refine r_sld hg hT d_Law_law_557 ?_
      refine r_aload_n hg 1 d_Law_law_558 rfl rfl ?_
      refine r_iload hg 5 d_Law_law_559 rfl ?_
      refine r_iconst (v := 4) hg d_Law_law_561 (by decide) ?_
      refine r_iadd hg d_Law_law_562 ?_
      refine r_sld hg hT d_Law_law_563 ?_
      refine r_callV (As := [.int (xs (Int32.toNatClampNeg (v4 + 1))), .int (xs (Int32.toNatClampNeg (v4 + 2))), .int (xs (Int32.toNatClampNeg (v4 + 3))), .int (xs (Int32.toNatClampNeg (v4 + 4)))]) hg (t_Model_random (xs (Int32.toNatClampNeg (v4 + 1))) (xs (Int32.toNatClampNeg (v4 + 2))) (xs (Int32.toNatClampNeg (v4 + 3))) (xs (Int32.toNatClampNeg (v4 + 4))) μ_534) v_Model_random c_Model rfl (by decide) rfl wm_Law_148 d_Law_law_564 rfl ⟨by decide, by decide⟩ (Nat.le_of_ble_eq_true rfl) rfl (fun r564 μ_564 _ => ?_)
      refine r_istore (l' := [(6, .int r564), (5, .int r534), (0, .ref 144), (1, .ref 84), (2, .ref 125), (3, .ref 143), (4, .int v4)]) hg d_Law_law_567 (Nat.le_of_ble_eq_true rfl) rfl ?_
      refine r_aload_n hg 4 d_Law_law_569 rfl rfl ?_
      refine r_callV (As := []) hg (t_Model_thrown  μ_564) v_Model_thrown c_Model rfl (by decide) rfl wm_Law_132 d_Law_law_570 rfl ⟨by decide, by decide⟩ (Nat.le_of_ble_eq_true rfl) rfl (fun r570 μ_570 _ => ?_)
      refine r_iload hg 1 d_Law_law_573 rfl ?_
      refine r_icmp_eq (tgt := 580) hg d_Law_law_575 (by decide) ?_ ?_
      · refine r_iload hg 1 d_Law_law_580 rfl ?_
        refine r_if_ne (tgt := 597) hg d_Law_law_582 (by decide) ?_ ?_
        · refine r_sub [2, 3, 4, 5, 6] rfl ?_
          exact t_Law_law_J597 hg hT rec_ hrec_ v4 μ_570 k1 n1 hkn1
        · refine r_aload_n hg 5 d_Law_law_585 rfl rfl ?_
          refine r_iconst (v := 0) hg d_Law_law_586 (by decide) ?_
          refine r_lald hg (by decide) rfl d_Law_law_587 ?_
          refine r_iload hg 0 d_Law_law_588 rfl ?_
          refine r_i2l hg d_Law_law_590 ?_
          refine r_lcmp hg d_Law_law_591 ?_
          refine r_if_eq (tgt := 597) hg d_Law_law_592 (by decide) ?_ ?_
          · refine r_sub [2, 3, 4, 5, 6] rfl ?_
            exact t_Law_law_J597 hg hT rec_ hrec_ v4 μ_570 k1 n1 hkn1
          · exact HX.none
      · exact HX.none
    refine h_ite (fun he_ => ?_) (fun _ => ?_)
    · refine r_tswIn (tgt := 600) (y := 5) (off := 561) hg d_Law_law_39 he_ (by decide) (by decide) (by decide) (by decide) ?_
      refine r_aload_n hg 1 d_Law_law_600 rfl rfl ?_
      refine r_aload_n hg 0 d_Law_law_601 rfl rfl ?_
      refine r_iload hg 4 d_Law_law_602 rfl ?_
      refine r_iconst (v := 1) hg d_Law_law_604 (by decide) ?_
      refine r_iadd hg d_Law_law_605 ?_
      refine r_sld hg hT d_Law_law_606 ?_
      refine r_aload_n hg 0 d_Law_law_607 rfl rfl ?_
      refine r_iload hg 4 d_Law_law_608 rfl ?_
      refine r_iconst (v := 2) hg d_Law_law_610 (by decide) ?_
      refine r_iadd hg d_Law_law_611 ?_
      refine r_sld hg hT d_Law_law_612 ?_
      refine r_aload_n hg 0 d_Law_law_613 rfl rfl ?_
      refine r_iload hg 4 d_Law_law_614 rfl ?_
      refine r_iconst (v := 3) hg d_Law_law_616 (by decide) ?_
      refine r_iadd hg d_Law_law_617 ?_
      refine r_sld hg hT d_Law_law_618 ?_
      refine r_aload_n hg 0 d_Law_law_619 rfl rfl ?_
      refine r_iload hg 4 d_Law_law_620 rfl ?_
      refine r_iconst (v := 4) hg d_Law_law_622 (by decide) ?_
      refine r_iadd hg d_Law_law_623 ?_
      refine r_sld hg hT d_Law_law_624 ?_
      refine r_aload_n hg 3 d_Law_law_625 rfl rfl ?_
      refine r_wcall (As := [.ref 84, .int (xs (Int32.toNatClampNeg (v4 + 1))), .int (xs (Int32.toNatClampNeg (v4 + 2))), .int (xs (Int32.toNatClampNeg (v4 + 3))), .int (xs (Int32.toNatClampNeg (v4 + 4))), .ref 143]) hg hT (t_Law_combine (xs (Int32.toNatClampNeg (v4 + 1))) (xs (Int32.toNatClampNeg (v4 + 2))) (xs (Int32.toNatClampNeg (v4 + 3))) (xs (Int32.toNatClampNeg (v4 + 4))) μ) v_Law_combine wm_Law_149 d_Law_law_626 rfl ⟨by decide, by decide⟩ hkn (by decide) (Nat.le_of_ble_eq_true rfl) rfl (fun r626 μ_626 _ k1 n1 hkn1 => ?_)
      refine r_istore (l' := [(5, .int r626), (0, .ref 144), (1, .ref 84), (2, .ref 125), (3, .ref 143), (4, .int v4)]) hg d_Law_law_629 (Nat.le_of_ble_eq_true rfl) rfl ?_
      refine r_aload_n hg 3 d_Law_law_631 rfl rfl ?_
      refine r_aload_n hg 1 d_Law_law_632 rfl rfl ?_
      refine r_iload hg 5 d_Law_law_633 rfl ?_
      refine r_iconst (v := 1) hg d_Law_law_635 (by decide) ?_
      refine r_iadd hg d_Law_law_636 ?_
      refine r_sld hg hT d_Law_law_637 ?_
      refine r_aload_n hg 1 d_Law_law_638 rfl rfl ?_
      refine r_iload hg 5 d_Law_law_639 rfl ?_
      refine r_iconst (v := 2) hg d_Law_law_641 (by decide) ?_
      refine r_iadd hg d_Law_law_642 ?_
      refine r_sld hg hT d_Law_law_643 ?_
      refine r_aload_n hg 1 d_Law_law_644 rfl rfl ?_
      refine r_iload hg 5 d_Law_law_645 rfl ?_
      refine r_iconst (v := 3) hg d_Law_law_647 (by decide) ?_
      refine r_iadd hg d_Law_law_648 ?_
      refine r_sld hg hT d_Law_law_649 ?_
      refine r_aload_n hg 1 d_Law_law_650 rfl rfl ?_
      refine r_iload hg 5 d_Law_law_651 rfl ?_
      refine r_iconst (v := 4) hg d_Law_law_653 (by decide) ?_
      refine r_iadd hg d_Law_law_654 ?_
      refine r_sld hg hT d_Law_law_655 ?_
      refine r_callV (As := [.int (xs (Int32.toNatClampNeg (v4 + 1))), .int (xs (Int32.toNatClampNeg (v4 + 2))), .int (xs (Int32.toNatClampNeg (v4 + 3))), .int (xs (Int32.toNatClampNeg (v4 + 4)))]) hg (t_Model_combine (xs (Int32.toNatClampNeg (v4 + 1))) (xs (Int32.toNatClampNeg (v4 + 2))) (xs (Int32.toNatClampNeg (v4 + 3))) (xs (Int32.toNatClampNeg (v4 + 4))) μ_626) v_Model_combine c_Model rfl (by decide) rfl wm_Law_151 d_Law_law_656 rfl ⟨by decide, by decide⟩ (Nat.le_of_ble_eq_true rfl) rfl (fun r656 μ_656 _ => ?_)
      refine r_istore (l' := [(6, .int r656), (5, .int r626), (0, .ref 144), (1, .ref 84), (2, .ref 125), (3, .ref 143), (4, .int v4)]) hg d_Law_law_659 (Nat.le_of_ble_eq_true rfl) rfl ?_
      refine r_aload_n hg 4 d_Law_law_661 rfl rfl ?_
      refine r_callV (As := []) hg (t_Model_thrown  μ_656) v_Model_thrown c_Model rfl (by decide) rfl wm_Law_132 d_Law_law_662 rfl ⟨by decide, by decide⟩ (Nat.le_of_ble_eq_true rfl) rfl (fun r662 μ_662 _ => ?_)
      refine r_iload hg 1 d_Law_law_665 rfl ?_
      refine r_icmp_eq (tgt := 672) hg d_Law_law_667 (by decide) ?_ ?_
      · refine r_iload hg 1 d_Law_law_672 rfl ?_
        refine r_if_ne (tgt := 689) hg d_Law_law_674 (by decide) ?_ ?_
        · refine r_sub [2, 3, 4, 5, 6] rfl ?_
          exact t_Law_law_J689 hg hT rec_ hrec_ v4 μ_662 k1 n1 hkn1
        · refine r_aload_n hg 5 d_Law_law_677 rfl rfl ?_
          refine r_iconst (v := 0) hg d_Law_law_678 (by decide) ?_
          refine r_lald hg (by decide) rfl d_Law_law_679 ?_
          refine r_iload hg 0 d_Law_law_680 rfl ?_
          refine r_i2l hg d_Law_law_682 ?_
          refine r_lcmp hg d_Law_law_683 ?_
          refine r_if_eq (tgt := 689) hg d_Law_law_684 (by decide) ?_ ?_
          · refine r_sub [2, 3, 4, 5, 6] rfl ?_
            exact t_Law_law_J689 hg hT rec_ hrec_ v4 μ_662 k1 n1 hkn1
          · exact HX.none
      · exact HX.none
    refine h_ite (fun he_ => ?_) (fun _ => ?_)
    · refine r_tswIn (tgt := 692) (y := 6) (off := 653) hg d_Law_law_39 he_ (by decide) (by decide) (by decide) (by decide) ?_
      refine r_aload_n hg 1 d_Law_law_692 rfl rfl ?_
      refine r_aload_n hg 0 d_Law_law_693 rfl rfl ?_
      refine r_iload hg 4 d_Law_law_694 rfl ?_
      refine r_iconst (v := 1) hg d_Law_law_696 (by decide) ?_
      refine r_iadd hg d_Law_law_697 ?_
      refine r_sld hg hT d_Law_law_698 ?_
      refine r_aload_n hg 0 d_Law_law_699 rfl rfl ?_
      refine r_iload hg 4 d_Law_law_700 rfl ?_
      refine r_iconst (v := 2) hg d_Law_law_702 (by decide) ?_
      refine r_iadd hg d_Law_law_703 ?_
      refine r_sld hg hT d_Law_law_704 ?_
      refine r_aload_n hg 0 d_Law_law_705 rfl rfl ?_
      refine r_iload hg 4 d_Law_law_706 rfl ?_
      refine r_iconst (v := 3) hg d_Law_law_708 (by decide) ?_
      refine r_iadd hg d_Law_law_709 ?_
      refine r_sld hg hT d_Law_law_710 ?_
      refine r_aload_n hg 0 d_Law_law_711 rfl rfl ?_
      refine r_iload hg 4 d_Law_law_712 rfl ?_
      refine r_iconst (v := 4) hg d_Law_law_714 (by decide) ?_
      refine r_iadd hg d_Law_law_715 ?_
      refine r_sld hg hT d_Law_law_716 ?_
      refine r_aload_n hg 3 d_Law_law_717 rfl rfl ?_
      refine r_wcall (As := [.ref 84, .int (xs (Int32.toNatClampNeg (v4 + 1))), .int (xs (Int32.toNatClampNeg (v4 + 2))), .int (xs (Int32.toNatClampNeg (v4 + 3))), .int (xs (Int32.toNatClampNeg (v4 + 4))), .ref 143]) hg hT (t_Law_derive (xs (Int32.toNatClampNeg (v4 + 1))) (xs (Int32.toNatClampNeg (v4 + 2))) (xs (Int32.toNatClampNeg (v4 + 3))) (xs (Int32.toNatClampNeg (v4 + 4))) μ) v_Law_derive wm_Law_152 d_Law_law_718 rfl ⟨by decide, by decide⟩ hkn (by decide) (Nat.le_of_ble_eq_true rfl) rfl (fun r718 μ_718 _ k1 n1 hkn1 => ?_)
      refine r_istore (l' := [(5, .int r718), (0, .ref 144), (1, .ref 84), (2, .ref 125), (3, .ref 143), (4, .int v4)]) hg d_Law_law_721 (Nat.le_of_ble_eq_true rfl) rfl ?_
      refine r_aload_n hg 3 d_Law_law_723 rfl rfl ?_
      refine r_aload_n hg 1 d_Law_law_724 rfl rfl ?_
      refine r_iload hg 5 d_Law_law_725 rfl ?_
      refine r_iconst (v := 1) hg d_Law_law_727 (by decide) ?_
      refine r_iadd hg d_Law_law_728 ?_
      refine r_sld hg hT d_Law_law_729 ?_
      refine r_aload_n hg 1 d_Law_law_730 rfl rfl ?_
      refine r_iload hg 5 d_Law_law_731 rfl ?_
      refine r_iconst (v := 2) hg d_Law_law_733 (by decide) ?_
      refine r_iadd hg d_Law_law_734 ?_
      refine r_sld hg hT d_Law_law_735 ?_
      refine r_aload_n hg 1 d_Law_law_736 rfl rfl ?_
      refine r_iload hg 5 d_Law_law_737 rfl ?_
      refine r_iconst (v := 3) hg d_Law_law_739 (by decide) ?_
      refine r_iadd hg d_Law_law_740 ?_
      refine r_sld hg hT d_Law_law_741 ?_
      refine r_aload_n hg 1 d_Law_law_742 rfl rfl ?_
      refine r_iload hg 5 d_Law_law_743 rfl ?_
      refine r_iconst (v := 4) hg d_Law_law_745 (by decide) ?_
      refine r_iadd hg d_Law_law_746 ?_
      refine r_sld hg hT d_Law_law_747 ?_
      refine r_callV (As := [.int (xs (Int32.toNatClampNeg (v4 + 1))), .int (xs (Int32.toNatClampNeg (v4 + 2))), .int (xs (Int32.toNatClampNeg (v4 + 3))), .int (xs (Int32.toNatClampNeg (v4 + 4)))]) hg (t_Model_derive (xs (Int32.toNatClampNeg (v4 + 1))) (xs (Int32.toNatClampNeg (v4 + 2))) (xs (Int32.toNatClampNeg (v4 + 3))) (xs (Int32.toNatClampNeg (v4 + 4))) μ_718) v_Model_derive c_Model rfl (by decide) rfl wm_Law_154 d_Law_law_748 rfl ⟨by decide, by decide⟩ (Nat.le_of_ble_eq_true rfl) rfl (fun r748 μ_748 _ => ?_)
      refine r_istore (l' := [(6, .int r748), (5, .int r718), (0, .ref 144), (1, .ref 84), (2, .ref 125), (3, .ref 143), (4, .int v4)]) hg d_Law_law_751 (Nat.le_of_ble_eq_true rfl) rfl ?_
      refine r_aload_n hg 4 d_Law_law_753 rfl rfl ?_
      refine r_callV (As := []) hg (t_Model_thrown  μ_748) v_Model_thrown c_Model rfl (by decide) rfl wm_Law_132 d_Law_law_754 rfl ⟨by decide, by decide⟩ (Nat.le_of_ble_eq_true rfl) rfl (fun r754 μ_754 _ => ?_)
      refine r_iload hg 1 d_Law_law_757 rfl ?_
      refine r_icmp_eq (tgt := 764) hg d_Law_law_759 (by decide) ?_ ?_
      · refine r_iload hg 1 d_Law_law_764 rfl ?_
        refine r_if_ne (tgt := 781) hg d_Law_law_766 (by decide) ?_ ?_
        · refine r_sub [2, 3, 4, 5, 6] rfl ?_
          exact t_Law_law_J781 hg hT rec_ hrec_ v4 μ_754 k1 n1 hkn1
        · refine r_aload_n hg 5 d_Law_law_769 rfl rfl ?_
          refine r_iconst (v := 0) hg d_Law_law_770 (by decide) ?_
          refine r_lald hg (by decide) rfl d_Law_law_771 ?_
          refine r_iload hg 0 d_Law_law_772 rfl ?_
          refine r_i2l hg d_Law_law_774 ?_
          refine r_lcmp hg d_Law_law_775 ?_
          refine r_if_eq (tgt := 781) hg d_Law_law_776 (by decide) ?_ ?_
          · refine r_sub [2, 3, 4, 5, 6] rfl ?_
            exact t_Law_law_J781 hg hT rec_ hrec_ v4 μ_754 k1 n1 hkn1
          · exact HX.none
      · exact HX.none
    refine h_ite (fun he_ => ?_) (fun _ => ?_)
    · refine r_tswIn (tgt := 784) (y := 7) (off := 745) hg d_Law_law_39 he_ (by decide) (by decide) (by decide) (by decide) ?_
      refine r_aload_n hg 1 d_Law_law_784 rfl rfl ?_
      refine r_aload_n hg 0 d_Law_law_785 rfl rfl ?_
      refine r_iload hg 4 d_Law_law_786 rfl ?_
      refine r_iconst (v := 1) hg d_Law_law_788 (by decide) ?_
      refine r_iadd hg d_Law_law_789 ?_
      refine r_sld hg hT d_Law_law_790 ?_
      refine r_aload_n hg 0 d_Law_law_791 rfl rfl ?_
      refine r_iload hg 4 d_Law_law_792 rfl ?_
      refine r_iconst (v := 2) hg d_Law_law_794 (by decide) ?_
      refine r_iadd hg d_Law_law_795 ?_
      refine r_sld hg hT d_Law_law_796 ?_
      refine r_aload_n hg 3 d_Law_law_797 rfl rfl ?_
      refine r_wcall (As := [.ref 84, .int (xs (Int32.toNatClampNeg (v4 + 1))), .int (xs (Int32.toNatClampNeg (v4 + 2))), .ref 143]) hg hT (t_Law_graph (xs (Int32.toNatClampNeg (v4 + 1))) (xs (Int32.toNatClampNeg (v4 + 2))) μ) v_Law_graph wm_Law_155 d_Law_law_798 rfl ⟨by decide, by decide⟩ hkn (by decide) (Nat.le_of_ble_eq_true rfl) rfl (fun r798 μ_798 _ k1 n1 hkn1 => ?_)
      refine r_istore (l' := [(5, .int r798), (0, .ref 144), (1, .ref 84), (2, .ref 125), (3, .ref 143), (4, .int v4)]) hg d_Law_law_801 (Nat.le_of_ble_eq_true rfl) rfl ?_
      refine r_aload_n hg 3 d_Law_law_803 rfl rfl ?_
      refine r_aload_n hg 1 d_Law_law_804 rfl rfl ?_
      refine r_iload hg 5 d_Law_law_805 rfl ?_
      refine r_iconst (v := 1) hg d_Law_law_807 (by decide) ?_
      refine r_iadd hg d_Law_law_808 ?_
      refine r_sld hg hT d_Law_law_809 ?_
      refine r_aload_n hg 1 d_Law_law_810 rfl rfl ?_
      refine r_iload hg 5 d_Law_law_811 rfl ?_
      refine r_iconst (v := 2) hg d_Law_law_813 (by decide) ?_
      refine r_iadd hg d_Law_law_814 ?_
      refine r_sld hg hT d_Law_law_815 ?_
      refine r_callV (As := [.int (xs (Int32.toNatClampNeg (v4 + 1))), .int (xs (Int32.toNatClampNeg (v4 + 2)))]) hg (t_Model_graph (xs (Int32.toNatClampNeg (v4 + 1))) (xs (Int32.toNatClampNeg (v4 + 2))) μ_798) v_Model_graph c_Model rfl (by decide) rfl wm_Law_157 d_Law_law_816 rfl ⟨by decide, by decide⟩ (Nat.le_of_ble_eq_true rfl) rfl (fun r816 μ_816 _ => ?_)
      refine r_istore (l' := [(6, .int r816), (5, .int r798), (0, .ref 144), (1, .ref 84), (2, .ref 125), (3, .ref 143), (4, .int v4)]) hg d_Law_law_819 (Nat.le_of_ble_eq_true rfl) rfl ?_
      refine r_aload_n hg 4 d_Law_law_821 rfl rfl ?_
      refine r_callV (As := []) hg (t_Model_thrown  μ_816) v_Model_thrown c_Model rfl (by decide) rfl wm_Law_132 d_Law_law_822 rfl ⟨by decide, by decide⟩ (Nat.le_of_ble_eq_true rfl) rfl (fun r822 μ_822 _ => ?_)
      refine r_iload hg 1 d_Law_law_825 rfl ?_
      refine r_icmp_eq (tgt := 832) hg d_Law_law_827 (by decide) ?_ ?_
      · refine r_iload hg 1 d_Law_law_832 rfl ?_
        refine r_if_ne (tgt := 849) hg d_Law_law_834 (by decide) ?_ ?_
        · refine r_sub [2, 3, 4, 5, 6] rfl ?_
          exact t_Law_law_J849 hg hT rec_ hrec_ v4 μ_822 k1 n1 hkn1
        · refine r_aload_n hg 5 d_Law_law_837 rfl rfl ?_
          refine r_iconst (v := 0) hg d_Law_law_838 (by decide) ?_
          refine r_lald hg (by decide) rfl d_Law_law_839 ?_
          refine r_iload hg 0 d_Law_law_840 rfl ?_
          refine r_i2l hg d_Law_law_842 ?_
          refine r_lcmp hg d_Law_law_843 ?_
          refine r_if_eq (tgt := 849) hg d_Law_law_844 (by decide) ?_ ?_
          · refine r_sub [2, 3, 4, 5, 6] rfl ?_
            exact t_Law_law_J849 hg hT rec_ hrec_ v4 μ_822 k1 n1 hkn1
          · exact HX.none
      · exact HX.none
    refine h_ite (fun he_ => ?_) (fun _ => ?_)
    · refine r_tswIn (tgt := 852) (y := 8) (off := 813) hg d_Law_law_39 he_ (by decide) (by decide) (by decide) (by decide) ?_
      refine r_aload_n hg 1 d_Law_law_852 rfl rfl ?_
      refine r_aload_n hg 0 d_Law_law_853 rfl rfl ?_
      refine r_iload hg 4 d_Law_law_854 rfl ?_
      refine r_iconst (v := 1) hg d_Law_law_856 (by decide) ?_
      refine r_iadd hg d_Law_law_857 ?_
      refine r_sld hg hT d_Law_law_858 ?_
      refine r_aload_n hg 0 d_Law_law_859 rfl rfl ?_
      refine r_iload hg 4 d_Law_law_860 rfl ?_
      refine r_iconst (v := 2) hg d_Law_law_862 (by decide) ?_
      refine r_iadd hg d_Law_law_863 ?_
      refine r_sld hg hT d_Law_law_864 ?_
      refine r_aload_n hg 0 d_Law_law_865 rfl rfl ?_
      refine r_iload hg 4 d_Law_law_866 rfl ?_
      refine r_iconst (v := 3) hg d_Law_law_868 (by decide) ?_
      refine r_iadd hg d_Law_law_869 ?_
      refine r_sld hg hT d_Law_law_870 ?_
      refine r_aload_n hg 3 d_Law_law_871 rfl rfl ?_
      refine r_wcall (As := [.ref 84, .int (xs (Int32.toNatClampNeg (v4 + 1))), .int (xs (Int32.toNatClampNeg (v4 + 2))), .int (xs (Int32.toNatClampNeg (v4 + 3))), .ref 143]) hg hT (t_Law_vertex (xs (Int32.toNatClampNeg (v4 + 1))) (xs (Int32.toNatClampNeg (v4 + 2))) (xs (Int32.toNatClampNeg (v4 + 3))) μ) v_Law_vertex wm_Law_158 d_Law_law_872 rfl ⟨by decide, by decide⟩ hkn (by decide) (Nat.le_of_ble_eq_true rfl) rfl (fun r872 μ_872 _ k1 n1 hkn1 => ?_)
      refine r_istore (l' := [(5, .int r872), (0, .ref 144), (1, .ref 84), (2, .ref 125), (3, .ref 143), (4, .int v4)]) hg d_Law_law_875 (Nat.le_of_ble_eq_true rfl) rfl ?_
      refine r_aload_n hg 3 d_Law_law_877 rfl rfl ?_
      refine r_aload_n hg 1 d_Law_law_878 rfl rfl ?_
      refine r_iload hg 5 d_Law_law_879 rfl ?_
      refine r_iconst (v := 1) hg d_Law_law_881 (by decide) ?_
      refine r_iadd hg d_Law_law_882 ?_
      refine r_sld hg hT d_Law_law_883 ?_
      refine r_aload_n hg 1 d_Law_law_884 rfl rfl ?_
      refine r_iload hg 5 d_Law_law_885 rfl ?_
      refine r_iconst (v := 2) hg d_Law_law_887 (by decide) ?_
      refine r_iadd hg d_Law_law_888 ?_
      refine r_sld hg hT d_Law_law_889 ?_
      refine r_aload_n hg 1 d_Law_law_890 rfl rfl ?_
      refine r_iload hg 5 d_Law_law_891 rfl ?_
      refine r_iconst (v := 3) hg d_Law_law_893 (by decide) ?_
      refine r_iadd hg d_Law_law_894 ?_
      refine r_sld hg hT d_Law_law_895 ?_
      refine r_callV (As := [.int (xs (Int32.toNatClampNeg (v4 + 1))), .int (xs (Int32.toNatClampNeg (v4 + 2))), .int (xs (Int32.toNatClampNeg (v4 + 3)))]) hg (t_Model_vertex (xs (Int32.toNatClampNeg (v4 + 1))) (xs (Int32.toNatClampNeg (v4 + 2))) (xs (Int32.toNatClampNeg (v4 + 3))) μ_872) v_Model_vertex c_Model rfl (by decide) rfl wm_Law_160 d_Law_law_896 rfl ⟨by decide, by decide⟩ (Nat.le_of_ble_eq_true rfl) rfl (fun r896 μ_896 _ => ?_)
      refine r_istore (l' := [(6, .int r896), (5, .int r872), (0, .ref 144), (1, .ref 84), (2, .ref 125), (3, .ref 143), (4, .int v4)]) hg d_Law_law_899 (Nat.le_of_ble_eq_true rfl) rfl ?_
      refine r_aload_n hg 4 d_Law_law_901 rfl rfl ?_
      refine r_callV (As := []) hg (t_Model_thrown  μ_896) v_Model_thrown c_Model rfl (by decide) rfl wm_Law_132 d_Law_law_902 rfl ⟨by decide, by decide⟩ (Nat.le_of_ble_eq_true rfl) rfl (fun r902 μ_902 _ => ?_)
      refine r_iload hg 1 d_Law_law_905 rfl ?_
      refine r_icmp_eq (tgt := 912) hg d_Law_law_907 (by decide) ?_ ?_
      · refine r_iload hg 1 d_Law_law_912 rfl ?_
        refine r_if_ne (tgt := 929) hg d_Law_law_914 (by decide) ?_ ?_
        · refine r_sub [2, 3, 4, 5, 6] rfl ?_
          exact t_Law_law_J929 hg hT rec_ hrec_ v4 μ_902 k1 n1 hkn1
        · refine r_aload_n hg 5 d_Law_law_917 rfl rfl ?_
          refine r_iconst (v := 0) hg d_Law_law_918 (by decide) ?_
          refine r_lald hg (by decide) rfl d_Law_law_919 ?_
          refine r_iload hg 0 d_Law_law_920 rfl ?_
          refine r_i2l hg d_Law_law_922 ?_
          refine r_lcmp hg d_Law_law_923 ?_
          refine r_if_eq (tgt := 929) hg d_Law_law_924 (by decide) ?_ ?_
          · refine r_sub [2, 3, 4, 5, 6] rfl ?_
            exact t_Law_law_J929 hg hT rec_ hrec_ v4 μ_902 k1 n1 hkn1
          · exact HX.none
      · exact HX.none
    refine h_ite (fun he_ => ?_) (fun _ => ?_)
    · refine r_tswIn (tgt := 932) (y := 9) (off := 893) hg d_Law_law_39 he_ (by decide) (by decide) (by decide) (by decide) ?_
      refine r_aload_n hg 1 d_Law_law_932 rfl rfl ?_
      refine r_aload_n hg 0 d_Law_law_933 rfl rfl ?_
      refine r_iload hg 4 d_Law_law_934 rfl ?_
      refine r_iconst (v := 1) hg d_Law_law_936 (by decide) ?_
      refine r_iadd hg d_Law_law_937 ?_
      refine r_sld hg hT d_Law_law_938 ?_
      refine r_aload_n hg 0 d_Law_law_939 rfl rfl ?_
      refine r_iload hg 4 d_Law_law_940 rfl ?_
      refine r_iconst (v := 2) hg d_Law_law_942 (by decide) ?_
      refine r_iadd hg d_Law_law_943 ?_
      refine r_sld hg hT d_Law_law_944 ?_
      refine r_aload_n hg 0 d_Law_law_945 rfl rfl ?_
      refine r_iload hg 4 d_Law_law_946 rfl ?_
      refine r_iconst (v := 3) hg d_Law_law_948 (by decide) ?_
      refine r_iadd hg d_Law_law_949 ?_
      refine r_sld hg hT d_Law_law_950 ?_
      refine r_aload_n hg 3 d_Law_law_951 rfl rfl ?_
      refine r_wcall (As := [.ref 84, .int (xs (Int32.toNatClampNeg (v4 + 1))), .int (xs (Int32.toNatClampNeg (v4 + 2))), .int (xs (Int32.toNatClampNeg (v4 + 3))), .ref 143]) hg hT (t_Law_edge (xs (Int32.toNatClampNeg (v4 + 1))) (xs (Int32.toNatClampNeg (v4 + 2))) (xs (Int32.toNatClampNeg (v4 + 3))) μ) v_Law_edge wm_Law_161 d_Law_law_952 rfl ⟨by decide, by decide⟩ hkn (by decide) (Nat.le_of_ble_eq_true rfl) rfl (fun r952 μ_952 _ k1 n1 hkn1 => ?_)
      refine r_istore (l' := [(5, .int r952), (0, .ref 144), (1, .ref 84), (2, .ref 125), (3, .ref 143), (4, .int v4)]) hg d_Law_law_955 (Nat.le_of_ble_eq_true rfl) rfl ?_
      refine r_aload_n hg 3 d_Law_law_957 rfl rfl ?_
      refine r_aload_n hg 1 d_Law_law_958 rfl rfl ?_
      refine r_iload hg 5 d_Law_law_959 rfl ?_
      refine r_iconst (v := 1) hg d_Law_law_961 (by decide) ?_
      refine r_iadd hg d_Law_law_962 ?_
      refine r_sld hg hT d_Law_law_963 ?_
      refine r_aload_n hg 1 d_Law_law_964 rfl rfl ?_
      refine r_iload hg 5 d_Law_law_965 rfl ?_
      refine r_iconst (v := 2) hg d_Law_law_967 (by decide) ?_
      refine r_iadd hg d_Law_law_968 ?_
      refine r_sld hg hT d_Law_law_969 ?_
      refine r_aload_n hg 1 d_Law_law_970 rfl rfl ?_
      refine r_iload hg 5 d_Law_law_971 rfl ?_
      refine r_iconst (v := 3) hg d_Law_law_973 (by decide) ?_
      refine r_iadd hg d_Law_law_974 ?_
      refine r_sld hg hT d_Law_law_975 ?_
      refine r_callV (As := [.int (xs (Int32.toNatClampNeg (v4 + 1))), .int (xs (Int32.toNatClampNeg (v4 + 2))), .int (xs (Int32.toNatClampNeg (v4 + 3)))]) hg (t_Model_edge (xs (Int32.toNatClampNeg (v4 + 1))) (xs (Int32.toNatClampNeg (v4 + 2))) (xs (Int32.toNatClampNeg (v4 + 3))) μ_952) v_Model_edge c_Model rfl (by decide) rfl wm_Law_163 d_Law_law_976 rfl ⟨by decide, by decide⟩ (Nat.le_of_ble_eq_true rfl) rfl (fun r976 μ_976 _ => ?_)
      refine r_istore (l' := [(6, .int r976), (5, .int r952), (0, .ref 144), (1, .ref 84), (2, .ref 125), (3, .ref 143), (4, .int v4)]) hg d_Law_law_979 (Nat.le_of_ble_eq_true rfl) rfl ?_
      refine r_aload_n hg 4 d_Law_law_981 rfl rfl ?_
      refine r_callV (As := []) hg (t_Model_thrown  μ_976) v_Model_thrown c_Model rfl (by decide) rfl wm_Law_132 d_Law_law_982 rfl ⟨by decide, by decide⟩ (Nat.le_of_ble_eq_true rfl) rfl (fun r982 μ_982 _ => ?_)
      refine r_iload hg 1 d_Law_law_985 rfl ?_
      refine r_icmp_eq (tgt := 992) hg d_Law_law_987 (by decide) ?_ ?_
      · refine r_iload hg 1 d_Law_law_992 rfl ?_
        refine r_if_ne (tgt := 1009) hg d_Law_law_994 (by decide) ?_ ?_
        · refine r_sub [2, 3, 4, 5, 6] rfl ?_
          exact t_Law_law_J1009 hg hT rec_ hrec_ v4 μ_982 k1 n1 hkn1
        · refine r_aload_n hg 5 d_Law_law_997 rfl rfl ?_
          refine r_iconst (v := 0) hg d_Law_law_998 (by decide) ?_
          refine r_lald hg (by decide) rfl d_Law_law_999 ?_
          refine r_iload hg 0 d_Law_law_1000 rfl ?_
          refine r_i2l hg d_Law_law_1002 ?_
          refine r_lcmp hg d_Law_law_1003 ?_
          refine r_if_eq (tgt := 1009) hg d_Law_law_1004 (by decide) ?_ ?_
          · refine r_sub [2, 3, 4, 5, 6] rfl ?_
            exact t_Law_law_J1009 hg hT rec_ hrec_ v4 μ_982 k1 n1 hkn1
          · exact HX.none
      · exact HX.none
    refine h_ite (fun he_ => ?_) (fun _ => ?_)
    · refine r_tswIn (tgt := 1012) (y := 10) (off := 973) hg d_Law_law_39 he_ (by decide) (by decide) (by decide) (by decide) ?_
      refine r_aload_n hg 1 d_Law_law_1012 rfl rfl ?_
      refine r_aload_n hg 0 d_Law_law_1013 rfl rfl ?_
      refine r_iload hg 4 d_Law_law_1014 rfl ?_
      refine r_iconst (v := 1) hg d_Law_law_1016 (by decide) ?_
      refine r_iadd hg d_Law_law_1017 ?_
      refine r_sld hg hT d_Law_law_1018 ?_
      refine r_aload_n hg 0 d_Law_law_1019 rfl rfl ?_
      refine r_iload hg 4 d_Law_law_1020 rfl ?_
      refine r_iconst (v := 2) hg d_Law_law_1022 (by decide) ?_
      refine r_iadd hg d_Law_law_1023 ?_
      refine r_sld hg hT d_Law_law_1024 ?_
      refine r_aload_n hg 3 d_Law_law_1025 rfl rfl ?_
      refine r_wcall (As := [.ref 84, .int (xs (Int32.toNatClampNeg (v4 + 1))), .int (xs (Int32.toNatClampNeg (v4 + 2))), .ref 143]) hg hT (t_Law_greedy (xs (Int32.toNatClampNeg (v4 + 1))) (xs (Int32.toNatClampNeg (v4 + 2))) μ) v_Law_greedy wm_Law_164 d_Law_law_1026 rfl ⟨by decide, by decide⟩ hkn (by decide) (Nat.le_of_ble_eq_true rfl) rfl (fun r1026 μ_1026 _ k1 n1 hkn1 => ?_)
      refine r_istore (l' := [(5, .int r1026), (0, .ref 144), (1, .ref 84), (2, .ref 125), (3, .ref 143), (4, .int v4)]) hg d_Law_law_1029 (Nat.le_of_ble_eq_true rfl) rfl ?_
      refine r_aload_n hg 3 d_Law_law_1031 rfl rfl ?_
      refine r_aload_n hg 1 d_Law_law_1032 rfl rfl ?_
      refine r_iload hg 5 d_Law_law_1033 rfl ?_
      refine r_iconst (v := 1) hg d_Law_law_1035 (by decide) ?_
      refine r_iadd hg d_Law_law_1036 ?_
      refine r_sld hg hT d_Law_law_1037 ?_
      refine r_aload_n hg 1 d_Law_law_1038 rfl rfl ?_
      refine r_iload hg 5 d_Law_law_1039 rfl ?_
      refine r_iconst (v := 2) hg d_Law_law_1041 (by decide) ?_
      refine r_iadd hg d_Law_law_1042 ?_
      refine r_sld hg hT d_Law_law_1043 ?_
      refine r_callV (As := [.int (xs (Int32.toNatClampNeg (v4 + 1))), .int (xs (Int32.toNatClampNeg (v4 + 2)))]) hg (t_Model_greedy (xs (Int32.toNatClampNeg (v4 + 1))) (xs (Int32.toNatClampNeg (v4 + 2))) μ_1026) v_Model_greedy c_Model rfl (by decide) rfl wm_Law_166 d_Law_law_1044 rfl ⟨by decide, by decide⟩ (Nat.le_of_ble_eq_true rfl) rfl (fun r1044 μ_1044 _ => ?_)
      refine r_istore (l' := [(6, .int r1044), (5, .int r1026), (0, .ref 144), (1, .ref 84), (2, .ref 125), (3, .ref 143), (4, .int v4)]) hg d_Law_law_1047 (Nat.le_of_ble_eq_true rfl) rfl ?_
      refine r_aload_n hg 4 d_Law_law_1049 rfl rfl ?_
      refine r_callV (As := []) hg (t_Model_thrown  μ_1044) v_Model_thrown c_Model rfl (by decide) rfl wm_Law_132 d_Law_law_1050 rfl ⟨by decide, by decide⟩ (Nat.le_of_ble_eq_true rfl) rfl (fun r1050 μ_1050 _ => ?_)
      refine r_iload hg 1 d_Law_law_1053 rfl ?_
      refine r_icmp_eq (tgt := 1060) hg d_Law_law_1055 (by decide) ?_ ?_
      · refine r_iload hg 1 d_Law_law_1060 rfl ?_
        refine r_if_ne (tgt := 1077) hg d_Law_law_1062 (by decide) ?_ ?_
        · refine r_sub [2, 3, 4, 5, 6] rfl ?_
          exact t_Law_law_J1077 hg hT rec_ hrec_ v4 μ_1050 k1 n1 hkn1
        · refine r_aload_n hg 5 d_Law_law_1065 rfl rfl ?_
          refine r_iconst (v := 0) hg d_Law_law_1066 (by decide) ?_
          refine r_lald hg (by decide) rfl d_Law_law_1067 ?_
          refine r_iload hg 0 d_Law_law_1068 rfl ?_
          refine r_i2l hg d_Law_law_1070 ?_
          refine r_lcmp hg d_Law_law_1071 ?_
          refine r_if_eq (tgt := 1077) hg d_Law_law_1072 (by decide) ?_ ?_
          · refine r_sub [2, 3, 4, 5, 6] rfl ?_
            exact t_Law_law_J1077 hg hT rec_ hrec_ v4 μ_1050 k1 n1 hkn1
          · exact HX.none
      · exact HX.none
    refine h_ite (fun he_ => ?_) (fun _ => ?_)
    · refine r_tswIn (tgt := 1080) (y := 11) (off := 1041) hg d_Law_law_39 he_ (by decide) (by decide) (by decide) (by decide) ?_
      refine r_aload_n hg 1 d_Law_law_1080 rfl rfl ?_
      refine r_aload_n hg 0 d_Law_law_1081 rfl rfl ?_
      refine r_iload hg 4 d_Law_law_1082 rfl ?_
      refine r_iconst (v := 1) hg d_Law_law_1084 (by decide) ?_
      refine r_iadd hg d_Law_law_1085 ?_
      refine r_sld hg hT d_Law_law_1086 ?_
      refine r_aload_n hg 0 d_Law_law_1087 rfl rfl ?_
      refine r_iload hg 4 d_Law_law_1088 rfl ?_
      refine r_iconst (v := 2) hg d_Law_law_1090 (by decide) ?_
      refine r_iadd hg d_Law_law_1091 ?_
      refine r_sld hg hT d_Law_law_1092 ?_
      refine r_aload_n hg 0 d_Law_law_1093 rfl rfl ?_
      refine r_iload hg 4 d_Law_law_1094 rfl ?_
      refine r_iconst (v := 3) hg d_Law_law_1096 (by decide) ?_
      refine r_iadd hg d_Law_law_1097 ?_
      refine r_sld hg hT d_Law_law_1098 ?_
      refine r_if_eq (tgt := 1106) hg d_Law_law_1099 (by decide) ?_ ?_
      · refine r_iconst (v := 0) hg d_Law_law_1106 (by decide) ?_
        exact t_Law_law_J1107 hg hT rec_ hrec_ v4 0 (xs (Int32.toNatClampNeg (v4 + 2))) (xs (Int32.toNatClampNeg (v4 + 1))) μ k n hkn
      · refine r_iconst (v := 1) hg d_Law_law_1102 (by decide) ?_
        refine r_goto (tgt := 1107) hg d_Law_law_1103 (by decide) ?_
        exact t_Law_law_J1107 hg hT rec_ hrec_ v4 1 (xs (Int32.toNatClampNeg (v4 + 2))) (xs (Int32.toNatClampNeg (v4 + 1))) μ k n hkn
    refine h_ite (fun he_ => ?_) (fun _ => ?_)
    · refine r_tswIn (tgt := 1176) (y := 12) (off := 1137) hg d_Law_law_39 he_ (by decide) (by decide) (by decide) (by decide) ?_
      refine r_aload_n hg 1 d_Law_law_1176 rfl rfl ?_
      refine r_aload_n hg 0 d_Law_law_1177 rfl rfl ?_
      refine r_iload hg 4 d_Law_law_1178 rfl ?_
      refine r_iconst (v := 1) hg d_Law_law_1180 (by decide) ?_
      refine r_iadd hg d_Law_law_1181 ?_
      refine r_sld hg hT d_Law_law_1182 ?_
      refine r_aload_n hg 3 d_Law_law_1183 rfl rfl ?_
      refine r_wcall (As := [.ref 84, .int (xs (Int32.toNatClampNeg (v4 + 1))), .ref 143]) hg hT (t_Law_treewidth (xs (Int32.toNatClampNeg (v4 + 1))) μ) v_Law_treewidth wm_Law_171 d_Law_law_1184 rfl ⟨by decide, by decide⟩ hkn (by decide) (Nat.le_of_ble_eq_true rfl) rfl (fun r1184 μ_1184 _ k1 n1 hkn1 => ?_)
      refine r_istore (l' := [(5, .int r1184), (0, .ref 144), (1, .ref 84), (2, .ref 125), (3, .ref 143), (4, .int v4)]) hg d_Law_law_1187 (Nat.le_of_ble_eq_true rfl) rfl ?_
      refine r_aload_n hg 3 d_Law_law_1189 rfl rfl ?_
      refine r_aload_n hg 1 d_Law_law_1190 rfl rfl ?_
      refine r_iload hg 5 d_Law_law_1191 rfl ?_
      refine r_iconst (v := 1) hg d_Law_law_1193 (by decide) ?_
      refine r_iadd hg d_Law_law_1194 ?_
      refine r_sld hg hT d_Law_law_1195 ?_
      refine r_callV (As := [.int (xs (Int32.toNatClampNeg (v4 + 1)))]) hg (t_Model_treewidth (xs (Int32.toNatClampNeg (v4 + 1))) μ_1184) v_Model_treewidth c_Model rfl (by decide) rfl wm_Law_174 d_Law_law_1196 rfl ⟨by decide, by decide⟩ (Nat.le_of_ble_eq_true rfl) rfl (fun r1196 μ_1196 _ => ?_)
      refine r_istore (l' := [(6, .int r1196), (5, .int r1184), (0, .ref 144), (1, .ref 84), (2, .ref 125), (3, .ref 143), (4, .int v4)]) hg d_Law_law_1199 (Nat.le_of_ble_eq_true rfl) rfl ?_
      refine r_aload_n hg 4 d_Law_law_1201 rfl rfl ?_
      refine r_callV (As := []) hg (t_Model_thrown  μ_1196) v_Model_thrown c_Model rfl (by decide) rfl wm_Law_132 d_Law_law_1202 rfl ⟨by decide, by decide⟩ (Nat.le_of_ble_eq_true rfl) rfl (fun r1202 μ_1202 _ => ?_)
      refine r_iload hg 1 d_Law_law_1205 rfl ?_
      refine r_icmp_eq (tgt := 1212) hg d_Law_law_1207 (by decide) ?_ ?_
      · refine r_iload hg 1 d_Law_law_1212 rfl ?_
        refine r_if_ne (tgt := 1229) hg d_Law_law_1214 (by decide) ?_ ?_
        · refine r_sub [2, 3, 4, 5, 6] rfl ?_
          exact t_Law_law_J1229 hg hT rec_ hrec_ v4 μ_1202 k1 n1 hkn1
        · refine r_aload_n hg 5 d_Law_law_1217 rfl rfl ?_
          refine r_iconst (v := 0) hg d_Law_law_1218 (by decide) ?_
          refine r_lald hg (by decide) rfl d_Law_law_1219 ?_
          refine r_iload hg 0 d_Law_law_1220 rfl ?_
          refine r_i2l hg d_Law_law_1222 ?_
          refine r_lcmp hg d_Law_law_1223 ?_
          refine r_if_eq (tgt := 1229) hg d_Law_law_1224 (by decide) ?_ ?_
          · refine r_sub [2, 3, 4, 5, 6] rfl ?_
            exact t_Law_law_J1229 hg hT rec_ hrec_ v4 μ_1202 k1 n1 hkn1
          · exact HX.none
      · exact HX.none
    refine h_ite (fun he_ => ?_) (fun _ => ?_)
    · refine r_tswIn (tgt := 1232) (y := 13) (off := 1193) hg d_Law_law_39 he_ (by decide) (by decide) (by decide) (by decide) ?_
      refine r_aload_n hg 1 d_Law_law_1232 rfl rfl ?_
      refine r_aload_n hg 0 d_Law_law_1233 rfl rfl ?_
      refine r_iload hg 4 d_Law_law_1234 rfl ?_
      refine r_iconst (v := 1) hg d_Law_law_1236 (by decide) ?_
      refine r_iadd hg d_Law_law_1237 ?_
      refine r_sld hg hT d_Law_law_1238 ?_
      refine r_aload_n hg 0 d_Law_law_1239 rfl rfl ?_
      refine r_iload hg 4 d_Law_law_1240 rfl ?_
      refine r_iconst (v := 2) hg d_Law_law_1242 (by decide) ?_
      refine r_iadd hg d_Law_law_1243 ?_
      refine r_sld hg hT d_Law_law_1244 ?_
      refine r_aload_n hg 3 d_Law_law_1245 rfl rfl ?_
      refine r_wcall (As := [.ref 84, .int (xs (Int32.toNatClampNeg (v4 + 1))), .int (xs (Int32.toNatClampNeg (v4 + 2))), .ref 143]) hg hT (t_Law_bag (xs (Int32.toNatClampNeg (v4 + 1))) (xs (Int32.toNatClampNeg (v4 + 2))) μ) v_Law_bag wm_Law_175 d_Law_law_1246 rfl ⟨by decide, by decide⟩ hkn (by decide) (Nat.le_of_ble_eq_true rfl) rfl (fun r1246 μ_1246 _ k1 n1 hkn1 => ?_)
      refine r_istore (l' := [(5, .int r1246), (0, .ref 144), (1, .ref 84), (2, .ref 125), (3, .ref 143), (4, .int v4)]) hg d_Law_law_1249 (Nat.le_of_ble_eq_true rfl) rfl ?_
      refine r_aload_n hg 3 d_Law_law_1251 rfl rfl ?_
      refine r_aload_n hg 1 d_Law_law_1252 rfl rfl ?_
      refine r_iload hg 5 d_Law_law_1253 rfl ?_
      refine r_iconst (v := 1) hg d_Law_law_1255 (by decide) ?_
      refine r_iadd hg d_Law_law_1256 ?_
      refine r_sld hg hT d_Law_law_1257 ?_
      refine r_aload_n hg 1 d_Law_law_1258 rfl rfl ?_
      refine r_iload hg 5 d_Law_law_1259 rfl ?_
      refine r_iconst (v := 2) hg d_Law_law_1261 (by decide) ?_
      refine r_iadd hg d_Law_law_1262 ?_
      refine r_sld hg hT d_Law_law_1263 ?_
      refine r_callV (As := [.int (xs (Int32.toNatClampNeg (v4 + 1))), .int (xs (Int32.toNatClampNeg (v4 + 2)))]) hg (t_Model_bag (xs (Int32.toNatClampNeg (v4 + 1))) (xs (Int32.toNatClampNeg (v4 + 2))) μ_1246) v_Model_bag c_Model rfl (by decide) rfl wm_Law_177 d_Law_law_1264 rfl ⟨by decide, by decide⟩ (Nat.le_of_ble_eq_true rfl) rfl (fun r1264 μ_1264 _ => ?_)
      refine r_istore (l' := [(6, .int r1264), (5, .int r1246), (0, .ref 144), (1, .ref 84), (2, .ref 125), (3, .ref 143), (4, .int v4)]) hg d_Law_law_1267 (Nat.le_of_ble_eq_true rfl) rfl ?_
      refine r_aload_n hg 4 d_Law_law_1269 rfl rfl ?_
      refine r_callV (As := []) hg (t_Model_thrown  μ_1264) v_Model_thrown c_Model rfl (by decide) rfl wm_Law_132 d_Law_law_1270 rfl ⟨by decide, by decide⟩ (Nat.le_of_ble_eq_true rfl) rfl (fun r1270 μ_1270 _ => ?_)
      refine r_iload hg 1 d_Law_law_1273 rfl ?_
      refine r_icmp_eq (tgt := 1280) hg d_Law_law_1275 (by decide) ?_ ?_
      · refine r_iload hg 1 d_Law_law_1280 rfl ?_
        refine r_if_ne (tgt := 1297) hg d_Law_law_1282 (by decide) ?_ ?_
        · refine r_sub [2, 3, 4, 5, 6] rfl ?_
          exact t_Law_law_J1297 hg hT rec_ hrec_ v4 μ_1270 k1 n1 hkn1
        · refine r_aload_n hg 5 d_Law_law_1285 rfl rfl ?_
          refine r_iconst (v := 0) hg d_Law_law_1286 (by decide) ?_
          refine r_lald hg (by decide) rfl d_Law_law_1287 ?_
          refine r_iload hg 0 d_Law_law_1288 rfl ?_
          refine r_i2l hg d_Law_law_1290 ?_
          refine r_lcmp hg d_Law_law_1291 ?_
          refine r_if_eq (tgt := 1297) hg d_Law_law_1292 (by decide) ?_ ?_
          · refine r_sub [2, 3, 4, 5, 6] rfl ?_
            exact t_Law_law_J1297 hg hT rec_ hrec_ v4 μ_1270 k1 n1 hkn1
          · exact HX.none
      · exact HX.none
    refine h_ite (fun he_ => ?_) (fun _ => ?_)
    · refine r_tswIn (tgt := 1300) (y := 14) (off := 1261) hg d_Law_law_39 he_ (by decide) (by decide) (by decide) (by decide) ?_
      refine r_aload_n hg 1 d_Law_law_1300 rfl rfl ?_
      refine r_aload_n hg 0 d_Law_law_1301 rfl rfl ?_
      refine r_iload hg 4 d_Law_law_1302 rfl ?_
      refine r_iconst (v := 1) hg d_Law_law_1304 (by decide) ?_
      refine r_iadd hg d_Law_law_1305 ?_
      refine r_sld hg hT d_Law_law_1306 ?_
      refine r_aload_n hg 0 d_Law_law_1307 rfl rfl ?_
      refine r_iload hg 4 d_Law_law_1308 rfl ?_
      refine r_iconst (v := 2) hg d_Law_law_1310 (by decide) ?_
      refine r_iadd hg d_Law_law_1311 ?_
      refine r_sld hg hT d_Law_law_1312 ?_
      refine r_aload_n hg 0 d_Law_law_1313 rfl rfl ?_
      refine r_iload hg 4 d_Law_law_1314 rfl ?_
      refine r_iconst (v := 3) hg d_Law_law_1316 (by decide) ?_
      refine r_iadd hg d_Law_law_1317 ?_
      refine r_sld hg hT d_Law_law_1318 ?_
      refine r_aload_n hg 3 d_Law_law_1319 rfl rfl ?_
      refine r_wcall (As := [.ref 84, .int (xs (Int32.toNatClampNeg (v4 + 1))), .int (xs (Int32.toNatClampNeg (v4 + 2))), .int (xs (Int32.toNatClampNeg (v4 + 3))), .ref 143]) hg hT (t_Law_count (xs (Int32.toNatClampNeg (v4 + 1))) (xs (Int32.toNatClampNeg (v4 + 2))) (xs (Int32.toNatClampNeg (v4 + 3))) μ) v_Law_count wm_Law_178 d_Law_law_1320 rfl ⟨by decide, by decide⟩ hkn (by decide) (Nat.le_of_ble_eq_true rfl) rfl (fun r1320 μ_1320 _ k1 n1 hkn1 => ?_)
      refine r_istore (l' := [(5, .int r1320), (0, .ref 144), (1, .ref 84), (2, .ref 125), (3, .ref 143), (4, .int v4)]) hg d_Law_law_1323 (Nat.le_of_ble_eq_true rfl) rfl ?_
      refine r_aload_n hg 3 d_Law_law_1325 rfl rfl ?_
      refine r_aload_n hg 1 d_Law_law_1326 rfl rfl ?_
      refine r_iload hg 5 d_Law_law_1327 rfl ?_
      refine r_iconst (v := 1) hg d_Law_law_1329 (by decide) ?_
      refine r_iadd hg d_Law_law_1330 ?_
      refine r_sld hg hT d_Law_law_1331 ?_
      refine r_aload_n hg 1 d_Law_law_1332 rfl rfl ?_
      refine r_iload hg 5 d_Law_law_1333 rfl ?_
      refine r_iconst (v := 2) hg d_Law_law_1335 (by decide) ?_
      refine r_iadd hg d_Law_law_1336 ?_
      refine r_sld hg hT d_Law_law_1337 ?_
      refine r_aload_n hg 1 d_Law_law_1338 rfl rfl ?_
      refine r_iload hg 5 d_Law_law_1339 rfl ?_
      refine r_iconst (v := 3) hg d_Law_law_1341 (by decide) ?_
      refine r_iadd hg d_Law_law_1342 ?_
      refine r_sld hg hT d_Law_law_1343 ?_
      refine r_callV (As := [.int (xs (Int32.toNatClampNeg (v4 + 1))), .int (xs (Int32.toNatClampNeg (v4 + 2))), .int (xs (Int32.toNatClampNeg (v4 + 3)))]) hg (t_Model_count (xs (Int32.toNatClampNeg (v4 + 1))) (xs (Int32.toNatClampNeg (v4 + 2))) (xs (Int32.toNatClampNeg (v4 + 3))) μ_1320) v_Model_count c_Model rfl (by decide) rfl wm_Law_180 d_Law_law_1344 rfl ⟨by decide, by decide⟩ (Nat.le_of_ble_eq_true rfl) rfl (fun r1344 μ_1344 _ => ?_)
      refine r_lstore (l' := [(6, .long r1344), (5, .int r1320), (0, .ref 144), (1, .ref 84), (2, .ref 125), (3, .ref 143), (4, .int v4)]) hg d_Law_law_1347 (Nat.le_of_ble_eq_true rfl) rfl ?_
      refine r_aload_n hg 4 d_Law_law_1349 rfl rfl ?_
      refine r_callV (As := []) hg (t_Model_thrown  μ_1344) v_Model_thrown c_Model rfl (by decide) rfl wm_Law_132 d_Law_law_1350 rfl ⟨by decide, by decide⟩ (Nat.le_of_ble_eq_true rfl) rfl (fun r1350 μ_1350 _ => ?_)
      refine r_iload hg 1 d_Law_law_1353 rfl ?_
      refine r_icmp_eq (tgt := 1360) hg d_Law_law_1355 (by decide) ?_ ?_
      · refine r_iload hg 1 d_Law_law_1360 rfl ?_
        refine r_if_ne (tgt := 1376) hg d_Law_law_1362 (by decide) ?_ ?_
        · refine r_sub [2, 3, 4, 5, 6] rfl ?_
          exact t_Law_law_J1376 hg hT rec_ hrec_ v4 μ_1350 k1 n1 hkn1
        · refine r_aload_n hg 5 d_Law_law_1365 rfl rfl ?_
          refine r_iconst (v := 0) hg d_Law_law_1366 (by decide) ?_
          refine r_lald hg (by decide) rfl d_Law_law_1367 ?_
          refine r_lload hg 0 d_Law_law_1368 rfl ?_
          refine r_lcmp hg d_Law_law_1370 ?_
          refine r_if_eq (tgt := 1376) hg d_Law_law_1371 (by decide) ?_ ?_
          · refine r_sub [2, 3, 4, 5, 6] rfl ?_
            exact t_Law_law_J1376 hg hT rec_ hrec_ v4 μ_1350 k1 n1 hkn1
          · exact HX.none
      · exact HX.none
    refine h_ite (fun he_ => ?_) (fun _ => ?_)
    · refine r_tswIn (tgt := 1379) (y := 15) (off := 1340) hg d_Law_law_39 he_ (by decide) (by decide) (by decide) (by decide) ?_
      refine r_aload_n hg 1 d_Law_law_1379 rfl rfl ?_
      refine r_aload_n hg 0 d_Law_law_1380 rfl rfl ?_
      refine r_iload hg 4 d_Law_law_1381 rfl ?_
      refine r_iconst (v := 1) hg d_Law_law_1383 (by decide) ?_
      refine r_iadd hg d_Law_law_1384 ?_
      refine r_sld hg hT d_Law_law_1385 ?_
      refine r_aload_n hg 0 d_Law_law_1386 rfl rfl ?_
      refine r_iload hg 4 d_Law_law_1387 rfl ?_
      refine r_iconst (v := 2) hg d_Law_law_1389 (by decide) ?_
      refine r_iadd hg d_Law_law_1390 ?_
      refine r_sld hg hT d_Law_law_1391 ?_
      refine r_aload_n hg 0 d_Law_law_1392 rfl rfl ?_
      refine r_iload hg 4 d_Law_law_1393 rfl ?_
      refine r_iconst (v := 3) hg d_Law_law_1395 (by decide) ?_
      refine r_iadd hg d_Law_law_1396 ?_
      refine r_sld hg hT d_Law_law_1397 ?_
      refine r_aload_n hg 3 d_Law_law_1398 rfl rfl ?_
      refine r_wcall (As := [.ref 84, .int (xs (Int32.toNatClampNeg (v4 + 1))), .int (xs (Int32.toNatClampNeg (v4 + 2))), .int (xs (Int32.toNatClampNeg (v4 + 3))), .ref 143]) hg hT (t_Law_density (xs (Int32.toNatClampNeg (v4 + 1))) (xs (Int32.toNatClampNeg (v4 + 2))) (xs (Int32.toNatClampNeg (v4 + 3))) μ) v_Law_density wm_Law_181 d_Law_law_1399 rfl ⟨by decide, by decide⟩ hkn (by decide) (Nat.le_of_ble_eq_true rfl) rfl (fun r1399 μ_1399 _ k1 n1 hkn1 => ?_)
      refine r_istore (l' := [(5, .int r1399), (0, .ref 144), (1, .ref 84), (2, .ref 125), (3, .ref 143), (4, .int v4)]) hg d_Law_law_1402 (Nat.le_of_ble_eq_true rfl) rfl ?_
      refine r_aload_n hg 3 d_Law_law_1404 rfl rfl ?_
      refine r_aload_n hg 1 d_Law_law_1405 rfl rfl ?_
      refine r_iload hg 5 d_Law_law_1406 rfl ?_
      refine r_iconst (v := 1) hg d_Law_law_1408 (by decide) ?_
      refine r_iadd hg d_Law_law_1409 ?_
      refine r_sld hg hT d_Law_law_1410 ?_
      refine r_aload_n hg 1 d_Law_law_1411 rfl rfl ?_
      refine r_iload hg 5 d_Law_law_1412 rfl ?_
      refine r_iconst (v := 2) hg d_Law_law_1414 (by decide) ?_
      refine r_iadd hg d_Law_law_1415 ?_
      refine r_sld hg hT d_Law_law_1416 ?_
      refine r_aload_n hg 1 d_Law_law_1417 rfl rfl ?_
      refine r_iload hg 5 d_Law_law_1418 rfl ?_
      refine r_iconst (v := 3) hg d_Law_law_1420 (by decide) ?_
      refine r_iadd hg d_Law_law_1421 ?_
      refine r_sld hg hT d_Law_law_1422 ?_
      refine r_callV (As := [.int (xs (Int32.toNatClampNeg (v4 + 1))), .int (xs (Int32.toNatClampNeg (v4 + 2))), .int (xs (Int32.toNatClampNeg (v4 + 3)))]) hg (t_Model_density (xs (Int32.toNatClampNeg (v4 + 1))) (xs (Int32.toNatClampNeg (v4 + 2))) (xs (Int32.toNatClampNeg (v4 + 3))) μ_1399) v_Model_density c_Model rfl (by decide) rfl wm_Law_183 d_Law_law_1423 rfl ⟨by decide, by decide⟩ (Nat.le_of_ble_eq_true rfl) rfl (fun r1423 μ_1423 _ => ?_)
      refine r_lstore (l' := [(6, .long r1423), (5, .int r1399), (0, .ref 144), (1, .ref 84), (2, .ref 125), (3, .ref 143), (4, .int v4)]) hg d_Law_law_1426 (Nat.le_of_ble_eq_true rfl) rfl ?_
      refine r_aload_n hg 4 d_Law_law_1428 rfl rfl ?_
      refine r_callV (As := []) hg (t_Model_thrown  μ_1423) v_Model_thrown c_Model rfl (by decide) rfl wm_Law_132 d_Law_law_1429 rfl ⟨by decide, by decide⟩ (Nat.le_of_ble_eq_true rfl) rfl (fun r1429 μ_1429 _ => ?_)
      refine r_iload hg 1 d_Law_law_1432 rfl ?_
      refine r_icmp_eq (tgt := 1439) hg d_Law_law_1434 (by decide) ?_ ?_
      · refine r_iload hg 1 d_Law_law_1439 rfl ?_
        refine r_if_ne (tgt := 1455) hg d_Law_law_1441 (by decide) ?_ ?_
        · refine r_sub [2, 3, 4, 5, 6] rfl ?_
          exact t_Law_law_J1455 hg hT rec_ hrec_ v4 μ_1429 k1 n1 hkn1
        · refine r_aload_n hg 5 d_Law_law_1444 rfl rfl ?_
          refine r_iconst (v := 0) hg d_Law_law_1445 (by decide) ?_
          refine r_lald hg (by decide) rfl d_Law_law_1446 ?_
          refine r_lload hg 0 d_Law_law_1447 rfl ?_
          refine r_lcmp hg d_Law_law_1449 ?_
          refine r_if_eq (tgt := 1455) hg d_Law_law_1450 (by decide) ?_ ?_
          · refine r_sub [2, 3, 4, 5, 6] rfl ?_
            exact t_Law_law_J1455 hg hT rec_ hrec_ v4 μ_1429 k1 n1 hkn1
          · exact HX.none
      · exact HX.none
    refine h_ite (fun he_ => ?_) (fun _ => ?_)
    · refine r_tswIn (tgt := 1458) (y := 16) (off := 1419) hg d_Law_law_39 he_ (by decide) (by decide) (by decide) (by decide) ?_
      refine r_aload_n hg 1 d_Law_law_1458 rfl rfl ?_
      refine r_aload_n hg 0 d_Law_law_1459 rfl rfl ?_
      refine r_iload hg 4 d_Law_law_1460 rfl ?_
      refine r_iconst (v := 1) hg d_Law_law_1462 (by decide) ?_
      refine r_iadd hg d_Law_law_1463 ?_
      refine r_sld hg hT d_Law_law_1464 ?_
      refine r_aload_n hg 3 d_Law_law_1465 rfl rfl ?_
      refine r_wcall (As := [.ref 84, .int (xs (Int32.toNatClampNeg (v4 + 1))), .ref 143]) hg hT (t_Law_automorphisms (xs (Int32.toNatClampNeg (v4 + 1))) μ) v_Law_automorphisms wm_Law_184 d_Law_law_1466 rfl ⟨by decide, by decide⟩ hkn (by decide) (Nat.le_of_ble_eq_true rfl) rfl (fun r1466 μ_1466 _ k1 n1 hkn1 => ?_)
      refine r_istore (l' := [(5, .int r1466), (0, .ref 144), (1, .ref 84), (2, .ref 125), (3, .ref 143), (4, .int v4)]) hg d_Law_law_1469 (Nat.le_of_ble_eq_true rfl) rfl ?_
      refine r_aload_n hg 3 d_Law_law_1471 rfl rfl ?_
      refine r_aload_n hg 1 d_Law_law_1472 rfl rfl ?_
      refine r_iload hg 5 d_Law_law_1473 rfl ?_
      refine r_iconst (v := 1) hg d_Law_law_1475 (by decide) ?_
      refine r_iadd hg d_Law_law_1476 ?_
      refine r_sld hg hT d_Law_law_1477 ?_
      refine r_callV (As := [.int (xs (Int32.toNatClampNeg (v4 + 1)))]) hg (t_Model_automorphisms (xs (Int32.toNatClampNeg (v4 + 1))) μ_1466) v_Model_automorphisms c_Model rfl (by decide) rfl wm_Law_186 d_Law_law_1478 rfl ⟨by decide, by decide⟩ (Nat.le_of_ble_eq_true rfl) rfl (fun r1478 μ_1478 _ => ?_)
      refine r_istore (l' := [(6, .int r1478), (5, .int r1466), (0, .ref 144), (1, .ref 84), (2, .ref 125), (3, .ref 143), (4, .int v4)]) hg d_Law_law_1481 (Nat.le_of_ble_eq_true rfl) rfl ?_
      refine r_aload_n hg 4 d_Law_law_1483 rfl rfl ?_
      refine r_callV (As := []) hg (t_Model_thrown  μ_1478) v_Model_thrown c_Model rfl (by decide) rfl wm_Law_132 d_Law_law_1484 rfl ⟨by decide, by decide⟩ (Nat.le_of_ble_eq_true rfl) rfl (fun r1484 μ_1484 _ => ?_)
      refine r_iload hg 1 d_Law_law_1487 rfl ?_
      refine r_icmp_eq (tgt := 1494) hg d_Law_law_1489 (by decide) ?_ ?_
      · refine r_iload hg 1 d_Law_law_1494 rfl ?_
        refine r_if_ne (tgt := 1511) hg d_Law_law_1496 (by decide) ?_ ?_
        · refine r_sub [2, 3, 4, 5, 6] rfl ?_
          exact t_Law_law_J1511 hg hT rec_ hrec_ v4 μ_1484 k1 n1 hkn1
        · refine r_aload_n hg 5 d_Law_law_1499 rfl rfl ?_
          refine r_iconst (v := 0) hg d_Law_law_1500 (by decide) ?_
          refine r_lald hg (by decide) rfl d_Law_law_1501 ?_
          refine r_iload hg 0 d_Law_law_1502 rfl ?_
          refine r_i2l hg d_Law_law_1504 ?_
          refine r_lcmp hg d_Law_law_1505 ?_
          refine r_if_eq (tgt := 1511) hg d_Law_law_1506 (by decide) ?_ ?_
          · refine r_sub [2, 3, 4, 5, 6] rfl ?_
            exact t_Law_law_J1511 hg hT rec_ hrec_ v4 μ_1484 k1 n1 hkn1
          · exact HX.none
      · exact HX.none
    refine h_ite (fun he_ => ?_) (fun _ => ?_)
    · refine r_tswIn (tgt := 1514) (y := 17) (off := 1475) hg d_Law_law_39 he_ (by decide) (by decide) (by decide) (by decide) ?_
      refine r_aload_n hg 1 d_Law_law_1514 rfl rfl ?_
      refine r_aload_n hg 0 d_Law_law_1515 rfl rfl ?_
      refine r_iload hg 4 d_Law_law_1516 rfl ?_
      refine r_iconst (v := 1) hg d_Law_law_1518 (by decide) ?_
      refine r_iadd hg d_Law_law_1519 ?_
      refine r_sld hg hT d_Law_law_1520 ?_
      refine r_aload_n hg 0 d_Law_law_1521 rfl rfl ?_
      refine r_iload hg 4 d_Law_law_1522 rfl ?_
      refine r_iconst (v := 2) hg d_Law_law_1524 (by decide) ?_
      refine r_iadd hg d_Law_law_1525 ?_
      refine r_sld hg hT d_Law_law_1526 ?_
      refine r_aload_n hg 3 d_Law_law_1527 rfl rfl ?_
      refine r_wcall (As := [.ref 84, .int (xs (Int32.toNatClampNeg (v4 + 1))), .int (xs (Int32.toNatClampNeg (v4 + 2))), .ref 143]) hg hT (t_Law_isomorphic (xs (Int32.toNatClampNeg (v4 + 1))) (xs (Int32.toNatClampNeg (v4 + 2))) μ) v_Law_isomorphic wm_Law_187 d_Law_law_1528 rfl ⟨by decide, by decide⟩ hkn (by decide) (Nat.le_of_ble_eq_true rfl) rfl (fun r1528 μ_1528 _ k1 n1 hkn1 => ?_)
      refine r_istore (l' := [(5, .int r1528), (0, .ref 144), (1, .ref 84), (2, .ref 125), (3, .ref 143), (4, .int v4)]) hg d_Law_law_1531 (Nat.le_of_ble_eq_true rfl) rfl ?_
      refine r_aload_n hg 3 d_Law_law_1533 rfl rfl ?_
      refine r_aload_n hg 1 d_Law_law_1534 rfl rfl ?_
      refine r_iload hg 5 d_Law_law_1535 rfl ?_
      refine r_iconst (v := 1) hg d_Law_law_1537 (by decide) ?_
      refine r_iadd hg d_Law_law_1538 ?_
      refine r_sld hg hT d_Law_law_1539 ?_
      refine r_aload_n hg 1 d_Law_law_1540 rfl rfl ?_
      refine r_iload hg 5 d_Law_law_1541 rfl ?_
      refine r_iconst (v := 2) hg d_Law_law_1543 (by decide) ?_
      refine r_iadd hg d_Law_law_1544 ?_
      refine r_sld hg hT d_Law_law_1545 ?_
      refine r_callV (As := [.int (xs (Int32.toNatClampNeg (v4 + 1))), .int (xs (Int32.toNatClampNeg (v4 + 2)))]) hg (t_Model_isomorphic (xs (Int32.toNatClampNeg (v4 + 1))) (xs (Int32.toNatClampNeg (v4 + 2))) μ_1528) v_Model_isomorphic c_Model rfl (by decide) rfl wm_Law_189 d_Law_law_1546 rfl ⟨by decide, by decide⟩ (Nat.le_of_ble_eq_true rfl) rfl (fun r1546 μ_1546 _ => ?_)
      refine r_istore (l' := [(6, .int r1546), (5, .int r1528), (0, .ref 144), (1, .ref 84), (2, .ref 125), (3, .ref 143), (4, .int v4)]) hg d_Law_law_1549 (Nat.le_of_ble_eq_true rfl) rfl ?_
      refine r_aload_n hg 4 d_Law_law_1551 rfl rfl ?_
      refine r_callV (As := []) hg (t_Model_thrown  μ_1546) v_Model_thrown c_Model rfl (by decide) rfl wm_Law_132 d_Law_law_1552 rfl ⟨by decide, by decide⟩ (Nat.le_of_ble_eq_true rfl) rfl (fun r1552 μ_1552 _ => ?_)
      refine r_iload hg 1 d_Law_law_1555 rfl ?_
      refine r_icmp_eq (tgt := 1562) hg d_Law_law_1557 (by decide) ?_ ?_
      · refine r_iload hg 1 d_Law_law_1562 rfl ?_
        refine r_if_ne (tgt := 1586) hg d_Law_law_1564 (by decide) ?_ ?_
        · refine r_sub [2, 3, 4, 5, 6] rfl ?_
          exact t_Law_law_J1586 hg hT rec_ hrec_ v4 μ_1552 k1 n1 hkn1
        · refine r_aload_n hg 5 d_Law_law_1567 rfl rfl ?_
          refine r_iconst (v := 0) hg d_Law_law_1568 (by decide) ?_
          refine r_lald hg (by decide) rfl d_Law_law_1569 ?_
          refine r_iload hg 0 d_Law_law_1570 rfl ?_
          refine r_if_eq (tgt := 1579) hg d_Law_law_1572 (by decide) ?_ ?_
          · refine r_lconst (v := 0) hg d_Law_law_1579 (by decide) ?_
            refine r_sub [2, 3, 4, 5, 6] rfl ?_
            exact t_Law_law_J1580 hg hT rec_ hrec_ v4 0 (μ_1552.2 143 (Int32.toNatClampNeg (0))) μ_1552 k1 n1 hkn1
          · refine r_lconst (v := 1) hg d_Law_law_1575 (by decide) ?_
            refine r_goto (tgt := 1580) hg d_Law_law_1576 (by decide) ?_
            refine r_sub [2, 3, 4, 5, 6] rfl ?_
            exact t_Law_law_J1580 hg hT rec_ hrec_ v4 1 (μ_1552.2 143 (Int32.toNatClampNeg (0))) μ_1552 k1 n1 hkn1
      · exact HX.none
    refine h_ite (fun he_ => ?_) (fun _ => ?_)
    · refine r_tswIn (tgt := 1589) (y := 18) (off := 1550) hg d_Law_law_39 he_ (by decide) (by decide) (by decide) (by decide) ?_
      refine r_aload_n hg 1 d_Law_law_1589 rfl rfl ?_
      refine r_aload_n hg 0 d_Law_law_1590 rfl rfl ?_
      refine r_iload hg 4 d_Law_law_1591 rfl ?_
      refine r_iconst (v := 1) hg d_Law_law_1593 (by decide) ?_
      refine r_iadd hg d_Law_law_1594 ?_
      refine r_sld hg hT d_Law_law_1595 ?_
      refine r_aload_n hg 0 d_Law_law_1596 rfl rfl ?_
      refine r_iload hg 4 d_Law_law_1597 rfl ?_
      refine r_iconst (v := 2) hg d_Law_law_1599 (by decide) ?_
      refine r_iadd hg d_Law_law_1600 ?_
      refine r_sld hg hT d_Law_law_1601 ?_
      refine r_aload_n hg 0 d_Law_law_1602 rfl rfl ?_
      refine r_iload hg 4 d_Law_law_1603 rfl ?_
      refine r_iconst (v := 3) hg d_Law_law_1605 (by decide) ?_
      refine r_iadd hg d_Law_law_1606 ?_
      refine r_sld hg hT d_Law_law_1607 ?_
      refine r_aload_n hg 3 d_Law_law_1608 rfl rfl ?_
      refine r_wcall (As := [.ref 84, .int (xs (Int32.toNatClampNeg (v4 + 1))), .int (xs (Int32.toNatClampNeg (v4 + 2))), .int (xs (Int32.toNatClampNeg (v4 + 3))), .ref 143]) hg hT (t_Law_image (xs (Int32.toNatClampNeg (v4 + 1))) (xs (Int32.toNatClampNeg (v4 + 2))) (xs (Int32.toNatClampNeg (v4 + 3))) μ) v_Law_image wm_Law_190 d_Law_law_1609 rfl ⟨by decide, by decide⟩ hkn (by decide) (Nat.le_of_ble_eq_true rfl) rfl (fun r1609 μ_1609 _ k1 n1 hkn1 => ?_)
      refine r_istore (l' := [(5, .int r1609), (0, .ref 144), (1, .ref 84), (2, .ref 125), (3, .ref 143), (4, .int v4)]) hg d_Law_law_1612 (Nat.le_of_ble_eq_true rfl) rfl ?_
      refine r_aload_n hg 3 d_Law_law_1614 rfl rfl ?_
      refine r_aload_n hg 1 d_Law_law_1615 rfl rfl ?_
      refine r_iload hg 5 d_Law_law_1616 rfl ?_
      refine r_iconst (v := 1) hg d_Law_law_1618 (by decide) ?_
      refine r_iadd hg d_Law_law_1619 ?_
      refine r_sld hg hT d_Law_law_1620 ?_
      refine r_aload_n hg 1 d_Law_law_1621 rfl rfl ?_
      refine r_iload hg 5 d_Law_law_1622 rfl ?_
      refine r_iconst (v := 2) hg d_Law_law_1624 (by decide) ?_
      refine r_iadd hg d_Law_law_1625 ?_
      refine r_sld hg hT d_Law_law_1626 ?_
      refine r_aload_n hg 1 d_Law_law_1627 rfl rfl ?_
      refine r_iload hg 5 d_Law_law_1628 rfl ?_
      refine r_iconst (v := 3) hg d_Law_law_1630 (by decide) ?_
      refine r_iadd hg d_Law_law_1631 ?_
      refine r_sld hg hT d_Law_law_1632 ?_
      refine r_callV (As := [.int (xs (Int32.toNatClampNeg (v4 + 1))), .int (xs (Int32.toNatClampNeg (v4 + 2))), .int (xs (Int32.toNatClampNeg (v4 + 3)))]) hg (t_Model_image (xs (Int32.toNatClampNeg (v4 + 1))) (xs (Int32.toNatClampNeg (v4 + 2))) (xs (Int32.toNatClampNeg (v4 + 3))) μ_1609) v_Model_image c_Model rfl (by decide) rfl wm_Law_192 d_Law_law_1633 rfl ⟨by decide, by decide⟩ (Nat.le_of_ble_eq_true rfl) rfl (fun r1633 μ_1633 _ => ?_)
      refine r_istore (l' := [(6, .int r1633), (5, .int r1609), (0, .ref 144), (1, .ref 84), (2, .ref 125), (3, .ref 143), (4, .int v4)]) hg d_Law_law_1636 (Nat.le_of_ble_eq_true rfl) rfl ?_
      refine r_aload_n hg 4 d_Law_law_1638 rfl rfl ?_
      refine r_callV (As := []) hg (t_Model_thrown  μ_1633) v_Model_thrown c_Model rfl (by decide) rfl wm_Law_132 d_Law_law_1639 rfl ⟨by decide, by decide⟩ (Nat.le_of_ble_eq_true rfl) rfl (fun r1639 μ_1639 _ => ?_)
      refine r_iload hg 1 d_Law_law_1642 rfl ?_
      refine r_icmp_eq (tgt := 1649) hg d_Law_law_1644 (by decide) ?_ ?_
      · refine r_iload hg 1 d_Law_law_1649 rfl ?_
        refine r_if_ne (tgt := 1666) hg d_Law_law_1651 (by decide) ?_ ?_
        · refine r_sub [2, 3, 4, 5, 6] rfl ?_
          exact t_Law_law_J1666 hg hT rec_ hrec_ v4 μ_1639 k1 n1 hkn1
        · refine r_aload_n hg 5 d_Law_law_1654 rfl rfl ?_
          refine r_iconst (v := 0) hg d_Law_law_1655 (by decide) ?_
          refine r_lald hg (by decide) rfl d_Law_law_1656 ?_
          refine r_iload hg 0 d_Law_law_1657 rfl ?_
          refine r_i2l hg d_Law_law_1659 ?_
          refine r_lcmp hg d_Law_law_1660 ?_
          refine r_if_eq (tgt := 1666) hg d_Law_law_1661 (by decide) ?_ ?_
          · refine r_sub [2, 3, 4, 5, 6] rfl ?_
            exact t_Law_law_J1666 hg hT rec_ hrec_ v4 μ_1639 k1 n1 hkn1
          · exact HX.none
      · exact HX.none
    refine h_ite (fun he_ => ?_) (fun _ => ?_)
    · refine r_tswIn (tgt := 1669) (y := 19) (off := 1630) hg d_Law_law_39 he_ (by decide) (by decide) (by decide) (by decide) ?_
      refine r_aload_n hg 1 d_Law_law_1669 rfl rfl ?_
      refine r_aload_n hg 0 d_Law_law_1670 rfl rfl ?_
      refine r_iload hg 4 d_Law_law_1671 rfl ?_
      refine r_iconst (v := 1) hg d_Law_law_1673 (by decide) ?_
      refine r_iadd hg d_Law_law_1674 ?_
      refine r_sld hg hT d_Law_law_1675 ?_
      refine r_aload_n hg 0 d_Law_law_1676 rfl rfl ?_
      refine r_iload hg 4 d_Law_law_1677 rfl ?_
      refine r_iconst (v := 2) hg d_Law_law_1679 (by decide) ?_
      refine r_iadd hg d_Law_law_1680 ?_
      refine r_sld hg hT d_Law_law_1681 ?_
      refine r_aload_n hg 3 d_Law_law_1682 rfl rfl ?_
      refine r_wcall (As := [.ref 84, .int (xs (Int32.toNatClampNeg (v4 + 1))), .int (xs (Int32.toNatClampNeg (v4 + 2))), .ref 143]) hg hT (t_Law_compare (xs (Int32.toNatClampNeg (v4 + 1))) (xs (Int32.toNatClampNeg (v4 + 2))) μ) v_Law_compare wm_Law_193 d_Law_law_1683 rfl ⟨by decide, by decide⟩ hkn (by decide) (Nat.le_of_ble_eq_true rfl) rfl (fun r1683 μ_1683 _ k1 n1 hkn1 => ?_)
      refine r_istore (l' := [(5, .int r1683), (0, .ref 144), (1, .ref 84), (2, .ref 125), (3, .ref 143), (4, .int v4)]) hg d_Law_law_1686 (Nat.le_of_ble_eq_true rfl) rfl ?_
      refine r_aload_n hg 3 d_Law_law_1688 rfl rfl ?_
      refine r_aload_n hg 1 d_Law_law_1689 rfl rfl ?_
      refine r_iload hg 5 d_Law_law_1690 rfl ?_
      refine r_iconst (v := 1) hg d_Law_law_1692 (by decide) ?_
      refine r_iadd hg d_Law_law_1693 ?_
      refine r_sld hg hT d_Law_law_1694 ?_
      refine r_aload_n hg 1 d_Law_law_1695 rfl rfl ?_
      refine r_iload hg 5 d_Law_law_1696 rfl ?_
      refine r_iconst (v := 2) hg d_Law_law_1698 (by decide) ?_
      refine r_iadd hg d_Law_law_1699 ?_
      refine r_sld hg hT d_Law_law_1700 ?_
      refine r_callV (As := [.int (xs (Int32.toNatClampNeg (v4 + 1))), .int (xs (Int32.toNatClampNeg (v4 + 2)))]) hg (t_Model_compare (xs (Int32.toNatClampNeg (v4 + 1))) (xs (Int32.toNatClampNeg (v4 + 2))) μ_1683) v_Model_compare c_Model rfl (by decide) rfl wm_Law_195 d_Law_law_1701 rfl ⟨by decide, by decide⟩ (Nat.le_of_ble_eq_true rfl) rfl (fun r1701 μ_1701 _ => ?_)
      refine r_istore (l' := [(6, .int r1701), (5, .int r1683), (0, .ref 144), (1, .ref 84), (2, .ref 125), (3, .ref 143), (4, .int v4)]) hg d_Law_law_1704 (Nat.le_of_ble_eq_true rfl) rfl ?_
      refine r_aload_n hg 4 d_Law_law_1706 rfl rfl ?_
      refine r_callV (As := []) hg (t_Model_thrown  μ_1701) v_Model_thrown c_Model rfl (by decide) rfl wm_Law_132 d_Law_law_1707 rfl ⟨by decide, by decide⟩ (Nat.le_of_ble_eq_true rfl) rfl (fun r1707 μ_1707 _ => ?_)
      refine r_iload hg 1 d_Law_law_1710 rfl ?_
      refine r_icmp_eq (tgt := 1717) hg d_Law_law_1712 (by decide) ?_ ?_
      · refine r_iload hg 1 d_Law_law_1717 rfl ?_
        refine r_if_ne (tgt := 1734) hg d_Law_law_1719 (by decide) ?_ ?_
        · refine r_sub [2, 3, 4, 5, 6] rfl ?_
          exact t_Law_law_J1734 hg hT rec_ hrec_ v4 μ_1707 k1 n1 hkn1
        · refine r_aload_n hg 5 d_Law_law_1722 rfl rfl ?_
          refine r_iconst (v := 0) hg d_Law_law_1723 (by decide) ?_
          refine r_lald hg (by decide) rfl d_Law_law_1724 ?_
          refine r_iload hg 0 d_Law_law_1725 rfl ?_
          refine r_i2l hg d_Law_law_1727 ?_
          refine r_lcmp hg d_Law_law_1728 ?_
          refine r_if_eq (tgt := 1734) hg d_Law_law_1729 (by decide) ?_ ?_
          · refine r_sub [2, 3, 4, 5, 6] rfl ?_
            exact t_Law_law_J1734 hg hT rec_ hrec_ v4 μ_1707 k1 n1 hkn1
          · exact HX.none
      · exact HX.none
    refine h_ite (fun he_ => ?_) (fun _ => ?_)
    · refine r_tswIn (tgt := 1737) (y := 20) (off := 1698) hg d_Law_law_39 he_ (by decide) (by decide) (by decide) (by decide) ?_
      refine r_aload_n hg 1 d_Law_law_1737 rfl rfl ?_
      refine r_aload_n hg 0 d_Law_law_1738 rfl rfl ?_
      refine r_iload hg 4 d_Law_law_1739 rfl ?_
      refine r_iconst (v := 1) hg d_Law_law_1741 (by decide) ?_
      refine r_iadd hg d_Law_law_1742 ?_
      refine r_sld hg hT d_Law_law_1743 ?_
      refine r_aload_n hg 0 d_Law_law_1744 rfl rfl ?_
      refine r_iload hg 4 d_Law_law_1745 rfl ?_
      refine r_iconst (v := 2) hg d_Law_law_1747 (by decide) ?_
      refine r_iadd hg d_Law_law_1748 ?_
      refine r_sld hg hT d_Law_law_1749 ?_
      refine r_aload_n hg 3 d_Law_law_1750 rfl rfl ?_
      refine r_wcall (As := [.ref 84, .int (xs (Int32.toNatClampNeg (v4 + 1))), .int (xs (Int32.toNatClampNeg (v4 + 2))), .ref 143]) hg hT (t_Law_colorings (xs (Int32.toNatClampNeg (v4 + 1))) (xs (Int32.toNatClampNeg (v4 + 2))) μ) v_Law_colorings wm_Law_196 d_Law_law_1751 rfl ⟨by decide, by decide⟩ hkn (by decide) (Nat.le_of_ble_eq_true rfl) rfl (fun r1751 μ_1751 _ k1 n1 hkn1 => ?_)
      refine r_istore (l' := [(5, .int r1751), (0, .ref 144), (1, .ref 84), (2, .ref 125), (3, .ref 143), (4, .int v4)]) hg d_Law_law_1754 (Nat.le_of_ble_eq_true rfl) rfl ?_
      refine r_aload_n hg 3 d_Law_law_1756 rfl rfl ?_
      refine r_aload_n hg 1 d_Law_law_1757 rfl rfl ?_
      refine r_iload hg 5 d_Law_law_1758 rfl ?_
      refine r_iconst (v := 1) hg d_Law_law_1760 (by decide) ?_
      refine r_iadd hg d_Law_law_1761 ?_
      refine r_sld hg hT d_Law_law_1762 ?_
      refine r_aload_n hg 1 d_Law_law_1763 rfl rfl ?_
      refine r_iload hg 5 d_Law_law_1764 rfl ?_
      refine r_iconst (v := 2) hg d_Law_law_1766 (by decide) ?_
      refine r_iadd hg d_Law_law_1767 ?_
      refine r_sld hg hT d_Law_law_1768 ?_
      refine r_callV (As := [.int (xs (Int32.toNatClampNeg (v4 + 1))), .int (xs (Int32.toNatClampNeg (v4 + 2)))]) hg (t_Model_colorings (xs (Int32.toNatClampNeg (v4 + 1))) (xs (Int32.toNatClampNeg (v4 + 2))) μ_1751) v_Model_colorings c_Model rfl (by decide) rfl wm_Law_198 d_Law_law_1769 rfl ⟨by decide, by decide⟩ (Nat.le_of_ble_eq_true rfl) rfl (fun r1769 μ_1769 _ => ?_)
      refine r_lstore (l' := [(6, .long r1769), (5, .int r1751), (0, .ref 144), (1, .ref 84), (2, .ref 125), (3, .ref 143), (4, .int v4)]) hg d_Law_law_1772 (Nat.le_of_ble_eq_true rfl) rfl ?_
      refine r_aload_n hg 4 d_Law_law_1774 rfl rfl ?_
      refine r_callV (As := []) hg (t_Model_thrown  μ_1769) v_Model_thrown c_Model rfl (by decide) rfl wm_Law_132 d_Law_law_1775 rfl ⟨by decide, by decide⟩ (Nat.le_of_ble_eq_true rfl) rfl (fun r1775 μ_1775 _ => ?_)
      refine r_iload hg 1 d_Law_law_1778 rfl ?_
      refine r_icmp_eq (tgt := 1785) hg d_Law_law_1780 (by decide) ?_ ?_
      · refine r_iload hg 1 d_Law_law_1785 rfl ?_
        refine r_if_ne (tgt := 1801) hg d_Law_law_1787 (by decide) ?_ ?_
        · refine r_sub [2, 3, 4, 5, 6] rfl ?_
          exact t_Law_law_J1801 hg hT rec_ hrec_ v4 μ_1775 k1 n1 hkn1
        · refine r_aload_n hg 5 d_Law_law_1790 rfl rfl ?_
          refine r_iconst (v := 0) hg d_Law_law_1791 (by decide) ?_
          refine r_lald hg (by decide) rfl d_Law_law_1792 ?_
          refine r_lload hg 0 d_Law_law_1793 rfl ?_
          refine r_lcmp hg d_Law_law_1795 ?_
          refine r_if_eq (tgt := 1801) hg d_Law_law_1796 (by decide) ?_ ?_
          · refine r_sub [2, 3, 4, 5, 6] rfl ?_
            exact t_Law_law_J1801 hg hT rec_ hrec_ v4 μ_1775 k1 n1 hkn1
          · exact HX.none
      · exact HX.none
    refine h_ite (fun he_ => ?_) (fun _ => ?_)
    · refine r_tswIn (tgt := 1804) (y := 21) (off := 1765) hg d_Law_law_39 he_ (by decide) (by decide) (by decide) (by decide) ?_
      refine r_aload_n hg 1 d_Law_law_1804 rfl rfl ?_
      refine r_aload_n hg 0 d_Law_law_1805 rfl rfl ?_
      refine r_iload hg 4 d_Law_law_1806 rfl ?_
      refine r_iconst (v := 1) hg d_Law_law_1808 (by decide) ?_
      refine r_iadd hg d_Law_law_1809 ?_
      refine r_sld hg hT d_Law_law_1810 ?_
      refine r_aload_n hg 3 d_Law_law_1811 rfl rfl ?_
      refine r_wcall (As := [.ref 84, .int (xs (Int32.toNatClampNeg (v4 + 1))), .ref 143]) hg hT (t_Law_chromatic (xs (Int32.toNatClampNeg (v4 + 1))) μ) v_Law_chromatic wm_Law_199 d_Law_law_1812 rfl ⟨by decide, by decide⟩ hkn (by decide) (Nat.le_of_ble_eq_true rfl) rfl (fun r1812 μ_1812 _ k1 n1 hkn1 => ?_)
      refine r_istore (l' := [(5, .int r1812), (0, .ref 144), (1, .ref 84), (2, .ref 125), (3, .ref 143), (4, .int v4)]) hg d_Law_law_1815 (Nat.le_of_ble_eq_true rfl) rfl ?_
      refine r_aload_n hg 3 d_Law_law_1817 rfl rfl ?_
      refine r_aload_n hg 1 d_Law_law_1818 rfl rfl ?_
      refine r_iload hg 5 d_Law_law_1819 rfl ?_
      refine r_iconst (v := 1) hg d_Law_law_1821 (by decide) ?_
      refine r_iadd hg d_Law_law_1822 ?_
      refine r_sld hg hT d_Law_law_1823 ?_
      refine r_callV (As := [.int (xs (Int32.toNatClampNeg (v4 + 1)))]) hg (t_Model_chromatic (xs (Int32.toNatClampNeg (v4 + 1))) μ_1812) v_Model_chromatic c_Model rfl (by decide) rfl wm_Law_201 d_Law_law_1824 rfl ⟨by decide, by decide⟩ (Nat.le_of_ble_eq_true rfl) rfl (fun r1824 μ_1824 _ => ?_)
      refine r_istore (l' := [(6, .int r1824), (5, .int r1812), (0, .ref 144), (1, .ref 84), (2, .ref 125), (3, .ref 143), (4, .int v4)]) hg d_Law_law_1827 (Nat.le_of_ble_eq_true rfl) rfl ?_
      refine r_aload_n hg 4 d_Law_law_1829 rfl rfl ?_
      refine r_callV (As := []) hg (t_Model_thrown  μ_1824) v_Model_thrown c_Model rfl (by decide) rfl wm_Law_132 d_Law_law_1830 rfl ⟨by decide, by decide⟩ (Nat.le_of_ble_eq_true rfl) rfl (fun r1830 μ_1830 _ => ?_)
      refine r_iload hg 1 d_Law_law_1833 rfl ?_
      refine r_icmp_eq (tgt := 1840) hg d_Law_law_1835 (by decide) ?_ ?_
      · refine r_iload hg 1 d_Law_law_1840 rfl ?_
        refine r_if_ne (tgt := 1857) hg d_Law_law_1842 (by decide) ?_ ?_
        · refine r_sub [2, 3, 4, 5, 6] rfl ?_
          exact t_Law_law_J1857 hg hT rec_ hrec_ v4 μ_1830 k1 n1 hkn1
        · refine r_aload_n hg 5 d_Law_law_1845 rfl rfl ?_
          refine r_iconst (v := 0) hg d_Law_law_1846 (by decide) ?_
          refine r_lald hg (by decide) rfl d_Law_law_1847 ?_
          refine r_iload hg 0 d_Law_law_1848 rfl ?_
          refine r_i2l hg d_Law_law_1850 ?_
          refine r_lcmp hg d_Law_law_1851 ?_
          refine r_if_eq (tgt := 1857) hg d_Law_law_1852 (by decide) ?_ ?_
          · refine r_sub [2, 3, 4, 5, 6] rfl ?_
            exact t_Law_law_J1857 hg hT rec_ hrec_ v4 μ_1830 k1 n1 hkn1
          · exact HX.none
      · exact HX.none
    refine h_ite (fun he_ => ?_) (fun _ => ?_)
    · refine r_tswIn (tgt := 1860) (y := 22) (off := 1821) hg d_Law_law_39 he_ (by decide) (by decide) (by decide) (by decide) ?_
      refine r_aload_n hg 1 d_Law_law_1860 rfl rfl ?_
      refine r_aload_n hg 0 d_Law_law_1861 rfl rfl ?_
      refine r_iload hg 4 d_Law_law_1862 rfl ?_
      refine r_iconst (v := 1) hg d_Law_law_1864 (by decide) ?_
      refine r_iadd hg d_Law_law_1865 ?_
      refine r_sld hg hT d_Law_law_1866 ?_
      refine r_aload_n hg 0 d_Law_law_1867 rfl rfl ?_
      refine r_iload hg 4 d_Law_law_1868 rfl ?_
      refine r_iconst (v := 2) hg d_Law_law_1870 (by decide) ?_
      refine r_iadd hg d_Law_law_1871 ?_
      refine r_sld hg hT d_Law_law_1872 ?_
      refine r_aload_n hg 3 d_Law_law_1873 rfl rfl ?_
      refine r_wcall (As := [.ref 84, .int (xs (Int32.toNatClampNeg (v4 + 1))), .int (xs (Int32.toNatClampNeg (v4 + 2))), .ref 143]) hg hT (t_Law_independent (xs (Int32.toNatClampNeg (v4 + 1))) (xs (Int32.toNatClampNeg (v4 + 2))) μ) v_Law_independent wm_Law_202 d_Law_law_1874 rfl ⟨by decide, by decide⟩ hkn (by decide) (Nat.le_of_ble_eq_true rfl) rfl (fun r1874 μ_1874 _ k1 n1 hkn1 => ?_)
      refine r_istore (l' := [(5, .int r1874), (0, .ref 144), (1, .ref 84), (2, .ref 125), (3, .ref 143), (4, .int v4)]) hg d_Law_law_1877 (Nat.le_of_ble_eq_true rfl) rfl ?_
      refine r_aload_n hg 3 d_Law_law_1879 rfl rfl ?_
      refine r_aload_n hg 1 d_Law_law_1880 rfl rfl ?_
      refine r_iload hg 5 d_Law_law_1881 rfl ?_
      refine r_iconst (v := 1) hg d_Law_law_1883 (by decide) ?_
      refine r_iadd hg d_Law_law_1884 ?_
      refine r_sld hg hT d_Law_law_1885 ?_
      refine r_aload_n hg 1 d_Law_law_1886 rfl rfl ?_
      refine r_iload hg 5 d_Law_law_1887 rfl ?_
      refine r_iconst (v := 2) hg d_Law_law_1889 (by decide) ?_
      refine r_iadd hg d_Law_law_1890 ?_
      refine r_sld hg hT d_Law_law_1891 ?_
      refine r_callV (As := [.int (xs (Int32.toNatClampNeg (v4 + 1))), .int (xs (Int32.toNatClampNeg (v4 + 2)))]) hg (t_Model_independent (xs (Int32.toNatClampNeg (v4 + 1))) (xs (Int32.toNatClampNeg (v4 + 2))) μ_1874) v_Model_independent c_Model rfl (by decide) rfl wm_Law_204 d_Law_law_1892 rfl ⟨by decide, by decide⟩ (Nat.le_of_ble_eq_true rfl) rfl (fun r1892 μ_1892 _ => ?_)
      refine r_istore (l' := [(6, .int r1892), (5, .int r1874), (0, .ref 144), (1, .ref 84), (2, .ref 125), (3, .ref 143), (4, .int v4)]) hg d_Law_law_1895 (Nat.le_of_ble_eq_true rfl) rfl ?_
      refine r_aload_n hg 4 d_Law_law_1897 rfl rfl ?_
      refine r_callV (As := []) hg (t_Model_thrown  μ_1892) v_Model_thrown c_Model rfl (by decide) rfl wm_Law_132 d_Law_law_1898 rfl ⟨by decide, by decide⟩ (Nat.le_of_ble_eq_true rfl) rfl (fun r1898 μ_1898 _ => ?_)
      refine r_iload hg 1 d_Law_law_1901 rfl ?_
      refine r_icmp_eq (tgt := 1908) hg d_Law_law_1903 (by decide) ?_ ?_
      · refine r_iload hg 1 d_Law_law_1908 rfl ?_
        refine r_if_ne (tgt := 1925) hg d_Law_law_1910 (by decide) ?_ ?_
        · refine r_sub [2, 3, 4, 5, 6] rfl ?_
          exact t_Law_law_J1925 hg hT rec_ hrec_ v4 μ_1898 k1 n1 hkn1
        · refine r_aload_n hg 5 d_Law_law_1913 rfl rfl ?_
          refine r_iconst (v := 0) hg d_Law_law_1914 (by decide) ?_
          refine r_lald hg (by decide) rfl d_Law_law_1915 ?_
          refine r_iload hg 0 d_Law_law_1916 rfl ?_
          refine r_i2l hg d_Law_law_1918 ?_
          refine r_lcmp hg d_Law_law_1919 ?_
          refine r_if_eq (tgt := 1925) hg d_Law_law_1920 (by decide) ?_ ?_
          · refine r_sub [2, 3, 4, 5, 6] rfl ?_
            exact t_Law_law_J1925 hg hT rec_ hrec_ v4 μ_1898 k1 n1 hkn1
          · exact HX.none
      · exact HX.none
    refine h_ite (fun he_ => ?_) (fun _ => ?_)
    · refine r_tswIn (tgt := 1928) (y := 23) (off := 1889) hg d_Law_law_39 he_ (by decide) (by decide) (by decide) (by decide) ?_
      refine r_aload_n hg 1 d_Law_law_1928 rfl rfl ?_
      refine r_aload_n hg 0 d_Law_law_1929 rfl rfl ?_
      refine r_iload hg 4 d_Law_law_1930 rfl ?_
      refine r_iconst (v := 1) hg d_Law_law_1932 (by decide) ?_
      refine r_iadd hg d_Law_law_1933 ?_
      refine r_sld hg hT d_Law_law_1934 ?_
      refine r_aload_n hg 0 d_Law_law_1935 rfl rfl ?_
      refine r_iload hg 4 d_Law_law_1936 rfl ?_
      refine r_iconst (v := 2) hg d_Law_law_1938 (by decide) ?_
      refine r_iadd hg d_Law_law_1939 ?_
      refine r_sld hg hT d_Law_law_1940 ?_
      refine r_aload_n hg 0 d_Law_law_1941 rfl rfl ?_
      refine r_iload hg 4 d_Law_law_1942 rfl ?_
      refine r_iconst (v := 3) hg d_Law_law_1944 (by decide) ?_
      refine r_iadd hg d_Law_law_1945 ?_
      refine r_sld hg hT d_Law_law_1946 ?_
      refine r_if_eq (tgt := 1954) hg d_Law_law_1947 (by decide) ?_ ?_
      · refine r_iconst (v := 0) hg d_Law_law_1954 (by decide) ?_
        exact t_Law_law_J1955 hg hT rec_ hrec_ v4 0 (xs (Int32.toNatClampNeg (v4 + 2))) (xs (Int32.toNatClampNeg (v4 + 1))) μ k n hkn
      · refine r_iconst (v := 1) hg d_Law_law_1950 (by decide) ?_
        refine r_goto (tgt := 1955) hg d_Law_law_1951 (by decide) ?_
        exact t_Law_law_J1955 hg hT rec_ hrec_ v4 1 (xs (Int32.toNatClampNeg (v4 + 2))) (xs (Int32.toNatClampNeg (v4 + 1))) μ k n hkn
    refine h_ite (fun he_ => ?_) (fun _ => ?_)
    · refine r_tswIn (tgt := 2023) (y := 24) (off := 1984) hg d_Law_law_39 he_ (by decide) (by decide) (by decide) (by decide) ?_
      refine r_aload_n hg 1 d_Law_law_2023 rfl rfl ?_
      refine r_aload_n hg 0 d_Law_law_2024 rfl rfl ?_
      refine r_iload hg 4 d_Law_law_2025 rfl ?_
      refine r_iconst (v := 1) hg d_Law_law_2027 (by decide) ?_
      refine r_iadd hg d_Law_law_2028 ?_
      refine r_sld hg hT d_Law_law_2029 ?_
      refine r_aload_n hg 0 d_Law_law_2030 rfl rfl ?_
      refine r_iload hg 4 d_Law_law_2031 rfl ?_
      refine r_iconst (v := 2) hg d_Law_law_2033 (by decide) ?_
      refine r_iadd hg d_Law_law_2034 ?_
      refine r_sld hg hT d_Law_law_2035 ?_
      refine r_aload_n hg 3 d_Law_law_2036 rfl rfl ?_
      refine r_wcall (As := [.ref 84, .int (xs (Int32.toNatClampNeg (v4 + 1))), .int (xs (Int32.toNatClampNeg (v4 + 2))), .ref 143]) hg hT (t_Law_folds (xs (Int32.toNatClampNeg (v4 + 1))) (xs (Int32.toNatClampNeg (v4 + 2))) μ) v_Law_folds wm_Law_208 d_Law_law_2037 rfl ⟨by decide, by decide⟩ hkn (by decide) (Nat.le_of_ble_eq_true rfl) rfl (fun r2037 μ_2037 _ k1 n1 hkn1 => ?_)
      refine r_istore (l' := [(5, .int r2037), (0, .ref 144), (1, .ref 84), (2, .ref 125), (3, .ref 143), (4, .int v4)]) hg d_Law_law_2040 (Nat.le_of_ble_eq_true rfl) rfl ?_
      refine r_aload_n hg 3 d_Law_law_2042 rfl rfl ?_
      refine r_aload_n hg 1 d_Law_law_2043 rfl rfl ?_
      refine r_iload hg 5 d_Law_law_2044 rfl ?_
      refine r_iconst (v := 1) hg d_Law_law_2046 (by decide) ?_
      refine r_iadd hg d_Law_law_2047 ?_
      refine r_sld hg hT d_Law_law_2048 ?_
      refine r_aload_n hg 1 d_Law_law_2049 rfl rfl ?_
      refine r_iload hg 5 d_Law_law_2050 rfl ?_
      refine r_iconst (v := 2) hg d_Law_law_2052 (by decide) ?_
      refine r_iadd hg d_Law_law_2053 ?_
      refine r_sld hg hT d_Law_law_2054 ?_
      refine r_callV (As := [.int (xs (Int32.toNatClampNeg (v4 + 1))), .int (xs (Int32.toNatClampNeg (v4 + 2)))]) hg (t_Model_folds (xs (Int32.toNatClampNeg (v4 + 1))) (xs (Int32.toNatClampNeg (v4 + 2))) μ_2037) v_Model_folds c_Model rfl (by decide) rfl wm_Law_210 d_Law_law_2055 rfl ⟨by decide, by decide⟩ (Nat.le_of_ble_eq_true rfl) rfl (fun r2055 μ_2055 _ => ?_)
      refine r_istore (l' := [(6, .int r2055), (5, .int r2037), (0, .ref 144), (1, .ref 84), (2, .ref 125), (3, .ref 143), (4, .int v4)]) hg d_Law_law_2058 (Nat.le_of_ble_eq_true rfl) rfl ?_
      refine r_aload_n hg 4 d_Law_law_2060 rfl rfl ?_
      refine r_callV (As := []) hg (t_Model_thrown  μ_2055) v_Model_thrown c_Model rfl (by decide) rfl wm_Law_132 d_Law_law_2061 rfl ⟨by decide, by decide⟩ (Nat.le_of_ble_eq_true rfl) rfl (fun r2061 μ_2061 _ => ?_)
      refine r_iload hg 1 d_Law_law_2064 rfl ?_
      refine r_icmp_eq (tgt := 2071) hg d_Law_law_2066 (by decide) ?_ ?_
      · refine r_iload hg 1 d_Law_law_2071 rfl ?_
        refine r_if_ne (tgt := 2088) hg d_Law_law_2073 (by decide) ?_ ?_
        · refine r_sub [2, 3, 4, 5, 6] rfl ?_
          exact t_Law_law_J2088 hg hT rec_ hrec_ v4 μ_2061 k1 n1 hkn1
        · refine r_aload_n hg 5 d_Law_law_2076 rfl rfl ?_
          refine r_iconst (v := 0) hg d_Law_law_2077 (by decide) ?_
          refine r_lald hg (by decide) rfl d_Law_law_2078 ?_
          refine r_iload hg 0 d_Law_law_2079 rfl ?_
          refine r_i2l hg d_Law_law_2081 ?_
          refine r_lcmp hg d_Law_law_2082 ?_
          refine r_if_eq (tgt := 2088) hg d_Law_law_2083 (by decide) ?_ ?_
          · refine r_sub [2, 3, 4, 5, 6] rfl ?_
            exact t_Law_law_J2088 hg hT rec_ hrec_ v4 μ_2061 k1 n1 hkn1
          · exact HX.none
      · exact HX.none
    refine h_ite (fun he_ => ?_) (fun _ => ?_)
    · refine r_tswIn (tgt := 2091) (y := 25) (off := 2052) hg d_Law_law_39 he_ (by decide) (by decide) (by decide) (by decide) ?_
      refine r_aload_n hg 1 d_Law_law_2091 rfl rfl ?_
      refine r_aload_n hg 0 d_Law_law_2092 rfl rfl ?_
      refine r_iload hg 4 d_Law_law_2093 rfl ?_
      refine r_iconst (v := 1) hg d_Law_law_2095 (by decide) ?_
      refine r_iadd hg d_Law_law_2096 ?_
      refine r_sld hg hT d_Law_law_2097 ?_
      refine r_aload_n hg 3 d_Law_law_2098 rfl rfl ?_
      refine r_wcall (As := [.ref 84, .int (xs (Int32.toNatClampNeg (v4 + 1))), .ref 143]) hg hT (t_Law_dismantle (xs (Int32.toNatClampNeg (v4 + 1))) μ) v_Law_dismantle wm_Law_211 d_Law_law_2099 rfl ⟨by decide, by decide⟩ hkn (by decide) (Nat.le_of_ble_eq_true rfl) rfl (fun r2099 μ_2099 _ k1 n1 hkn1 => ?_)
      refine r_istore (l' := [(5, .int r2099), (0, .ref 144), (1, .ref 84), (2, .ref 125), (3, .ref 143), (4, .int v4)]) hg d_Law_law_2102 (Nat.le_of_ble_eq_true rfl) rfl ?_
      refine r_aload_n hg 3 d_Law_law_2104 rfl rfl ?_
      refine r_aload_n hg 1 d_Law_law_2105 rfl rfl ?_
      refine r_iload hg 5 d_Law_law_2106 rfl ?_
      refine r_iconst (v := 1) hg d_Law_law_2108 (by decide) ?_
      refine r_iadd hg d_Law_law_2109 ?_
      refine r_sld hg hT d_Law_law_2110 ?_
      refine r_callV (As := [.int (xs (Int32.toNatClampNeg (v4 + 1)))]) hg (t_Model_dismantle (xs (Int32.toNatClampNeg (v4 + 1))) μ_2099) v_Model_dismantle c_Model rfl (by decide) rfl wm_Law_213 d_Law_law_2111 rfl ⟨by decide, by decide⟩ (Nat.le_of_ble_eq_true rfl) rfl (fun r2111 μ_2111 _ => ?_)
      refine r_istore (l' := [(6, .int r2111), (5, .int r2099), (0, .ref 144), (1, .ref 84), (2, .ref 125), (3, .ref 143), (4, .int v4)]) hg d_Law_law_2114 (Nat.le_of_ble_eq_true rfl) rfl ?_
      refine r_aload_n hg 4 d_Law_law_2116 rfl rfl ?_
      refine r_callV (As := []) hg (t_Model_thrown  μ_2111) v_Model_thrown c_Model rfl (by decide) rfl wm_Law_132 d_Law_law_2117 rfl ⟨by decide, by decide⟩ (Nat.le_of_ble_eq_true rfl) rfl (fun r2117 μ_2117 _ => ?_)
      refine r_iload hg 1 d_Law_law_2120 rfl ?_
      refine r_icmp_eq (tgt := 2127) hg d_Law_law_2122 (by decide) ?_ ?_
      · refine r_iload hg 1 d_Law_law_2127 rfl ?_
        refine r_if_ne (tgt := 2144) hg d_Law_law_2129 (by decide) ?_ ?_
        · refine r_sub [2, 3, 4, 5, 6] rfl ?_
          exact t_Law_law_J2144 hg hT rec_ hrec_ v4 μ_2117 k1 n1 hkn1
        · refine r_aload_n hg 5 d_Law_law_2132 rfl rfl ?_
          refine r_iconst (v := 0) hg d_Law_law_2133 (by decide) ?_
          refine r_lald hg (by decide) rfl d_Law_law_2134 ?_
          refine r_iload hg 0 d_Law_law_2135 rfl ?_
          refine r_i2l hg d_Law_law_2137 ?_
          refine r_lcmp hg d_Law_law_2138 ?_
          refine r_if_eq (tgt := 2144) hg d_Law_law_2139 (by decide) ?_ ?_
          · refine r_sub [2, 3, 4, 5, 6] rfl ?_
            exact t_Law_law_J2144 hg hT rec_ hrec_ v4 μ_2117 k1 n1 hkn1
          · exact HX.none
      · exact HX.none
    refine h_ite (fun he_ => ?_) (fun _ => ?_)
    · refine r_tswIn (tgt := 2147) (y := 26) (off := 2108) hg d_Law_law_39 he_ (by decide) (by decide) (by decide) (by decide) ?_
      refine r_aload_n hg 1 d_Law_law_2147 rfl rfl ?_
      refine r_aload_n hg 0 d_Law_law_2148 rfl rfl ?_
      refine r_iload hg 4 d_Law_law_2149 rfl ?_
      refine r_iconst (v := 1) hg d_Law_law_2151 (by decide) ?_
      refine r_iadd hg d_Law_law_2152 ?_
      refine r_sld hg hT d_Law_law_2153 ?_
      refine r_aload_n hg 3 d_Law_law_2154 rfl rfl ?_
      refine r_wcall (As := [.ref 84, .int (xs (Int32.toNatClampNeg (v4 + 1))), .ref 143]) hg hT (t_Law_isCore (xs (Int32.toNatClampNeg (v4 + 1))) μ) v_Law_isCore wm_Law_214 d_Law_law_2155 rfl ⟨by decide, by decide⟩ hkn (by decide) (Nat.le_of_ble_eq_true rfl) rfl (fun r2155 μ_2155 _ k1 n1 hkn1 => ?_)
      refine r_istore (l' := [(5, .int r2155), (0, .ref 144), (1, .ref 84), (2, .ref 125), (3, .ref 143), (4, .int v4)]) hg d_Law_law_2158 (Nat.le_of_ble_eq_true rfl) rfl ?_
      refine r_aload_n hg 3 d_Law_law_2160 rfl rfl ?_
      refine r_aload_n hg 1 d_Law_law_2161 rfl rfl ?_
      refine r_iload hg 5 d_Law_law_2162 rfl ?_
      refine r_iconst (v := 1) hg d_Law_law_2164 (by decide) ?_
      refine r_iadd hg d_Law_law_2165 ?_
      refine r_sld hg hT d_Law_law_2166 ?_
      refine r_callV (As := [.int (xs (Int32.toNatClampNeg (v4 + 1)))]) hg (t_Model_isCore (xs (Int32.toNatClampNeg (v4 + 1))) μ_2155) v_Model_isCore c_Model rfl (by decide) rfl wm_Law_216 d_Law_law_2167 rfl ⟨by decide, by decide⟩ (Nat.le_of_ble_eq_true rfl) rfl (fun r2167 μ_2167 _ => ?_)
      refine r_istore (l' := [(6, .int r2167), (5, .int r2155), (0, .ref 144), (1, .ref 84), (2, .ref 125), (3, .ref 143), (4, .int v4)]) hg d_Law_law_2170 (Nat.le_of_ble_eq_true rfl) rfl ?_
      refine r_aload_n hg 4 d_Law_law_2172 rfl rfl ?_
      refine r_callV (As := []) hg (t_Model_thrown  μ_2167) v_Model_thrown c_Model rfl (by decide) rfl wm_Law_132 d_Law_law_2173 rfl ⟨by decide, by decide⟩ (Nat.le_of_ble_eq_true rfl) rfl (fun r2173 μ_2173 _ => ?_)
      refine r_iload hg 1 d_Law_law_2176 rfl ?_
      refine r_icmp_eq (tgt := 2183) hg d_Law_law_2178 (by decide) ?_ ?_
      · refine r_iload hg 1 d_Law_law_2183 rfl ?_
        refine r_if_ne (tgt := 2207) hg d_Law_law_2185 (by decide) ?_ ?_
        · refine r_sub [2, 3, 4, 5, 6] rfl ?_
          exact t_Law_law_J2207 hg hT rec_ hrec_ v4 μ_2173 k1 n1 hkn1
        · refine r_aload_n hg 5 d_Law_law_2188 rfl rfl ?_
          refine r_iconst (v := 0) hg d_Law_law_2189 (by decide) ?_
          refine r_lald hg (by decide) rfl d_Law_law_2190 ?_
          refine r_iload hg 0 d_Law_law_2191 rfl ?_
          refine r_if_eq (tgt := 2200) hg d_Law_law_2193 (by decide) ?_ ?_
          · refine r_lconst (v := 0) hg d_Law_law_2200 (by decide) ?_
            refine r_sub [2, 3, 4, 5, 6] rfl ?_
            exact t_Law_law_J2201 hg hT rec_ hrec_ v4 0 (μ_2173.2 143 (Int32.toNatClampNeg (0))) μ_2173 k1 n1 hkn1
          · refine r_lconst (v := 1) hg d_Law_law_2196 (by decide) ?_
            refine r_goto (tgt := 2201) hg d_Law_law_2197 (by decide) ?_
            refine r_sub [2, 3, 4, 5, 6] rfl ?_
            exact t_Law_law_J2201 hg hT rec_ hrec_ v4 1 (μ_2173.2 143 (Int32.toNatClampNeg (0))) μ_2173 k1 n1 hkn1
      · exact HX.none
    refine h_ite (fun he_ => ?_) (fun _ => ?_)
    · refine r_tswIn (tgt := 2210) (y := 27) (off := 2171) hg d_Law_law_39 he_ (by decide) (by decide) (by decide) (by decide) ?_
      refine r_aload_n hg 1 d_Law_law_2210 rfl rfl ?_
      refine r_aload_n hg 0 d_Law_law_2211 rfl rfl ?_
      refine r_iload hg 4 d_Law_law_2212 rfl ?_
      refine r_iconst (v := 1) hg d_Law_law_2214 (by decide) ?_
      refine r_iadd hg d_Law_law_2215 ?_
      refine r_sld hg hT d_Law_law_2216 ?_
      refine r_aload_n hg 3 d_Law_law_2217 rfl rfl ?_
      refine r_wcall (As := [.ref 84, .int (xs (Int32.toNatClampNeg (v4 + 1))), .ref 143]) hg hT (t_Law_coreSize (xs (Int32.toNatClampNeg (v4 + 1))) μ) v_Law_coreSize wm_Law_217 d_Law_law_2218 rfl ⟨by decide, by decide⟩ hkn (by decide) (Nat.le_of_ble_eq_true rfl) rfl (fun r2218 μ_2218 _ k1 n1 hkn1 => ?_)
      refine r_istore (l' := [(5, .int r2218), (0, .ref 144), (1, .ref 84), (2, .ref 125), (3, .ref 143), (4, .int v4)]) hg d_Law_law_2221 (Nat.le_of_ble_eq_true rfl) rfl ?_
      refine r_aload_n hg 3 d_Law_law_2223 rfl rfl ?_
      refine r_aload_n hg 1 d_Law_law_2224 rfl rfl ?_
      refine r_iload hg 5 d_Law_law_2225 rfl ?_
      refine r_iconst (v := 1) hg d_Law_law_2227 (by decide) ?_
      refine r_iadd hg d_Law_law_2228 ?_
      refine r_sld hg hT d_Law_law_2229 ?_
      refine r_callV (As := [.int (xs (Int32.toNatClampNeg (v4 + 1)))]) hg (t_Model_coreSize (xs (Int32.toNatClampNeg (v4 + 1))) μ_2218) v_Model_coreSize c_Model rfl (by decide) rfl wm_Law_219 d_Law_law_2230 rfl ⟨by decide, by decide⟩ (Nat.le_of_ble_eq_true rfl) rfl (fun r2230 μ_2230 _ => ?_)
      refine r_istore (l' := [(6, .int r2230), (5, .int r2218), (0, .ref 144), (1, .ref 84), (2, .ref 125), (3, .ref 143), (4, .int v4)]) hg d_Law_law_2233 (Nat.le_of_ble_eq_true rfl) rfl ?_
      refine r_aload_n hg 4 d_Law_law_2235 rfl rfl ?_
      refine r_callV (As := []) hg (t_Model_thrown  μ_2230) v_Model_thrown c_Model rfl (by decide) rfl wm_Law_132 d_Law_law_2236 rfl ⟨by decide, by decide⟩ (Nat.le_of_ble_eq_true rfl) rfl (fun r2236 μ_2236 _ => ?_)
      refine r_iload hg 1 d_Law_law_2239 rfl ?_
      refine r_icmp_eq (tgt := 2246) hg d_Law_law_2241 (by decide) ?_ ?_
      · refine r_iload hg 1 d_Law_law_2246 rfl ?_
        refine r_if_ne (tgt := 2263) hg d_Law_law_2248 (by decide) ?_ ?_
        · refine r_sub [2, 3, 4, 5, 6] rfl ?_
          exact t_Law_law_J2263 hg hT rec_ hrec_ v4 μ_2236 k1 n1 hkn1
        · refine r_aload_n hg 5 d_Law_law_2251 rfl rfl ?_
          refine r_iconst (v := 0) hg d_Law_law_2252 (by decide) ?_
          refine r_lald hg (by decide) rfl d_Law_law_2253 ?_
          refine r_iload hg 0 d_Law_law_2254 rfl ?_
          refine r_i2l hg d_Law_law_2256 ?_
          refine r_lcmp hg d_Law_law_2257 ?_
          refine r_if_eq (tgt := 2263) hg d_Law_law_2258 (by decide) ?_ ?_
          · refine r_sub [2, 3, 4, 5, 6] rfl ?_
            exact t_Law_law_J2263 hg hT rec_ hrec_ v4 μ_2236 k1 n1 hkn1
          · exact HX.none
      · exact HX.none
    refine h_ite (fun he_ => ?_) (fun _ => ?_)
    · refine r_tswIn (tgt := 2266) (y := 28) (off := 2227) hg d_Law_law_39 he_ (by decide) (by decide) (by decide) (by decide) ?_
      refine r_aload_n hg 1 d_Law_law_2266 rfl rfl ?_
      refine r_aload_n hg 0 d_Law_law_2267 rfl rfl ?_
      refine r_iload hg 4 d_Law_law_2268 rfl ?_
      refine r_iconst (v := 1) hg d_Law_law_2270 (by decide) ?_
      refine r_iadd hg d_Law_law_2271 ?_
      refine r_sld hg hT d_Law_law_2272 ?_
      refine r_aload_n hg 3 d_Law_law_2273 rfl rfl ?_
      refine r_wcall (As := [.ref 84, .int (xs (Int32.toNatClampNeg (v4 + 1))), .ref 143]) hg hT (t_Law_append (xs (Int32.toNatClampNeg (v4 + 1))) μ) v_Law_append wm_Law_220 d_Law_law_2274 rfl ⟨by decide, by decide⟩ hkn (by decide) (Nat.le_of_ble_eq_true rfl) rfl (fun r2274 μ_2274 _ k1 n1 hkn1 => ?_)
      refine r_istore (l' := [(5, .int r2274), (0, .ref 144), (1, .ref 84), (2, .ref 125), (3, .ref 143), (4, .int v4)]) hg d_Law_law_2277 (Nat.le_of_ble_eq_true rfl) rfl ?_
      refine r_aload_n hg 3 d_Law_law_2279 rfl rfl ?_
      refine r_aload_n hg 1 d_Law_law_2280 rfl rfl ?_
      refine r_iload hg 5 d_Law_law_2281 rfl ?_
      refine r_iconst (v := 1) hg d_Law_law_2283 (by decide) ?_
      refine r_iadd hg d_Law_law_2284 ?_
      refine r_sld hg hT d_Law_law_2285 ?_
      refine r_callV (As := [.int (xs (Int32.toNatClampNeg (v4 + 1)))]) hg (t_Model_append (xs (Int32.toNatClampNeg (v4 + 1))) μ_2274) v_Model_append c_Model rfl (by decide) rfl wm_Law_222 d_Law_law_2286 rfl ⟨by decide, by decide⟩ (Nat.le_of_ble_eq_true rfl) rfl (fun r2286 μ_2286 _ => ?_)
      refine r_istore (l' := [(6, .int r2286), (5, .int r2274), (0, .ref 144), (1, .ref 84), (2, .ref 125), (3, .ref 143), (4, .int v4)]) hg d_Law_law_2289 (Nat.le_of_ble_eq_true rfl) rfl ?_
      refine r_aload_n hg 4 d_Law_law_2291 rfl rfl ?_
      refine r_callV (As := []) hg (t_Model_thrown  μ_2286) v_Model_thrown c_Model rfl (by decide) rfl wm_Law_132 d_Law_law_2292 rfl ⟨by decide, by decide⟩ (Nat.le_of_ble_eq_true rfl) rfl (fun r2292 μ_2292 _ => ?_)
      refine r_iload hg 1 d_Law_law_2295 rfl ?_
      refine r_icmp_eq (tgt := 2302) hg d_Law_law_2297 (by decide) ?_ ?_
      · refine r_iload hg 1 d_Law_law_2302 rfl ?_
        refine r_if_ne (tgt := 2319) hg d_Law_law_2304 (by decide) ?_ ?_
        · refine r_sub [2, 3, 4, 5, 6] rfl ?_
          exact t_Law_law_J2319 hg hT rec_ hrec_ v4 μ_2292 k1 n1 hkn1
        · refine r_aload_n hg 5 d_Law_law_2307 rfl rfl ?_
          refine r_iconst (v := 0) hg d_Law_law_2308 (by decide) ?_
          refine r_lald hg (by decide) rfl d_Law_law_2309 ?_
          refine r_iload hg 0 d_Law_law_2310 rfl ?_
          refine r_i2l hg d_Law_law_2312 ?_
          refine r_lcmp hg d_Law_law_2313 ?_
          refine r_if_eq (tgt := 2319) hg d_Law_law_2314 (by decide) ?_ ?_
          · refine r_sub [2, 3, 4, 5, 6] rfl ?_
            exact t_Law_law_J2319 hg hT rec_ hrec_ v4 μ_2292 k1 n1 hkn1
          · exact HX.none
      · exact HX.none
    refine h_ite (fun he_ => ?_) (fun _ => ?_)
    · refine r_tswIn (tgt := 2322) (y := 29) (off := 2283) hg d_Law_law_39 he_ (by decide) (by decide) (by decide) (by decide) ?_
      refine r_aload_n hg 1 d_Law_law_2322 rfl rfl ?_
      refine r_callV (As := []) hg (t_Bench_clearText  μ) v_Bench_clearText c_Bench rfl (by decide) rfl wm_Law_223 d_Law_law_2323 rfl ⟨by decide, by decide⟩ (Nat.le_of_ble_eq_true rfl) rfl (fun r2323 μ_2323 _ => ?_)
      refine r_aload_n hg 2 d_Law_law_2326 rfl rfl ?_
      refine r_callV (As := []) hg (t_Model_clearText  μ_2323) v_Model_clearText c_Model rfl (by decide) rfl wm_Law_226 d_Law_law_2327 rfl ⟨by decide, by decide⟩ (Nat.le_of_ble_eq_true rfl) rfl (fun r2327 μ_2327 _ => ?_)
      refine r_icmp_eq (tgt := 2517) hg d_Law_law_2330 (by decide) ?_ ?_
      · exact t_Law_law_J2517 hg hT rec_ hrec_ v4 μ_2327 k n (hkn).less
      · exact HX.none
    refine h_ite (fun he_ => ?_) (fun _ => ?_)
    · refine r_tswIn (tgt := 2335) (y := 30) (off := 2296) hg d_Law_law_39 he_ (by decide) (by decide) (by decide) (by decide) ?_
      refine r_aload_n hg 1 d_Law_law_2335 rfl rfl ?_
      refine r_aload_n hg 0 d_Law_law_2336 rfl rfl ?_
      refine r_iload hg 4 d_Law_law_2337 rfl ?_
      refine r_iconst (v := 1) hg d_Law_law_2339 (by decide) ?_
      refine r_iadd hg d_Law_law_2340 ?_
      refine r_sld hg hT d_Law_law_2341 ?_
      refine r_aload_n hg 3 d_Law_law_2342 rfl rfl ?_
      refine r_wcall (As := [.ref 84, .int (xs (Int32.toNatClampNeg (v4 + 1))), .ref 143]) hg hT (t_Law_parse (xs (Int32.toNatClampNeg (v4 + 1))) μ) v_Law_parse wm_Law_227 d_Law_law_2343 rfl ⟨by decide, by decide⟩ hkn (by decide) (Nat.le_of_ble_eq_true rfl) rfl (fun r2343 μ_2343 _ k1 n1 hkn1 => ?_)
      refine r_istore (l' := [(5, .int r2343), (0, .ref 144), (1, .ref 84), (2, .ref 125), (3, .ref 143), (4, .int v4)]) hg d_Law_law_2346 (Nat.le_of_ble_eq_true rfl) rfl ?_
      refine r_aload_n hg 3 d_Law_law_2348 rfl rfl ?_
      refine r_aload_n hg 1 d_Law_law_2349 rfl rfl ?_
      refine r_iload hg 5 d_Law_law_2350 rfl ?_
      refine r_iconst (v := 1) hg d_Law_law_2352 (by decide) ?_
      refine r_iadd hg d_Law_law_2353 ?_
      refine r_sld hg hT d_Law_law_2354 ?_
      refine r_callV (As := [.int (xs (Int32.toNatClampNeg (v4 + 1)))]) hg (t_Model_parse (xs (Int32.toNatClampNeg (v4 + 1))) μ_2343) v_Model_parse c_Model rfl (by decide) rfl wm_Law_229 d_Law_law_2355 rfl ⟨by decide, by decide⟩ (Nat.le_of_ble_eq_true rfl) rfl (fun r2355 μ_2355 _ => ?_)
      refine r_istore (l' := [(6, .int r2355), (5, .int r2343), (0, .ref 144), (1, .ref 84), (2, .ref 125), (3, .ref 143), (4, .int v4)]) hg d_Law_law_2358 (Nat.le_of_ble_eq_true rfl) rfl ?_
      refine r_aload_n hg 4 d_Law_law_2360 rfl rfl ?_
      refine r_callV (As := []) hg (t_Model_thrown  μ_2355) v_Model_thrown c_Model rfl (by decide) rfl wm_Law_132 d_Law_law_2361 rfl ⟨by decide, by decide⟩ (Nat.le_of_ble_eq_true rfl) rfl (fun r2361 μ_2361 _ => ?_)
      refine r_iload hg 1 d_Law_law_2364 rfl ?_
      refine r_icmp_eq (tgt := 2371) hg d_Law_law_2366 (by decide) ?_ ?_
      · refine r_iload hg 1 d_Law_law_2371 rfl ?_
        refine r_if_ne (tgt := 2388) hg d_Law_law_2373 (by decide) ?_ ?_
        · refine r_sub [2, 3, 4, 5, 6] rfl ?_
          exact t_Law_law_J2388 hg hT rec_ hrec_ v4 μ_2361 k1 n1 hkn1
        · refine r_aload_n hg 5 d_Law_law_2376 rfl rfl ?_
          refine r_iconst (v := 0) hg d_Law_law_2377 (by decide) ?_
          refine r_lald hg (by decide) rfl d_Law_law_2378 ?_
          refine r_iload hg 0 d_Law_law_2379 rfl ?_
          refine r_i2l hg d_Law_law_2381 ?_
          refine r_lcmp hg d_Law_law_2382 ?_
          refine r_if_eq (tgt := 2388) hg d_Law_law_2383 (by decide) ?_ ?_
          · refine r_sub [2, 3, 4, 5, 6] rfl ?_
            exact t_Law_law_J2388 hg hT rec_ hrec_ v4 μ_2361 k1 n1 hkn1
          · exact HX.none
      · exact HX.none
    refine h_ite (fun he_ => ?_) (fun _ => ?_)
    · refine r_tswIn (tgt := 2391) (y := 31) (off := 2352) hg d_Law_law_39 he_ (by decide) (by decide) (by decide) (by decide) ?_
      refine r_aload_n hg 1 d_Law_law_2391 rfl rfl ?_
      refine r_aload_n hg 0 d_Law_law_2392 rfl rfl ?_
      refine r_iload hg 4 d_Law_law_2393 rfl ?_
      refine r_iconst (v := 1) hg d_Law_law_2395 (by decide) ?_
      refine r_iadd hg d_Law_law_2396 ?_
      refine r_sld hg hT d_Law_law_2397 ?_
      refine r_aload_n hg 0 d_Law_law_2398 rfl rfl ?_
      refine r_iload hg 4 d_Law_law_2399 rfl ?_
      refine r_iconst (v := 2) hg d_Law_law_2401 (by decide) ?_
      refine r_iadd hg d_Law_law_2402 ?_
      refine r_sld hg hT d_Law_law_2403 ?_
      refine r_aload_n hg 3 d_Law_law_2404 rfl rfl ?_
      refine r_wcall (As := [.ref 84, .int (xs (Int32.toNatClampNeg (v4 + 1))), .int (xs (Int32.toNatClampNeg (v4 + 2))), .ref 143]) hg hT (t_Law_written (xs (Int32.toNatClampNeg (v4 + 1))) (xs (Int32.toNatClampNeg (v4 + 2))) μ) v_Law_written wm_Law_230 d_Law_law_2405 rfl ⟨by decide, by decide⟩ hkn (by decide) (Nat.le_of_ble_eq_true rfl) rfl (fun r2405 μ_2405 _ k1 n1 hkn1 => ?_)
      refine r_istore (l' := [(5, .int r2405), (0, .ref 144), (1, .ref 84), (2, .ref 125), (3, .ref 143), (4, .int v4)]) hg d_Law_law_2408 (Nat.le_of_ble_eq_true rfl) rfl ?_
      refine r_aload_n hg 3 d_Law_law_2410 rfl rfl ?_
      refine r_aload_n hg 1 d_Law_law_2411 rfl rfl ?_
      refine r_iload hg 5 d_Law_law_2412 rfl ?_
      refine r_iconst (v := 1) hg d_Law_law_2414 (by decide) ?_
      refine r_iadd hg d_Law_law_2415 ?_
      refine r_sld hg hT d_Law_law_2416 ?_
      refine r_aload_n hg 1 d_Law_law_2417 rfl rfl ?_
      refine r_iload hg 5 d_Law_law_2418 rfl ?_
      refine r_iconst (v := 2) hg d_Law_law_2420 (by decide) ?_
      refine r_iadd hg d_Law_law_2421 ?_
      refine r_sld hg hT d_Law_law_2422 ?_
      refine r_callV (As := [.int (xs (Int32.toNatClampNeg (v4 + 1))), .int (xs (Int32.toNatClampNeg (v4 + 2)))]) hg (t_Model_written (xs (Int32.toNatClampNeg (v4 + 1))) (xs (Int32.toNatClampNeg (v4 + 2))) μ_2405) v_Model_written c_Model rfl (by decide) rfl wm_Law_232 d_Law_law_2423 rfl ⟨by decide, by decide⟩ (Nat.le_of_ble_eq_true rfl) rfl (fun r2423 μ_2423 _ => ?_)
      refine r_istore (l' := [(6, .int r2423), (5, .int r2405), (0, .ref 144), (1, .ref 84), (2, .ref 125), (3, .ref 143), (4, .int v4)]) hg d_Law_law_2426 (Nat.le_of_ble_eq_true rfl) rfl ?_
      refine r_aload_n hg 4 d_Law_law_2428 rfl rfl ?_
      refine r_callV (As := []) hg (t_Model_thrown  μ_2423) v_Model_thrown c_Model rfl (by decide) rfl wm_Law_132 d_Law_law_2429 rfl ⟨by decide, by decide⟩ (Nat.le_of_ble_eq_true rfl) rfl (fun r2429 μ_2429 _ => ?_)
      refine r_iload hg 1 d_Law_law_2432 rfl ?_
      refine r_icmp_eq (tgt := 2439) hg d_Law_law_2434 (by decide) ?_ ?_
      · refine r_iload hg 1 d_Law_law_2439 rfl ?_
        refine r_if_ne (tgt := 2456) hg d_Law_law_2441 (by decide) ?_ ?_
        · refine r_sub [2, 3, 4, 5, 6] rfl ?_
          exact t_Law_law_J2456 hg hT rec_ hrec_ v4 μ_2429 k1 n1 hkn1
        · refine r_aload_n hg 5 d_Law_law_2444 rfl rfl ?_
          refine r_iconst (v := 0) hg d_Law_law_2445 (by decide) ?_
          refine r_lald hg (by decide) rfl d_Law_law_2446 ?_
          refine r_iload hg 0 d_Law_law_2447 rfl ?_
          refine r_i2l hg d_Law_law_2449 ?_
          refine r_lcmp hg d_Law_law_2450 ?_
          refine r_if_eq (tgt := 2456) hg d_Law_law_2451 (by decide) ?_ ?_
          · refine r_sub [2, 3, 4, 5, 6] rfl ?_
            exact t_Law_law_J2456 hg hT rec_ hrec_ v4 μ_2429 k1 n1 hkn1
          · exact HX.none
      · exact HX.none
    refine h_ite (fun he_ => ?_) (fun _ => ?_)
    · refine r_tswIn (tgt := 2459) (y := 32) (off := 2420) hg d_Law_law_39 he_ (by decide) (by decide) (by decide) (by decide) ?_
      refine r_aload_n hg 1 d_Law_law_2459 rfl rfl ?_
      refine r_aload_n hg 3 d_Law_law_2460 rfl rfl ?_
      refine r_wcall (As := [.ref 84, .ref 143]) hg hT (t_Law_undo  μ) v_Law_undo wm_Law_233 d_Law_law_2461 rfl ⟨by decide, by decide⟩ hkn (by decide) (Nat.le_of_ble_eq_true rfl) rfl (fun r2461 μ_2461 _ k1 n1 hkn1 => ?_)
      refine r_istore (l' := [(5, .int r2461), (0, .ref 144), (1, .ref 84), (2, .ref 125), (3, .ref 143), (4, .int v4)]) hg d_Law_law_2464 (Nat.le_of_ble_eq_true rfl) rfl ?_
      refine r_aload_n hg 3 d_Law_law_2466 rfl rfl ?_
      refine r_callV (As := []) hg (t_Model_undo  μ_2461) v_Model_undo c_Model rfl (by decide) rfl wm_Law_236 d_Law_law_2467 rfl ⟨by decide, by decide⟩ (Nat.le_of_ble_eq_true rfl) rfl (fun r2467 μ_2467 _ => ?_)
      refine r_istore (l' := [(6, .int r2467), (5, .int r2461), (0, .ref 144), (1, .ref 84), (2, .ref 125), (3, .ref 143), (4, .int v4)]) hg d_Law_law_2470 (Nat.le_of_ble_eq_true rfl) rfl ?_
      refine r_aload_n hg 4 d_Law_law_2472 rfl rfl ?_
      refine r_callV (As := []) hg (t_Model_thrown  μ_2467) v_Model_thrown c_Model rfl (by decide) rfl wm_Law_132 d_Law_law_2473 rfl ⟨by decide, by decide⟩ (Nat.le_of_ble_eq_true rfl) rfl (fun r2473 μ_2473 _ => ?_)
      refine r_iload hg 1 d_Law_law_2476 rfl ?_
      refine r_icmp_eq (tgt := 2483) hg d_Law_law_2478 (by decide) ?_ ?_
      · refine r_iload hg 1 d_Law_law_2483 rfl ?_
        refine r_if_ne (tgt := 2500) hg d_Law_law_2485 (by decide) ?_ ?_
        · refine r_sub [2, 3, 4, 5, 6] rfl ?_
          exact t_Law_law_J2500 hg hT rec_ hrec_ v4 μ_2473 k1 n1 hkn1
        · refine r_aload_n hg 5 d_Law_law_2488 rfl rfl ?_
          refine r_iconst (v := 0) hg d_Law_law_2489 (by decide) ?_
          refine r_lald hg (by decide) rfl d_Law_law_2490 ?_
          refine r_iload hg 0 d_Law_law_2491 rfl ?_
          refine r_i2l hg d_Law_law_2493 ?_
          refine r_lcmp hg d_Law_law_2494 ?_
          refine r_if_eq (tgt := 2500) hg d_Law_law_2495 (by decide) ?_ ?_
          · refine r_sub [2, 3, 4, 5, 6] rfl ?_
            exact t_Law_law_J2500 hg hT rec_ hrec_ v4 μ_2473 k1 n1 hkn1
          · exact HX.none
      · exact HX.none
    refine h_ite (fun he_ => ?_) (fun _ => ?_)
    · refine r_tswIn (tgt := 2503) (y := 33) (off := 2464) hg d_Law_law_39 he_ (by decide) (by decide) (by decide) (by decide) ?_
      refine r_aload_n hg 1 d_Law_law_2503 rfl rfl ?_
      refine r_callV (As := []) hg (t_Bench_digest  μ) v_Bench_digest c_Bench rfl (by decide) rfl wm_Law_237 d_Law_law_2504 rfl ⟨by decide, by decide⟩ (Nat.le_of_ble_eq_true rfl) rfl (fun r2504 μ_2504 _ => ?_)
      refine r_aload_n hg 2 d_Law_law_2507 rfl rfl ?_
      refine r_callV (As := []) hg (t_Model_digest  μ_2504) v_Model_digest c_Model rfl (by decide) rfl wm_Law_241 d_Law_law_2508 rfl ⟨by decide, by decide⟩ (Nat.le_of_ble_eq_true rfl) rfl (fun r2508 μ_2508 _ => ?_)
      refine r_lcmp hg d_Law_law_2511 ?_
      refine r_if_eq (tgt := 2517) hg d_Law_law_2512 (by decide) ?_ ?_
      · exact t_Law_law_J2517 hg hT rec_ hrec_ v4 μ_2508 k n (hkn).less
      · exact HX.none
    exact HX.none
theorem t_Law_law_L23 {cx : HCx} {xs : Nat → Int32} {L : Nat} (hg : HGood cx R_Law code 8 1000 (some .boolean)) (hT : HLaw cx xs L) : ∀ (fuel : Nat), p_Law_law_23 cx (16 * fuel) (f_Law_law_L23 xs L fuel)
  | 0 => fun v4 μ k n hkn => HX.none
  | fuel + 1 => fun v4 μ k n hkn => by
    rw [f_Law_law_L23]
    exact t_Law_law_L23_b hg hT (f_Law_law_L23 xs L fuel) (t_Law_law_L23 hg hT fuel) v4 μ k n (by rw [Nat.mul_succ] at hkn; exact hkn)
