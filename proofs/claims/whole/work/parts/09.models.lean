def X9_isPrime_L15 (a0 : Int32) (self15 : Int32 → Option (Int32)) (v1 : Int32) : Option (Int32) :=
  if a0 < (v1 * v1) then (
  some (1 : Int32)
  ) else (
  gd (nz v1) <|
  if (irm a0 v1) = 0 then (
  some (0 : Int32)
  ) else (
  bv (v1 + 1) fun x3 =>
  self15 x3
  )
  )
def f_X9_isPrime (a0 : Int32) : Option (Int32) :=
  if a0 < (2 : Int32) then (
  some (0 : Int32)
  ) else (
  if a0 ≤ (97 : Int32) then (
  wp1 (X9_isPrime_L15 a0) FU (2 : Int32)
  ) else (
  some (0 : Int32)
  )
  )
def f_X9_field (a1 : Int32) (a2 : Int32) (S : Sg) : Option (Int32 × Sg) :=
  cl1 (f_X9_isPrime a1) fun r1 =>
  if r1 = 0 then (
  some ((-2 : Int32), S)
  ) else (
  if a2 < (1 : Int32) then (
  some ((-2 : Int32), S)
  ) else (
  if a2 ≤ (6 : Int32) then (
  bv (S.1 1 0) fun x3 =>
  bv (si S 1 0 a1) fun S4 =>
  bv (si S4 1 1 a2) fun S5 =>
  some (x3, S5)
  ) else (
  some ((-2 : Int32), S)
  )
  )
  )
def X9_quotient_L2 (a0 : Int32) (a1 : Int32) (a2 : Int32) (self2 : Int32 → Option (Int32)) (v1 : Int32) : Option (Int32) :=
  if (a2 - (1 : Int32)) ≤ v1 then (
  some v1
  ) else (
  gd (nz a2) <|
  if (irm (v1 * a1) a2) = a0 then (
  some v1
  ) else (
  bv (v1 + 1) fun x3 =>
  self2 x3
  )
  )
def f_X9_quotient (a0 : Int32) (a1 : Int32) (a2 : Int32) : Option (Int32) :=
  wp1 (X9_quotient_L2 a0 a1 a2) FU (0 : Int32)
def f_X9_restOf (a0 : Int64) (a2 : Int32) : Option (Int32) :=
  gd (nzl a2.toInt64) <|
  bv ((lrm a0 a2.toInt64).toInt32) fun x2 =>
  if 0 ≤ x2 then (
  some x2
  ) else (
  some (x2 + a2)
  )
def f_X9_divided (a1 : Int32) (a2 : Int32) (S : Sg) : Option (Int32) :=
  cl1 (f_X9_restOf a2.toInt64 (S.1 1 0)) fun r1 =>
  if r1 = 0 then (
  some (-2 : Int32)
  ) else (
  cl1 (f_X9_restOf a1.toInt64 (S.1 1 0)) fun r3 =>
  cl1 (f_X9_quotient r3 r1 (S.1 1 0)) fun r5 =>
  some r5
  )
def f_X9_isKind (a0 : Int32) : Option (Int32) :=
  if a0 < 0 then (
  some (0 : Int32)
  ) else (
  if (6 : Int32) ≤ a0 then (
  some (0 : Int32)
  ) else (
  some (1 : Int32)
  )
  )
def f_X9_isWeight (a0 : Int32) : Option (Int32) :=
  if a0 < 0 then (
  some (0 : Int32)
  ) else (
  if (999 : Int32) < a0 then (
  some (0 : Int32)
  ) else (
  some (1 : Int32)
  )
  )
def X2_append_L29 (x1 : Int32) (k55 : Sg → Option (Int32 × Sg)) (self29 : Int32 → Sg → Option (Int32 × Sg)) (v10 : Int32) (S11 : Sg) : Option (Int32 × Sg) :=
  if (12 : Int32) ≤ v10 then (
  k55 S11
  ) else (
  gd (inb ((x1 * (12 : Int32)) + v10) 120) <|
  bv (si S11 5 (ix ((x1 * (12 : Int32)) + v10)) (0 : Int32)) fun S13 =>
  bv (v10 + 1) fun x14 =>
  self29 x14 S13
  )
def f_X2_append (a1 : Int32) (a2 : Int32) (S : Sg) : Option (Int32 × Sg) :=
  bv (S.1 1 2) fun x1 =>
  gd (inb x1 10) <|
  bv (si S 2 (ix x1) a1) fun S3 =>
  gd (inb x1 10) <|
  bv (si S3 3 (ix x1) a2) fun S5 =>
  gd (inb x1 10) <|
  bv (sl S5 4 (ix x1) (0 : Int64)) fun S7 =>
  wp2 (X2_append_L29 x1 (fun (S8 : Sg) =>
  bv (si S8 1 2 ((S8.1 1 2) + (1 : Int32))) fun S9 =>
  some (x1, S9)
  )) FU (0 : Int32) S7
def f_X9_pair (a1 : Int32) (a2 : Int32) (S : Sg) : Option (Int32 × Sg) :=
  cl1 (f_X9_isKind a1) fun r1 =>
  if r1 = 0 then (
  some ((-2 : Int32), S)
  ) else (
  cl1 (f_X9_isWeight a2) fun r3 =>
  if r3 = 0 then (
  some ((-2 : Int32), S)
  ) else (
  if (S.1 1 2) < (10 : Int32) then (
  cl (f_X2_append a1 a2 S) fun r5 S7 =>
  some (r5, S7)
  ) else (
  some ((-4 : Int32), S)
  )
  )
  )
def f_X9_isBit (a0 : Int32) : Option (Int32) :=
  if a0 = 0 then (
  some (1 : Int32)
  ) else (
  if a0 = (1 : Int32) then (
  some (1 : Int32)
  ) else (
  some (0 : Int32)
  )
  )
def f_X2_has (a1 : Int32) (S : Sg) : Option (Int32) :=
  if a1 < 0 then (
  some (0 : Int32)
  ) else (
  if (S.1 1 2) ≤ a1 then (
  some (0 : Int32)
  ) else (
  some (1 : Int32)
  )
  )
def f_X9_entry (a1 : Int32) (a2 : Int32) (a3 : Int32) (a4 : Int32) (S : Sg) : Option (Int32 × Sg) :=
  cl1 (f_X2_has a1 S) fun r1 =>
  if r1 = 0 then (
  some ((-2 : Int32), S)
  ) else (
  cl1 (f_X9_isBit a2) fun r3 =>
  if r3 = 0 then (
  some ((-2 : Int32), S)
  ) else (
  if a3 < 0 then (
  some ((-2 : Int32), S)
  ) else (
  if (6 : Int32) ≤ a3 then (
  some ((-2 : Int32), S)
  ) else (
  if a4 < (-99 : Int32) then (
  some ((-2 : Int32), S)
  ) else (
  if a4 ≤ (99 : Int32) then (
  bv (((a1 * (12 : Int32)) + (a2 * (6 : Int32))) + a3) fun x5 =>
  gd (inb x5 120) <|
  bv (S.1 5 (ix x5)) fun x7 =>
  gd (inb x5 120) <|
  bv (si S 5 (ix x5) a4) fun S9 =>
  some (x7, S9)
  ) else (
  some ((-2 : Int32), S)
  )
  )
  )
  )
  )
  )
def f_X9_set (a1 : Int32) (a2 : Int32) (a3 : Int32) (S : Sg) : Option (Int32 × Sg) :=
  cl1 (f_X2_has a1 S) fun r1 =>
  if r1 = 0 then (
  some ((-2 : Int32), S)
  ) else (
  cl1 (f_X9_isBit a2) fun r3 =>
  if r3 = 0 then (
  some ((-2 : Int32), S)
  ) else (
  jn (
  jn (fun (k5 : Nat) =>
  gd (inb a1 10) <|
  bv (S.1 k5 (ix a1)) fun x7 =>
  gd (inb a1 10) <|
  bv (si S k5 (ix a1) a3) fun S9 =>
  some (x7, S9)
  ) fun j63 =>
  if a2 = 0 then (
  j63 2
  ) else (
  j63 3
  )
  ) fun j42 =>
  if a2 = 0 then (
  cl1 (f_X9_isKind a3) fun r14 =>
  if r14 = 0 then (
  some ((-2 : Int32), S)
  ) else (
  j42 
  )
  ) else (
  cl1 (f_X9_isWeight a3) fun r11 =>
  if r11 = 0 then (
  some ((-2 : Int32), S)
  ) else (
  j42 
  )
  )
  )
  )
def X2_namesBelow_L5 (a1 : Int64) (S : Sg) (self5 : Int32 → Int32 → Option (Int32)) (v1 : Int32) (v2 : Int32) : Option (Int32) :=
  if (S.1 1 2) ≤ v2 then (
  some v1
  ) else (
  gd (inb v2 10) <|
  jn (fun (v4 : Int32) =>
  bv (v2 + 1) fun x5 =>
  self5 v4 x5
  ) fun j41 =>
  if (lg_cmp (S.2 4 (ix v2)) (0 : Int64)) = 0 then (
  j41 v1
  ) else (
  gd (inb v2 10) <|
  if 0 ≤ (lg_cmp (S.2 4 (ix v2)) a1) then (
  j41 v1
  ) else (
  bv (v1 + 1) fun x7 =>
  j41 x7
  )
  )
  )
def f_X2_namesBelow (a1 : Int64) (S : Sg) : Option (Int32) :=
  wp2 (X2_namesBelow_L5 a1 S) FU (0 : Int32) (0 : Int32)
def f_X2_isAhead (a1 : Int32) (a2 : Int32) (S : Sg) : Option (Int32) :=
  gd (inb a1 10) <|
  gd (inb a2 10) <|
  if (S.1 3 (ix a1)) = (S.1 3 (ix a2)) then (
  gd (inb a1 10) <|
  gd (inb a2 10) <|
  if (S.1 2 (ix a1)) = (S.1 2 (ix a2)) then (
  if a2 ≤ a1 then (
  some (0 : Int32)
  ) else (
  some (1 : Int32)
  )
  ) else (
  gd (inb a1 10) <|
  gd (inb a2 10) <|
  if (S.1 2 (ix a2)) ≤ (S.1 2 (ix a1)) then (
  some (0 : Int32)
  ) else (
  some (1 : Int32)
  )
  )
  ) else (
  gd (inb a1 10) <|
  gd (inb a2 10) <|
  if (S.1 3 (ix a1)) ≤ (S.1 3 (ix a2)) then (
  some (0 : Int32)
  ) else (
  some (1 : Int32)
  )
  )
def X2_placeInQueue_L4 (a1 : Int32) (S : Sg) (self4 : Int32 → Int32 → Option (Int32)) (v1 : Int32) (v2 : Int32) : Option (Int32) :=
  if (S.1 1 2) ≤ v2 then (
  some v1
  ) else (
  cl1 (f_X2_isAhead v2 a1 S) fun r3 =>
  jn (fun (v5 : Int32) =>
  bv (v2 + 1) fun x6 =>
  self4 v5 x6
  ) fun j24 =>
  if r3 = 0 then (
  j24 v1
  ) else (
  bv (v1 + 1) fun x7 =>
  j24 x7
  )
  )
def f_X2_placeInQueue (a1 : Int32) (S : Sg) : Option (Int32) :=
  wp2 (X2_placeInQueue_L4 a1 S) FU (0 : Int32) (0 : Int32)
def f_X2_inFirst (a0 : Int32) (a1 : Int32) (a2 : Int32) (a3 : Int32) : Option (Int32) :=
  if a0 = 2 then (
  some a2
  ) else 
  if a0 = 4 then (
  if a3 = 0 then (
  some (0 : Int32)
  ) else (
  some a2
  )
  ) else 
  some a1
def f_X2_inSecond (a0 : Int32) (a1 : Int32) (a2 : Int32) : Option (Int32) :=
  if a0 = 1 then (
  some (a1 + a2)
  ) else 
  if a0 = 2 then (
  some a1
  ) else 
  if a0 = 3 then (
  some ((a1 + a2) + a1)
  ) else 
  if a0 = 4 then (
  some a1
  ) else 
  if a0 = 5 then (
  some a1
  ) else 
  some a2
def f_X2_rowNumber (a1 : Int32) (a2 : Int32) (a3 : Int32) (S : Sg) : Option (Int32) :=
  gd (inb ((a1 * (12 : Int32)) + a3) 120) <|
  bv (S.1 5 (ix ((a1 * (12 : Int32)) + a3))) fun x2 =>
  gd (inb (((a1 * (12 : Int32)) + (6 : Int32)) + a3) 120) <|
  bv (S.1 5 (ix (((a1 * (12 : Int32)) + (6 : Int32)) + a3))) fun x4 =>
  gd (inb a1 10) <|
  bv (S.1 2 (ix a1)) fun x6 =>
  jn (fun (x7 : Int64) =>
  cl1 (f_X9_restOf x7 (S.1 1 0)) fun r8 =>
  some r8
  ) fun j65 =>
  if a2 = 0 then (
  cl1 (f_X2_inFirst x6 x2 x4 a3) fun r12 =>
  j65 r12.toInt64
  ) else (
  cl1 (f_X2_inSecond x6 x2 x4) fun r10 =>
  j65 r10.toInt64
  )
def X5_fill_L36 (v4 : Int32) (k89 : Sg → Option (Sg)) (self36 : Int32 → Sg → Option (Sg)) (v8 : Int32) (S9 : Sg) : Option (Sg) :=
  if (S9.1 13 1) ≤ v8 then (
  k89 S9
  ) else (
  cl1 (f_X2_rowNumber v4 (0 : Int32) v8 S9) fun r10 =>
  gd (inb ((v4 * (12 : Int32)) + v8) 120) <|
  bv (si S9 14 (ix ((v4 * (12 : Int32)) + v8)) r10) fun S13 =>
  cl1 (f_X2_rowNumber v4 (1 : Int32) v8 S13) fun r14 =>
  gd (inb (((v4 * (12 : Int32)) + (6 : Int32)) + v8) 120) <|
  bv (si S13 14 (ix (((v4 * (12 : Int32)) + (6 : Int32)) + v8)) r14) fun S17 =>
  bv (v8 + 1) fun x18 =>
  self36 x18 S17
  )
def X5_fill_L26  (self26 : Int32 → Sg → Option (Sg)) (v4 : Int32) (S5 : Sg) : Option (Sg) :=
  if (S5.1 13 2) ≤ v4 then (
  some S5
  ) else (
  wp2 (X5_fill_L36 v4 (fun (S6 : Sg) =>
  bv (v4 + 1) fun x7 =>
  self26 x7 S6
  )) FU (0 : Int32) S5
  )
def f_X5_fill  (S : Sg) : Option (Sg) :=
  bv (si S 13 0 (S.1 1 0)) fun S1 =>
  bv (si S1 13 1 (S1.1 1 1)) fun S2 =>
  bv (si S2 13 2 (S2.1 1 2)) fun S3 =>
  wp2 (X5_fill_L26 ) FU (0 : Int32) S3
def X0_clearPlace_L27 (k : Nat) (a1 : Int32) (x2 : Int32) (x4 : Int32) (self27 : Int32 → Sg → Option (Sg)) (v5 : Int32) (S6 : Sg) : Option (Sg) :=
  if (S6.1 k 2) ≤ v5 then (
  some S6
  ) else (
  gd (inb v5 6) <|
  gd (inb ((a1 * (6 : Int32)) + v5) 36) <|
  gd (nz (S6.1 k 1)) <|
  gd (inb v5 6) <|
  bv (si S6 (k + 3) (ix v5) (irm (((S6.1 (k + 3) (ix v5)) * x4) + (x2 * (S6.1 (k + 1) (ix ((a1 * (6 : Int32)) + v5))))) (S6.1 k 1))) fun S11 =>
  bv (v5 + 1) fun x12 =>
  self27 x12 S11
  )
def f_X0_clearPlace (k : Nat) (a1 : Int32) (S : Sg) : Option (Sg) :=
  gd (inb a1 6) <|
  bv ((S.1 k 1) - (S.1 (k + 3) (ix a1))) fun x2 =>
  gd (inb ((a1 * (6 : Int32)) + a1) 36) <|
  bv (S.1 (k + 1) (ix ((a1 * (6 : Int32)) + a1))) fun x4 =>
  wp2 (X0_clearPlace_L27 k a1 x2 x4) FU a1 S
def X0_keepWork_L19 (k : Nat) (a1 : Int32) (self19 : Int32 → Sg → Option (Sg)) (v4 : Int32) (S5 : Sg) : Option (Sg) :=
  if (S5.1 k 2) ≤ v4 then (
  some S5
  ) else (
  gd (inb v4 6) <|
  gd (inb ((a1 * (6 : Int32)) + v4) 36) <|
  bv (si S5 (k + 1) (ix ((a1 * (6 : Int32)) + v4)) (S5.1 (k + 3) (ix v4))) fun S8 =>
  bv (v4 + 1) fun x9 =>
  self19 x9 S8
  )
def f_X0_keepWork (k : Nat) (a1 : Int32) (S : Sg) : Option (Sg) :=
  gd (inb a1 6) <|
  bv (si S (k + 2) (ix a1) (zb (1 : Int32))) fun S2 =>
  bv (si S2 k 0 ((S2.1 k 0) + (1 : Int32))) fun S3 =>
  wp2 (X0_keepWork_L19 k a1) FU (0 : Int32) S3
def X0_add_L45 (k : Nat) (self45 : Int32 → Sg → Option (Sg)) (v2 : Int32) (S3 : Sg) : Option (Sg) :=
  if (S3.1 k 2) ≤ v2 then (
  some S3
  ) else (
  gd (inb v2 6) <|
  jn (fun (S5 : Sg) =>
  bv (v2 + 1) fun x6 =>
  self45 x6 S5
  ) fun j82 =>
  if (S3.1 (k + 3) (ix v2)) = 0 then (
  j82 S3
  ) else (
  gd (inb v2 6) <|
  if (S3.1 (k + 2) (ix v2)) = 0 then (
  cl1 (f_X0_keepWork k v2 S3) fun S11 =>
  some S11
  ) else (
  cl1 (f_X0_clearPlace k v2 S3) fun S9 =>
  j82 S9
  )
  )
  )
def X0_add_L2 (k : Nat) (ka : Nat) (na : Nat) (a2 : Int32) (k43 : Sg → Option (Sg)) (self2 : Int32 → Sg → Option (Sg)) (v15 : Int32) (S16 : Sg) : Option (Sg) :=
  if (S16.1 k 2) ≤ v15 then (
  k43 S16
  ) else (
  jn (fun (x17 : Int32) =>
  gd (inb v15 6) <|
  bv (si S16 (k + 3) (ix v15) x17) fun S19 =>
  bv (v15 + 1) fun x20 =>
  self2 x20 S19
  ) fun j36 =>
  if (((S16.1 k 3) >>> (v15 &&& 31)) &&& (1 : Int32)) = (1 : Int32) then (
  j36 (0 : Int32)
  ) else (
  gd (inb (a2 + v15) na) <|
  j36 (S16.1 ka (ix (a2 + v15)))
  )
  )
def f_X0_add (k : Nat) (ka : Nat) (na : Nat) (a2 : Int32) (S : Sg) : Option (Sg) :=
  wp2 (X0_add_L2 k ka na a2 (fun (S1 : Sg) =>
  wp2 (X0_add_L45 k) FU (0 : Int32) S1
  )) FU (0 : Int32) S
def X0_clear_L23 (k : Nat) (self23 : Int32 → Sg → Option (Sg)) (v5 : Int32) (S6 : Sg) : Option (Sg) :=
  if (6 : Int32) ≤ v5 then (
  some S6
  ) else (
  gd (inb v5 6) <|
  bv (si S6 (k + 2) (ix v5) (zb (0 : Int32))) fun S8 =>
  bv (v5 + 1) fun x9 =>
  self23 x9 S8
  )
def f_X0_clear (k : Nat) (a1 : Int32) (a2 : Int32) (a3 : Int32) (S : Sg) : Option (Sg) :=
  bv (si S k 1 a1) fun S1 =>
  bv (si S1 k 2 a2) fun S2 =>
  bv (si S2 k 3 a3) fun S3 =>
  bv (si S3 k 0 (0 : Int32)) fun S4 =>
  wp2 (X0_clear_L23 k) FU (0 : Int32) S4
def X5_rankOf_L18 (a1 : Int32) (k74 : Sg → Option (Int32 × Sg)) (self18 : Int32 → Sg → Option (Int32 × Sg)) (v4 : Int32) (S5 : Sg) : Option (Int32 × Sg) :=
  if (S5.1 13 2) ≤ v4 then (
  k74 S5
  ) else (
  jn (fun (S6 : Sg) =>
  bv (v4 + 1) fun x7 =>
  self18 x7 S6
  ) fun j68 =>
  if ((a1 >>> (v4 &&& 31)) &&& (1 : Int32)) = (1 : Int32) then (
  cl1 (f_X0_add 15 14 120 (v4 * (12 : Int32)) S5) fun S9 =>
  cl1 (f_X0_add 15 14 120 ((v4 * (12 : Int32)) + (6 : Int32)) S9) fun S11 =>
  j68 S11
  ) else (
  j68 S5
  )
  )
def f_X5_rankOf (a1 : Int32) (a2 : Int32) (S : Sg) : Option (Int32 × Sg) :=
  cl1 (f_X0_clear 15 (S.1 13 0) (S.1 13 1) a2 S) fun S2 =>
  wp2 (X5_rankOf_L18 a1 (fun (S3 : Sg) =>
  some ((S3.1 15 0), S3)
  )) FU (0 : Int32) S2
def f_X9_told (a1 : Int32) (a2 : Int32) (S : Sg) : Option (Int32 × Sg) :=
  cl1 (f_X2_has a1 S) fun r1 =>
  if r1 = 0 then (
  some ((-2 : Int32), S)
  ) else (
  if a2 = 0 then (
  gd (inb a1 10) <|
  some ((S.1 2 (ix a1)), S)
  ) else 
  if a2 = 1 then (
  gd (inb a1 10) <|
  some ((S.1 3 (ix a1)), S)
  ) else 
  if a2 = 2 then (
  cl1 (f_X2_placeInQueue a1 S) fun r8 =>
  some (r8, S)
  ) else 
  if a2 = 3 then (
  gd (inb a1 10) <|
  if (lg_cmp (S.2 4 (ix a1)) (0 : Int64)) = 0 then (
  some ((-1 : Int32), S)
  ) else (
  gd (inb a1 10) <|
  cl1 (f_X2_namesBelow (S.2 4 (ix a1)) S) fun r13 =>
  some (r13, S)
  )
  ) else 
  if a2 = 4 then (
  cl1 (f_X5_fill S) fun S18 =>
  cl (f_X5_rankOf ((1 : Int32) <<< (a1 &&& 31)) (0 : Int32) S18) fun r19 S21 =>
  some (r19, S21)
  ) else 
  some ((-2 : Int32), S)
  )
def f_X9_number (a1 : Int32) (a2 : Int32) (a3 : Int32) (S : Sg) : Option (Int32) :=
  cl1 (f_X2_has a1 S) fun r1 =>
  if r1 = 0 then (
  some (-2 : Int32)
  ) else (
  cl1 (f_X9_isBit a2) fun r3 =>
  if r3 = 0 then (
  some (-2 : Int32)
  ) else (
  if a3 < 0 then (
  some (-2 : Int32)
  ) else (
  if a3 < (S.1 1 1) then (
  cl1 (f_X2_rowNumber a1 a2 a3 S) fun r5 =>
  some r5
  ) else (
  some (-2 : Int32)
  )
  )
  )
  )
def f_X9_drop  (S : Sg) : Option (Int32 × Sg) :=
  if (S.1 1 2) = 0 then (
  some ((-3 : Int32), S)
  ) else (
  bv (si S 1 2 ((S.1 1 2) - (1 : Int32))) fun S1 =>
  some ((S1.1 1 2), S1)
  )
def X9_isName_L5 (a0 : Int64) (k55 : Int32 → Option (Int32)) (self5 : Int32 → Int32 → Option (Int32)) (v4 : Int32) (v5 : Int32) : Option (Int32) :=
  if v5 < 0 then (
  k55 v4
  ) else (
  bv (((lush a0 v5) &&& (255 : Int64)).toInt32) fun x6 =>
  jn (fun (v7 : Int32) =>
  bv (v5 + (-8)) fun x8 =>
  self5 v7 x8
  ) fun j49 =>
  if x6 = 0 then (
  j49 (1 : Int32)
  ) else (
  if v4 = 0 then (
  if x6 < (97 : Int32) then (
  some (0 : Int32)
  ) else (
  if x6 ≤ (122 : Int32) then (
  j49 v4
  ) else (
  some (0 : Int32)
  )
  )
  ) else (
  some (0 : Int32)
  )
  )
  )
def f_X9_isName (a0 : Int64) : Option (Int32) :=
  wp2 (X9_isName_L5 a0 (fun (v1 : Int32) =>
  if v1 = 0 then (
  some (0 : Int32)
  ) else (
  if (lg_cmp a0 (0 : Int64)) = 0 then (
  some (0 : Int32)
  ) else (
  some (1 : Int32)
  )
  )
  )) FU (0 : Int32) (56 : Int32)
def X2_ownerOf_L2 (a1 : Int64) (S : Sg) (self2 : Int32 → Option (Int32)) (v1 : Int32) : Option (Int32) :=
  if (S.1 1 2) ≤ v1 then (
  some (-1 : Int32)
  ) else (
  gd (inb v1 10) <|
  if (lg_cmp (S.2 4 (ix v1)) a1) = 0 then (
  some v1
  ) else (
  bv (v1 + 1) fun x3 =>
  self2 x3
  )
  )
def f_X2_ownerOf (a1 : Int64) (S : Sg) : Option (Int32) :=
  wp1 (X2_ownerOf_L2 a1 S) FU (0 : Int32)
def f_X9_name (a1 : Int32) (a2 : Int64) (S : Sg) : Option (Int32 × Sg) :=
  cl1 (f_X2_has a1 S) fun r1 =>
  if r1 = 0 then (
  some ((-2 : Int32), S)
  ) else (
  cl1 (f_X9_isName a2) fun r3 =>
  if r3 = 0 then (
  some ((-2 : Int32), S)
  ) else (
  cl1 (f_X2_ownerOf a2 S) fun r5 =>
  jn (
  gd (inb a1 10) <|
  bv (sl S 4 (ix a1) a2) fun S8 =>
  some ((1 : Int32), S8)
  ) fun j46 =>
  if r5 = (-1 : Int32) then (
  j46 
  ) else (
  if r5 = a1 then (
  j46 
  ) else (
  some ((-3 : Int32), S)
  )
  )
  )
  )
def f_X9_named (a1 : Int64) (S : Sg) : Option (Int32) :=
  cl1 (f_X9_isName a1) fun r1 =>
  if r1 = 0 then (
  some (-2 : Int32)
  ) else (
  cl1 (f_X2_ownerOf a1 S) fun r3 =>
  some r3
  )
def f_X9_unname (a1 : Int32) (S : Sg) : Option (Int32 × Sg) :=
  cl1 (f_X2_has a1 S) fun r1 =>
  if r1 = 0 then (
  some ((-2 : Int32), S)
  ) else (
  gd (inb a1 10) <|
  jn (fun (x4 : Int32) =>
  gd (inb a1 10) <|
  bv (sl S 4 (ix a1) (0 : Int64)) fun S6 =>
  some (x4, S6)
  ) fun j33 =>
  if (lg_cmp (S.2 4 (ix a1)) (0 : Int64)) = 0 then (
  j33 (0 : Int32)
  ) else (
  j33 (1 : Int32)
  )
  )
def X9_nameAt_L2 (a1 : Int32) (S : Sg) (self2 : Int32 → Option (Int64)) (v1 : Int32) : Option (Int64) :=
  if (S.1 1 2) ≤ v1 then (
  some (-12 : Int64)
  ) else (
  gd (inb v1 10) <|
  bv (S.2 4 (ix v1)) fun x3 =>
  jn (
  bv (v1 + 1) fun x4 =>
  self2 x4
  ) fun j43 =>
  if (lg_cmp x3 (0 : Int64)) = 0 then (
  j43 
  ) else (
  cl1 (f_X2_namesBelow x3 S) fun r5 =>
  if r5 = a1 then (
  some x3
  ) else (
  j43 
  )
  )
  )
def f_X9_nameAt (a1 : Int32) (S : Sg) : Option (Int64) :=
  wp1 (X9_nameAt_L2 a1 S) FU (0 : Int32)
def f_X2_hasAll (a1 : Int32) (S : Sg) : Option (Int32) :=
  if a1 < 0 then (
  some (0 : Int32)
  ) else (
  if ((1 : Int32) <<< ((S.1 1 2) &&& 31)) ≤ a1 then (
  some (0 : Int32)
  ) else (
  some (1 : Int32)
  )
  )
def f_X9_rank (a1 : Int32) (S : Sg) : Option (Int32 × Sg) :=
  cl1 (f_X2_hasAll a1 S) fun r1 =>
  if r1 = 0 then (
  some ((-2 : Int32), S)
  ) else (
  cl1 (f_X5_fill S) fun S4 =>
  cl (f_X5_rankOf a1 (0 : Int32) S4) fun r5 S7 =>
  some (r5, S7)
  )
def f_J6_bitCount_0f7a4 (a0 : Int32) : Option (Int32) :=
  bv (a0 - ((ush a0 (1 : Int32)) &&& (1431655765 : Int32))) fun x1 =>
  bv ((x1 &&& (858993459 : Int32)) + ((ush x1 (2 : Int32)) &&& (858993459 : Int32))) fun x2 =>
  bv ((x2 + (ush x2 (4 : Int32))) &&& (252645135 : Int32)) fun x3 =>
  bv (x3 + (ush x3 (8 : Int32))) fun x4 =>
  bv (x4 + (ush x4 (16 : Int32))) fun x5 =>
  some (x5 &&& (63 : Int32))
def f_X5_isStanding (a1 : Int32) (S : Sg) : Option (Int32 × Sg) :=
  cl1 (f_J6_bitCount_0f7a4 a1) fun r1 =>
  bv ((2 : Int32) * r1) fun x3 =>
  if (S.1 13 1) < x3 then (
  some ((0 : Int32), S)
  ) else (
  cl (f_X5_rankOf a1 (0 : Int32) S) fun r4 S6 =>
  if r4 = x3 then (
  some ((1 : Int32), S6)
  ) else (
  some ((0 : Int32), S6)
  )
  )
def f_X9_stands (a1 : Int32) (S : Sg) : Option (Int32 × Sg) :=
  cl1 (f_X2_hasAll a1 S) fun r1 =>
  if r1 = 0 then (
  some ((-2 : Int32), S)
  ) else (
  cl1 (f_X5_fill S) fun S4 =>
  cl (f_X5_isStanding a1 S4) fun r5 S7 =>
  if r5 = 0 then (
  some ((0 : Int32), S7)
  ) else (
  some ((1 : Int32), S7)
  )
  )
def X8_fill_L27  (self27 : Int32 → Sg → Option (Sg)) (v5 : Int32) (S6 : Sg) : Option (Sg) :=
  if (S6.1 19 0) ≤ v5 then (
  some S6
  ) else (
  gd (inb (v5 &&& (v5 - (1 : Int32))) 1024) <|
  jn (fun (x8 : Int32) (S9 : Sg) =>
  gd (inb v5 1024) <|
  bv (si S9 20 (ix v5) (zb x8)) fun S11 =>
  bv (v5 + 1) fun x12 =>
  self27 x12 S11
  ) fun j66 =>
  jn (fun (S13 : Sg) =>
  j66 (0 : Int32) S13
  ) fun j65 =>
  if (S6.1 20 (ix (v5 &&& (v5 - (1 : Int32))))) = 0 then (
  j65 S6
  ) else (
  cl (f_X5_isStanding v5 S6) fun r14 S16 =>
  if r14 = 0 then (
  j65 S16
  ) else (
  j66 (1 : Int32) S16
  )
  )
  )
def f_X8_fill  (S : Sg) : Option (Sg) :=
  bv (si S 19 1 (S.1 13 2)) fun S1 =>
  bv (si S1 19 0 ((1 : Int32) <<< ((S1.1 19 1) &&& 31))) fun S2 =>
  gd (inb (0 : Int32) 1024) <|
  bv (si S2 20 (ix (0 : Int32)) (zb (1 : Int32))) fun S4 =>
  wp2 (X8_fill_L27 ) FU (1 : Int32) S4
def f_X9_fillStanding  (S : Sg) : Option (Sg) :=
  cl1 (f_X5_fill S) fun S2 =>
  cl1 (f_X8_fill S2) fun S4 =>
  some S4
def X8_greatest_L4 (S : Sg) (self4 : Int32 → Int32 → Option (Int32)) (v1 : Int32) (v2 : Int32) : Option (Int32) :=
  if (S.1 19 0) ≤ v2 then (
  some v1
  ) else (
  gd (inb v2 1024) <|
  jn (fun (v4 : Int32) =>
  bv (v2 + 1) fun x5 =>
  self4 v4 x5
  ) fun j30 =>
  if (S.1 20 (ix v2)) = 0 then (
  j30 v1
  ) else (
  cl1 (f_J6_bitCount_0f7a4 v2) fun r6 =>
  bv (if v1 < r6 then r6 else v1) fun x8 =>
  j30 x8
  )
  )
def f_X8_greatest  (S : Sg) : Option (Int32) :=
  wp2 (X8_greatest_L4 S) FU (0 : Int32) (0 : Int32)
def f_X9_most  (S : Sg) : Option (Int32 × Sg) :=
  cl1 (f_X9_fillStanding S) fun S2 =>
  cl1 (f_X8_greatest S2) fun r3 =>
  some (r3, S2)
def X9_best_L54 (S2 : Sg) (r3 : Int32) (k107 : Int32 → Int32 → Int32 → Int32 → Option (Int32 × Sg)) (self54 : Int32 → Int32 → Int32 → Int32 → Int32 → Option (Int32 × Sg)) (v14 : Int32) (v15 : Int32) (v16 : Int32) (v17 : Int32) (v18 : Int32) : Option (Int32 × Sg) :=
  if v18 < 0 then (
  k107 v14 v15 v16 v17
  ) else (
  gd (inb v18 1024) <|
  jn (fun (v20 : Int32) (v21 : Int32) (v22 : Int32) (v23 : Int32) =>
  bv (v18 + (-1)) fun x24 =>
  self54 v20 v21 v22 v23 x24
  ) fun j101 =>
  if (S2.1 20 (ix v18)) = 0 then (
  j101 v14 v15 v16 v17
  ) else (
  cl1 (f_J6_bitCount_0f7a4 v18) fun r25 =>
  if r25 = r3 then (
  bv (v15 + 1) fun x27 =>
  bv (v16 &&& v18) fun x28 =>
  bv (v17 ||| v18) fun x29 =>
  j101 v18 x27 x28 x29
  ) else (
  j101 v14 v15 v16 v17
  )
  )
  )
def f_X9_best (a1 : Int32) (S : Sg) : Option (Int32 × Sg) :=
  if a1 < 0 then (
  some ((-2 : Int32), S)
  ) else (
  if a1 ≤ (3 : Int32) then (
  cl1 (f_X9_fillStanding S) fun S2 =>
  cl1 (f_X8_greatest S2) fun r3 =>
  bv ((S2.1 19 0) - (1 : Int32)) fun x5 =>
  bv ((S2.1 19 0) - (1 : Int32)) fun x6 =>
  wp5 (X9_best_L54 S2 r3 (fun (v7 : Int32) (v8 : Int32) (v9 : Int32) (v10 : Int32) =>
  if a1 = 0 then (
  some (v7, S2)
  ) else 
  if a1 = 1 then (
  some (v8, S2)
  ) else 
  if a1 = 2 then (
  some (v9, S2)
  ) else 
  some (v10, S2)
  )) FU (0 : Int32) (0 : Int32) x5 (0 : Int32) x6
  ) else (
  some ((-2 : Int32), S)
  )
  )
def X2_weightOf_L4 (a1 : Int32) (S : Sg) (self4 : Int32 → Int32 → Option (Int32)) (v1 : Int32) (v2 : Int32) : Option (Int32) :=
  if (S.1 1 2) ≤ v2 then (
  some v1
  ) else (
  jn (fun (v3 : Int32) =>
  bv (v2 + 1) fun x4 =>
  self4 v3 x4
  ) fun j30 =>
  if ((a1 >>> (v2 &&& 31)) &&& (1 : Int32)) = (1 : Int32) then (
  gd (inb v2 10) <|
  bv (v1 + (S.1 3 (ix v2))) fun x6 =>
  j30 x6
  ) else (
  j30 v1
  )
  )
def f_X2_weightOf (a1 : Int32) (S : Sg) : Option (Int32) :=
  wp2 (X2_weightOf_L4 a1 S) FU (0 : Int32) (0 : Int32)
def X9_heavy_L21 (S4 : Sg) (k78 : Int32 → Int32 → Option (Int32 × Sg)) (self21 : Int32 → Int32 → Int32 → Option (Int32 × Sg)) (v8 : Int32) (v9 : Int32) (v10 : Int32) : Option (Int32 × Sg) :=
  if (S4.1 19 0) ≤ v10 then (
  k78 v8 v9
  ) else (
  gd (inb v10 1024) <|
  jn (fun (v12 : Int32) (v13 : Int32) =>
  bv (v10 + 1) fun x14 =>
  self21 v12 v13 x14
  ) fun j72 =>
  if (S4.1 20 (ix v10)) = 0 then (
  j72 v8 v9
  ) else (
  cl1 (f_X2_weightOf v10 S4) fun r15 =>
  if r15 ≤ v9 then (
  j72 v8 v9
  ) else (
  cl1 (f_X2_weightOf v10 S4) fun r17 =>
  j72 v10 r17
  )
  )
  )
def f_X9_heavy (a1 : Int32) (S : Sg) : Option (Int32 × Sg) :=
  cl1 (f_X9_isBit a1) fun r1 =>
  if r1 = 0 then (
  some ((-2 : Int32), S)
  ) else (
  cl1 (f_X9_fillStanding S) fun S4 =>
  wp3 (X9_heavy_L21 S4 (fun (v5 : Int32) (v6 : Int32) =>
  if a1 = 0 then (
  some (v5, S4)
  ) else (
  some (v6, S4)
  )
  )) FU (0 : Int32) (0 : Int32) (0 : Int32)
  )
def X9_fillOrder_L2  (self2 : Int32 → Sg → Option (Sg)) (v1 : Int32) (S2 : Sg) : Option (Sg) :=
  if (S2.1 1 2) ≤ v1 then (
  some S2
  ) else (
  cl1 (f_X2_placeInQueue v1 S2) fun r3 =>
  gd (inb r3 10) <|
  bv (si S2 49 (ix r3) v1) fun S6 =>
  bv (v1 + 1) fun x7 =>
  self2 x7 S6
  )
def f_X9_fillOrder  (S : Sg) : Option (Sg) :=
  wp2 (X9_fillOrder_L2 ) FU (0 : Int32) S
def f_X9_queue (a1 : Int32) (S : Sg) : Option (Int32 × Sg) :=
  cl1 (f_X2_has a1 S) fun r1 =>
  if r1 = 0 then (
  some ((-12 : Int32), S)
  ) else (
  cl1 (f_X9_fillOrder S) fun S4 =>
  gd (inb a1 10) <|
  some ((S4.1 49 (ix a1)), S4)
  )
def X9_greedy_L29  (k73 : Int32 → Sg → Option (Int32 × Sg)) (self29 : Int32 → Int32 → Sg → Option (Int32 × Sg)) (v12 : Int32) (v13 : Int32) (S14 : Sg) : Option (Int32 × Sg) :=
  if (S14.1 1 2) ≤ v13 then (
  k73 v12 S14
  ) else (
  gd (inb v13 10) <|
  bv (v12 ||| ((1 : Int32) <<< ((S14.1 49 (ix v13)) &&& 31))) fun x16 =>
  cl (f_X5_isStanding x16 S14) fun r17 S19 =>
  jn (fun (v20 : Int32) =>
  bv (v13 + 1) fun x21 =>
  self29 v20 x21 S19
  ) fun j67 =>
  if r17 = 0 then (
  j67 v12
  ) else (
  j67 x16
  )
  )
def f_X9_greedy (a1 : Int32) (S : Sg) : Option (Int32 × Sg) :=
  cl1 (f_X9_isBit a1) fun r1 =>
  if r1 = 0 then (
  some ((-2 : Int32), S)
  ) else (
  cl1 (f_X5_fill S) fun S4 =>
  cl1 (f_X9_fillOrder S4) fun S6 =>
  wp3 (X9_greedy_L29  (fun (v7 : Int32) (S8 : Sg) =>
  if a1 = 0 then (
  some (v7, S8)
  ) else (
  cl1 (f_X2_weightOf v7 S8) fun r9 =>
  some (r9, S8)
  )
  )) FU (0 : Int32) (0 : Int32) S6
  )
def X8_withOneMore_L2 (a1 : Int32) (S : Sg) (self2 : Int32 → Option (Int32)) (v1 : Int32) : Option (Int32) :=
  if (S.1 19 1) ≤ v1 then (
  some a1
  ) else (
  bv (a1 ||| ((1 : Int32) <<< (v1 &&& 31))) fun x2 =>
  jn (
  bv (v1 + 1) fun x3 =>
  self2 x3
  ) fun j32 =>
  if x2 = a1 then (
  j32 
  ) else (
  gd (inb x2 1024) <|
  if (S.1 20 (ix x2)) = 0 then (
  j32 
  ) else (
  some x2
  )
  )
  )
def f_X8_withOneMore (a1 : Int32) (S : Sg) : Option (Int32) :=
  wp1 (X8_withOneMore_L2 a1 S) FU (0 : Int32)
def X8_twoMore_L15 (a1 : Int32) (a2 : Int32) (S : Sg) (v1 : Int32) (k64 : Option (Int32)) (self15 : Int32 → Option (Int32)) (v4 : Int32) : Option (Int32) :=
  if (S.1 19 1) ≤ v4 then (
  k64 
  ) else (
  bv (((1 : Int32) <<< (v1 &&& 31)) ||| ((1 : Int32) <<< (v4 &&& 31))) fun x5 =>
  jn (
  bv (v4 + 1) fun x6 =>
  self15 x6
  ) fun j58 =>
  if (a1 &&& x5) = 0 then (
  gd (inb (a2 ||| x5) 1024) <|
  if (S.1 20 (ix (a2 ||| x5))) = 0 then (
  j58 
  ) else (
  some (a2 ||| x5)
  )
  ) else (
  j58 
  )
  )
def X8_twoMore_L2 (a1 : Int32) (a2 : Int32) (S : Sg) (self2 : Int32 → Option (Int32)) (v1 : Int32) : Option (Int32) :=
  if (S.1 19 1) ≤ v1 then (
  some (-1 : Int32)
  ) else (
  bv (v1 + (1 : Int32)) fun x2 =>
  wp1 (X8_twoMore_L15 a1 a2 S v1 (
  bv (v1 + 1) fun x3 =>
  self2 x3
  )) FU x2
  )
def f_X8_twoMore (a1 : Int32) (a2 : Int32) (S : Sg) : Option (Int32) :=
  wp1 (X8_twoMore_L2 a1 a2 S) FU (0 : Int32)
def X8_withTwoForOne_L2 (a1 : Int32) (S : Sg) (self2 : Int32 → Option (Int32)) (v1 : Int32) : Option (Int32) :=
  if (S.1 19 1) ≤ v1 then (
  some a1
  ) else (
  jn (
  bv (v1 + 1) fun x2 =>
  self2 x2
  ) fun j39 =>
  if ((a1 >>> (v1 &&& 31)) &&& (1 : Int32)) = (1 : Int32) then (
  cl1 (f_X8_twoMore a1 (a1 &&& (((1 : Int32) <<< (v1 &&& 31)) ^^^ (-1 : Int32))) S) fun r3 =>
  if r3 = (-1 : Int32) then (
  j39 
  ) else (
  some r3
  )
  ) else (
  j39 
  )
  )
def f_X8_withTwoForOne (a1 : Int32) (S : Sg) : Option (Int32) :=
  wp1 (X8_withTwoForOne_L2 a1 S) FU (0 : Int32)
def X8_bettered_L4 (S : Sg) (self4 : Int32 → Int32 → Option (Int32)) (v1 : Int32) (v2 : Int32) : Option (Int32) :=
  if (S.1 19 1) ≤ v2 then (
  some v1
  ) else (
  cl1 (f_X8_withOneMore v1 S) fun r3 =>
  jn (fun (x5 : Int32) =>
  bv (v2 + 1) fun x6 =>
  self4 x5 x6
  ) fun j35 =>
  if r3 = v1 then (
  cl1 (f_X8_withTwoForOne v1 S) fun r7 =>
  j35 r7
  ) else (
  j35 r3
  )
  )
def f_X8_bettered (a1 : Int32) (S : Sg) : Option (Int32) :=
  wp2 (X8_bettered_L4 S) FU a1 (0 : Int32)
def f_X9_better (a1 : Int32) (S : Sg) : Option (Int32 × Sg) :=
  cl1 (f_X2_hasAll a1 S) fun r1 =>
  if r1 = 0 then (
  some ((-2 : Int32), S)
  ) else (
  cl1 (f_X9_fillStanding S) fun S4 =>
  gd (inb a1 1024) <|
  if (S4.1 20 (ix a1)) = 0 then (
  some ((-3 : Int32), S4)
  ) else (
  cl1 (f_X8_bettered a1 S4) fun r6 =>
  some (r6, S4)
  )
  )
def f_X6_has (k : Nat) (a1 : Int32) (S : Sg) : Option (Int32) :=
  if a1 < 0 then (
  some (0 : Int32)
  ) else (
  if (S.1 k 1) ≤ a1 then (
  some (0 : Int32)
  ) else (
  some (1 : Int32)
  )
  )
def f_X6_numberFor (k : Nat) (a1 : Int32) (S : Sg) : Option (Int64) :=
  cl1 (f_X6_has k a1 S) fun r1 =>
  if r1 = 0 then (
  some (0 : Int64)
  ) else (
  gd (inb a1 30) <|
  some (S.2 (k + 1) (ix a1))
  )
def X9_fillTimes_L2 (ks : Nat) (self2 : Int32 → Sg → Option (Sg)) (v1 : Int32) (S2 : Sg) : Option (Sg) :=
  if (S2.1 1 2) ≤ v1 then (
  some S2
  ) else (
  cl1 (f_X6_numberFor ks v1 S2) fun r3 =>
  cl1 (f_X9_restOf r3 (S2.1 1 0)) fun r5 =>
  gd (inb v1 10) <|
  bv (si S2 50 (ix v1) r5) fun S8 =>
  bv (v1 + 1) fun x9 =>
  self2 x9 S8
  )
def f_X9_fillTimes (ks : Nat) (S : Sg) : Option (Sg) :=
  wp2 (X9_fillTimes_L2 ks) FU (0 : Int32) S
def f_X9_isSheet (a0 : Int32) : Option (Int32) :=
  if a0 < 0 then (
  some (0 : Int32)
  ) else (
  if (4 : Int32) ≤ a0 then (
  some (0 : Int32)
  ) else (
  some (1 : Int32)
  )
  )
def f_X6_isMissing (k : Nat) (S : Sg) : Option (Int32) :=
  if (S.1 k 0) = (-1 : Int32) then (
  some (1 : Int32)
  ) else (
  some (0 : Int32)
  )
def f_X5_difference (a1 : Int32) (a2 : Int32) (a3 : Int32) (S : Sg) : Option (Int32) :=
  bv (a1 * (12 : Int32)) fun x1 =>
  bv (x1 + (6 : Int32)) fun x2 =>
  gd (inb (x1 + a2) 120) <|
  gd (inb (x2 + a3) 120) <|
  gd (inb (x2 + a2) 120) <|
  gd (inb (x1 + a3) 120) <|
  some (((S.1 14 (ix (x1 + a2))) * (S.1 14 (ix (x2 + a3)))) - ((S.1 14 (ix (x2 + a2))) * (S.1 14 (ix (x1 + a3)))))
def X7_numberAt_L6 (a3 : Int32) (a4 : Int32) (S : Sg) (k40 : Int32 → Option (Int32)) (self6 : Int32 → Int32 → Option (Int32)) (v4 : Int32) (v5 : Int32) : Option (Int32) :=
  if (S.1 13 2) ≤ v5 then (
  k40 v4
  ) else (
  gd (inb v5 10) <|
  cl1 (f_X5_difference v5 a3 a4 S) fun r7 =>
  bv (v4 + ((S.1 50 (ix v5)) * r7)) fun x9 =>
  bv (v5 + 1) fun x10 =>
  self6 x9 x10
  )
def f_X7_numberAt (a3 : Int32) (a4 : Int32) (S : Sg) : Option (Int32) :=
  wp2 (X7_numberAt_L6 a3 a4 S (fun (v1 : Int32) =>
  cl1 (f_X9_restOf v1.toInt64 (S.1 13 0)) fun r2 =>
  some r2
  )) FU (0 : Int32) (0 : Int32)
def f_X9_table (a1 : Int32) (a2 : Int32) (a3 : Int32) (S : Sg) : Option (Int32 × Sg) :=
  cl1 (f_X9_isSheet a1) fun r1 =>
  if r1 = 0 then (
  some ((-2 : Int32), S)
  ) else (
  if a2 < 0 then (
  some ((-2 : Int32), S)
  ) else (
  if (S.1 1 1) ≤ a2 then (
  some ((-2 : Int32), S)
  ) else (
  if a3 < 0 then (
  some ((-2 : Int32), S)
  ) else (
  if a3 < (S.1 1 1) then (
  gd (inb a1 4) <|
  cl1 (f_X6_isMissing (32 + 2 * ix a1) S) fun r5 =>
  if r5 = 0 then (
  cl1 (f_X5_fill S) fun S8 =>
  gd (inb a1 4) <|
  cl1 (f_X9_fillTimes (32 + 2 * ix a1) S8) fun S12 =>
  cl1 (f_X7_numberAt a2 a3 S12) fun r13 =>
  some (r13, S12)
  ) else (
  some ((-11 : Int32), S)
  )
  ) else (
  some ((-2 : Int32), S)
  )
  )
  )
  )
  )
def X7_halfRank_L29 (v4 : Int32) (k60 : Sg → Option (Int32 × Sg)) (self29 : Int32 → Sg → Option (Int32 × Sg)) (v10 : Int32) (S11 : Sg) : Option (Int32 × Sg) :=
  if (S11.1 13 1) ≤ v10 then (
  k60 S11
  ) else (
  cl1 (f_X7_numberAt v4 v10 S11) fun r12 =>
  gd (inb v10 6) <|
  bv (si S11 22 (ix v10) r12) fun S15 =>
  bv (v10 + 1) fun x16 =>
  self29 x16 S15
  )
def X7_halfRank_L18  (k78 : Sg → Option (Int32 × Sg)) (self18 : Int32 → Sg → Option (Int32 × Sg)) (v4 : Int32) (S5 : Sg) : Option (Int32 × Sg) :=
  if (S5.1 13 1) ≤ v4 then (
  k78 S5
  ) else (
  wp2 (X7_halfRank_L29 v4 (fun (S6 : Sg) =>
  cl1 (f_X0_add 23 22 6 (0 : Int32) S6) fun S8 =>
  bv (v4 + 1) fun x9 =>
  self18 x9 S8
  )) FU (0 : Int32) S5
  )
def f_X7_halfRank  (S : Sg) : Option (Int32 × Sg) :=
  cl1 (f_X0_clear 23 (S.1 13 0) (S.1 13 1) (0 : Int32) S) fun S2 =>
  wp2 (X7_halfRank_L18  (fun (S3 : Sg) =>
  some (((S3.1 23 0) / (2 : Int32)), S3)
  )) FU (0 : Int32) S2
def f_X9_half (a1 : Int32) (S : Sg) : Option (Int32 × Sg) :=
  cl1 (f_X9_isSheet a1) fun r1 =>
  if r1 = 0 then (
  some ((-2 : Int32), S)
  ) else (
  gd (inb a1 4) <|
  cl1 (f_X6_isMissing (32 + 2 * ix a1) S) fun r5 =>
  if r5 = 0 then (
  cl1 (f_X5_fill S) fun S8 =>
  gd (inb a1 4) <|
  cl1 (f_X9_fillTimes (32 + 2 * ix a1) S8) fun S12 =>
  cl (f_X7_halfRank S12) fun r13 S15 =>
  some (r13, S15)
  ) else (
  some ((-11 : Int32), S)
  )
  )
def f_X4_minus (a1 : Int64) (a3 : Int64) (S : Sg) : Option (Int64 × Sg) :=
  bv (a1 - a3) fun x1 =>
  jn (fun (x2 : Int32) =>
  gd (isB ((S.1 27 1) ||| x2)) <|
  bv (si S 27 1 ((S.1 27 1) ||| x2)) fun S4 =>
  some (x1, S4)
  ) fun j28 =>
  if 0 ≤ (lg_cmp ((a1 ^^^ a3) &&& (a1 ^^^ x1)) (0 : Int64)) then (
  j28 (0 : Int32)
  ) else (
  j28 (1 : Int32)
  )
def f_X4_plus (a1 : Int64) (a3 : Int64) (S : Sg) : Option (Int64 × Sg) :=
  bv (a1 + a3) fun x1 =>
  jn (fun (x2 : Int32) =>
  gd (isB ((S.1 27 1) ||| x2)) <|
  bv (si S 27 1 ((S.1 27 1) ||| x2)) fun S4 =>
  some (x1, S4)
  ) fun j29 =>
  if 0 ≤ (lg_cmp ((a1 ^^^ x1) &&& (a3 ^^^ x1)) (0 : Int64)) then (
  j29 (0 : Int32)
  ) else (
  j29 (1 : Int32)
  )
def f_X4_product (a1 : Int64) (a3 : Int64) (S : Sg) : Option (Int64 × Sg) :=
  bv (a1 * a3) fun x1 =>
  jn (fun (x2 : Int32) =>
  gd (isB ((S.1 27 1) ||| x2)) <|
  bv (si S 27 1 ((S.1 27 1) ||| x2)) fun S4 =>
  some (x1, S4)
  ) fun j54 =>
  if (lg_cmp a3 (-1 : Int64)) = 0 then (
  if (lg_cmp a1 (-9223372036854775808 : Int64)) = 0 then (
  j54 (1 : Int32)
  ) else (
  j54 (0 : Int32)
  )
  ) else (
  jn (
  j54 (0 : Int32)
  ) fun j53 =>
  if (lg_cmp a3 (0 : Int64)) = 0 then (
  j53 
  ) else (
  gd (nzl a3) <|
  if (lg_cmp (x1 / a3) a1) = 0 then (
  j53 
  ) else (
  j54 (1 : Int32)
  )
  )
  )
def X4_ofPlaces_L53 (a1 : Int32) (a2 : Int32) (rc : Int32 → Int32 → Sg → Option (Int64 × Sg)) (v1 : Int32) (self53 : Int64 → Int32 → Int32 → Sg → Option (Int64 × Sg)) (v3 : Int64) (v4 : Int32) (v5 : Int32) (S6 : Sg) : Option (Int64 × Sg) :=
  if (S6.1 27 0) ≤ v5 then (
  some (v3, S6)
  ) else (
  jn (fun (v7 : Int64) (v8 : Int32) (S9 : Sg) =>
  bv (v5 + 1) fun x10 =>
  self53 v7 v8 x10 S9
  ) fun j151 =>
  if ((a1 >>> (v5 &&& 31)) &&& (1 : Int32)) = (1 : Int32) then (
  cl (rc (a1 &&& ((((1 : Int32) <<< (v1 &&& 31)) ||| ((1 : Int32) <<< (v5 &&& 31))) ^^^ (-1 : Int32))) (a2 + (1 : Int32)) S6) fun r11 S13 =>
  gd (inb ((v1 * (6 : Int32)) + v5) 36) <|
  cl (f_X4_product (S13.2 28 (ix ((v1 * (6 : Int32)) + v5))) r11 S13) fun r15 S17 =>
  jn (fun (x18 : Int64) (S19 : Sg) =>
  jn (fun (x20 : Int32) =>
  j151 x18 x20 S19
  ) fun j149 =>
  if v4 = 0 then (
  j149 (1 : Int32)
  ) else (
  j149 (0 : Int32)
  )
  ) fun j137 =>
  if v4 = 0 then (
  cl (f_X4_minus v3 r15 S17) fun r22 S24 =>
  j137 r22 S24
  ) else (
  cl (f_X4_plus v3 r15 S17) fun r25 S27 =>
  j137 r25 S27
  )
  ) else (
  j151 v3 v4 S6
  )
  )
def X4_ofPlaces_L20 (a1 : Int32) (S : Sg) (k42 : Int32 → Option (Int64 × Sg)) (self20 : Int32 → Option (Int64 × Sg)) (v31 : Int32) : Option (Int64 × Sg) :=
  if (S.1 27 0) ≤ v31 then (
  k42 v31
  ) else (
  if ((a1 >>> (v31 &&& 31)) &&& (1 : Int32)) = 0 then (
  bv (v31 + 1) fun x32 =>
  self20 x32
  ) else (
  k42 v31
  )
  )
def g_X4_ofPlaces (rc : Int32 → Int32 → Sg → Option (Int64 × Sg)) (a1 : Int32) (a2 : Int32) (S : Sg) : Option (Int64 × Sg) :=
  if a1 = 0 then (
  some ((1 : Int64), S)
  ) else (
  if (S.1 27 1) = 0 then (
  if a2 ≤ (3 : Int32) then (
  wp1 (X4_ofPlaces_L20 a1 S (fun (v1 : Int32) =>
  bv (v1 + (1 : Int32)) fun x2 =>
  wp4 (X4_ofPlaces_L53 a1 a2 rc v1) FU (0 : Int64) (1 : Int32) x2 S
  )) FU (0 : Int32)
  ) else (
  some ((1 : Int64), S)
  )
  ) else (
  some ((1 : Int64), S)
  )
  )
def f_X4_ofPlaces (a1 : Int32) (a2 : Int32) (S : Sg) : Option (Int64 × Sg) := wp3 g_X4_ofPlaces 8 a1 a2 S
def f_X9_isInt (a0 : Int64) : Option (Int32) :=
  if (lg_cmp a0 a0.toInt32.toInt64) = 0 then (
  some (1 : Int32)
  ) else (
  some (0 : Int32)
  )
def X4_wholeNumber_L6 (ks : Nat) (a3 : Int32) (a4 : Int32) (k49 : Int64 → Sg → Option (Int64 × Sg)) (self6 : Int64 → Int32 → Sg → Option (Int64 × Sg)) (v9 : Int64) (v10 : Int32) (S11 : Sg) : Option (Int64 × Sg) :=
  if (S11.1 13 2) ≤ v10 then (
  k49 v9 S11
  ) else (
  cl1 (f_X6_numberFor ks v10 S11) fun r12 =>
  cl1 (f_X5_difference v10 a3 a4 S11) fun r14 =>
  cl (f_X4_product r12 r14.toInt64 S11) fun r16 S18 =>
  cl (f_X4_plus v9 r16 S18) fun r19 S21 =>
  bv (v10 + 1) fun x22 =>
  self6 r19 x22 S21
  )
def f_X4_wholeNumber (ks : Nat) (a3 : Int32) (a4 : Int32) (S : Sg) : Option (Int64 × Sg) :=
  wp3 (X4_wholeNumber_L6 ks a3 a4 (fun (v1 : Int64) (S2 : Sg) =>
  cl1 (f_X9_isInt v1) fun r3 =>
  jn (fun (x5 : Int32) =>
  gd (isB ((S2.1 27 1) ||| x5)) <|
  bv (si S2 27 1 ((S2.1 27 1) ||| x5)) fun S7 =>
  some (v1, S7)
  ) fun j67 =>
  if r3 = 0 then (
  j67 (1 : Int32)
  ) else (
  j67 (0 : Int32)
  )
  )) FU (0 : Int64) (0 : Int32) S
def X4_made_L28 (ks : Nat) (v8 : Int32) (k64 : Sg → Option (Int64 × Sg)) (self28 : Int32 → Sg → Option (Int64 × Sg)) (v13 : Int32) (S14 : Sg) : Option (Int64 × Sg) :=
  if (S14.1 27 0) ≤ v13 then (
  k64 S14
  ) else (
  cl (f_X4_wholeNumber ks v8 v13 S14) fun r15 S17 =>
  gd (inb ((v8 * (6 : Int32)) + v13) 36) <|
  bv (sl S17 28 (ix ((v8 * (6 : Int32)) + v13)) r15) fun S19 =>
  bv (v13 + 1) fun x20 =>
  self28 x20 S19
  )
def X4_made_L15 (ks : Nat) (k70 : Sg → Option (Int64 × Sg)) (self15 : Int32 → Sg → Option (Int64 × Sg)) (v8 : Int32) (S9 : Sg) : Option (Int64 × Sg) :=
  if (S9.1 27 0) ≤ v8 then (
  k70 S9
  ) else (
  bv (v8 + (1 : Int32)) fun x10 =>
  wp2 (X4_made_L28 ks v8 (fun (S11 : Sg) =>
  bv (v8 + 1) fun x12 =>
  self15 x12 S11
  )) FU x10 S9
  )
def f_X4_made (ks : Nat) (S : Sg) : Option (Int64 × Sg) :=
  bv (si S 27 0 (S.1 13 1)) fun S1 =>
  bv (si S1 27 1 (0 : Int32)) fun S2 =>
  wp2 (X4_made_L15 ks (fun (S3 : Sg) =>
  cl (f_X4_ofPlaces (((1 : Int32) <<< ((S3.1 27 0) &&& 31)) - (1 : Int32)) (0 : Int32) S3) fun r4 S6 =>
  if (S6.1 27 1) = 0 then (
  some (r4, S6)
  ) else (
  some ((-5 : Int64), S6)
  )
  )) FU (0 : Int32) S2
def f_X9_root (a1 : Int32) (S : Sg) : Option (Int64 × Sg) :=
  cl1 (f_X9_isSheet a1) fun r1 =>
  if r1 = 0 then (
  some ((-2 : Int64), S)
  ) else (
  gd (inb a1 4) <|
  cl1 (f_X6_isMissing (32 + 2 * ix a1) S) fun r5 =>
  if r5 = 0 then (
  if (irm (S.1 1 1) (2 : Int32)) = 0 then (
  cl1 (f_X5_fill S) fun S8 =>
  gd (inb a1 4) <|
  cl (f_X4_made (32 + 2 * ix a1) S8) fun r11 S13 =>
  some (r11, S13)
  ) else (
  some ((-3 : Int64), S)
  )
  ) else (
  some ((-11 : Int64), S)
  )
  )
def X9_drawTimes_L4  (self4 : Int32 → Int32 → Sg → Option (Int32 × Sg)) (v1 : Int32) (v2 : Int32) (S3 : Sg) : Option (Int32 × Sg) :=
  if (S3.1 1 2) ≤ v2 then (
  some (v1, S3)
  ) else (
  bv ((v1 * (1103515245 : Int32)) + (12345 : Int32)) fun x4 =>
  gd (nz (S3.1 1 0)) <|
  gd (inb v2 10) <|
  bv (si S3 50 (ix v2) (irm (ush x4 (8 : Int32)) (S3.1 1 0))) fun S7 =>
  bv (v2 + 1) fun x8 =>
  self4 x4 x8 S7
  )
def f_X9_drawTimes (a1 : Int32) (S : Sg) : Option (Int32 × Sg) :=
  wp3 (X9_drawTimes_L4 ) FU a1 (0 : Int32) S
def X9_claim_L33 (a2 : Int32) (self33 : Int32 → Int32 → Int32 → Sg → Option (Int32 × Sg)) (v3 : Int32) (v4 : Int32) (v5 : Int32) (S6 : Sg) : Option (Int32 × Sg) :=
  if a2 ≤ v5 then (
  some (v4, S6)
  ) else (
  cl (f_X9_drawTimes v3 S6) fun r7 S9 =>
  cl (f_X7_halfRank S9) fun r10 S12 =>
  bv (if v4 < r10 then r10 else v4) fun x13 =>
  bv (v5 + 1) fun x14 =>
  self33 r7 x13 x14 S12
  )
def f_X9_claim (a1 : Int32) (a2 : Int32) (S : Sg) : Option (Int32 × Sg) :=
  if a2 < (1 : Int32) then (
  some ((-2 : Int32), S)
  ) else (
  if a2 ≤ (20 : Int32) then (
  cl1 (f_X5_fill S) fun S2 =>
  wp4 (X9_claim_L33 a2) FU a1 (0 : Int32) (0 : Int32) S2
  ) else (
  some ((-2 : Int32), S)
  )
  )
def X9_sure_L35 (a2 : Int32) (r3 : Int32) (self35 : Int32 → Int32 → Int32 → Sg → Option (Int32 × Sg)) (v5 : Int32) (v6 : Int32) (v7 : Int32) (S8 : Sg) : Option (Int32 × Sg) :=
  if a2 ≤ v7 then (
  some (v6, S8)
  ) else (
  cl (f_X9_drawTimes v5 S8) fun r9 S11 =>
  cl (f_X7_halfRank S11) fun r12 S14 =>
  jn (fun (v15 : Int32) =>
  bv (v7 + 1) fun x16 =>
  self35 r9 v15 x16 S14
  ) fun j71 =>
  if r12 = r3 then (
  bv (v6 + 1) fun x17 =>
  j71 x17
  ) else (
  j71 v6
  )
  )
def f_X9_sure (a1 : Int32) (a2 : Int32) (S : Sg) : Option (Int32 × Sg) :=
  if a2 < (1 : Int32) then (
  some ((-2 : Int32), S)
  ) else (
  if a2 ≤ (20 : Int32) then (
  cl1 (f_X9_fillStanding S) fun S2 =>
  cl1 (f_X8_greatest S2) fun r3 =>
  wp4 (X9_sure_L35 a2 r3) FU a1 (0 : Int32) (0 : Int32) S2
  ) else (
  some ((-2 : Int32), S)
  )
  )
def X9_fillClasses_L24 (ks : Nat) (v1 : Int32) (k65 : Sg → Option (Sg)) (self24 : Int32 → Sg → Option (Sg)) (v8 : Int32) (S9 : Sg) : Option (Sg) :=
  if v8 < 0 then (
  k65 S9
  ) else (
  cl1 (f_X6_has ks v1 S9) fun r10 =>
  if r10 = 0 then (
  k65 S9
  ) else (
  gd (inb v8 30) <|
  gd (inb v1 30) <|
  jn (fun (S14 : Sg) =>
  bv (v8 + (-1)) fun x15 =>
  self24 x15 S14
  ) fun j59 =>
  if (lg_cmp (S9.2 (ks + 1) (ix v8)) (S9.2 (ks + 1) (ix v1))) = 0 then (
  gd (inb v1 10) <|
  bv (si S9 51 (ix v1) v8) fun S17 =>
  j59 S17
  ) else (
  j59 S9
  )
  )
  )
def X9_fillClasses_L2 (ks : Nat) (self2 : Int32 → Sg → Option (Sg)) (v1 : Int32) (S2 : Sg) : Option (Sg) :=
  if (S2.1 1 2) ≤ v1 then (
  some S2
  ) else (
  gd (inb v1 10) <|
  bv (si S2 51 (ix v1) v1) fun S4 =>
  bv (v1 - (1 : Int32)) fun x5 =>
  wp2 (X9_fillClasses_L24 ks v1 (fun (S6 : Sg) =>
  bv (v1 + 1) fun x7 =>
  self2 x7 S6
  )) FU x5 S4
  )
def f_X9_fillClasses (ks : Nat) (S : Sg) : Option (Sg) :=
  wp2 (X9_fillClasses_L2 ks) FU (0 : Int32) S
def X5_coverBy_L24 (v4 : Int32) (S5 : Sg) (k57 : Int32 → Option (Int32 × Sg)) (self24 : Int32 → Int32 → Option (Int32 × Sg)) (v12 : Int32) (v13 : Int32) : Option (Int32 × Sg) :=
  if (S5.1 13 2) ≤ v13 then (
  k57 v12
  ) else (
  gd (inb v13 10) <|
  jn (fun (v15 : Int32) =>
  bv (v13 + 1) fun x16 =>
  self24 v15 x16
  ) fun j51 =>
  if (S5.1 51 (ix v13)) = v4 then (
  bv (v12 ||| ((1 : Int32) <<< (v13 &&& 31))) fun x17 =>
  j51 x17
  ) else (
  j51 v12
  )
  )
def X5_coverBy_L8 (a1 : Int32) (self8 : Int32 → Int32 → Sg → Option (Int32 × Sg)) (v3 : Int32) (v4 : Int32) (S5 : Sg) : Option (Int32 × Sg) :=
  if (S5.1 13 2) ≤ v4 then (
  some (v3, S5)
  ) else (
  wp2 (X5_coverBy_L24 v4 S5 (fun (v6 : Int32) =>
  cl (f_X5_rankOf v6 a1 S5) fun r7 S9 =>
  bv (v3 + (r7 / (2 : Int32))) fun x10 =>
  bv (v4 + 1) fun x11 =>
  self8 x10 x11 S9
  )) FU (0 : Int32) v4
  )
def f_X5_coverBy (a1 : Int32) (S : Sg) : Option (Int32 × Sg) :=
  cl1 (f_J6_bitCount_0f7a4 a1) fun r1 =>
  wp3 (X5_coverBy_L8 a1) FU r1 (0 : Int32) S
def f_X9_cover (a1 : Int32) (a2 : Int32) (S : Sg) : Option (Int32 × Sg) :=
  cl1 (f_X9_isSheet a1) fun r1 =>
  if r1 = 0 then (
  some ((-2 : Int32), S)
  ) else (
  if a2 < 0 then (
  some ((-2 : Int32), S)
  ) else (
  if a2 < ((1 : Int32) <<< ((S.1 1 1) &&& 31)) then (
  gd (inb a1 4) <|
  cl1 (f_X6_isMissing (32 + 2 * ix a1) S) fun r5 =>
  if r5 = 0 then (
  cl1 (f_X5_fill S) fun S8 =>
  gd (inb a1 4) <|
  cl1 (f_X9_fillClasses (32 + 2 * ix a1) S8) fun S12 =>
  cl (f_X5_coverBy a2 S12) fun r13 S15 =>
  some (r13, S15)
  ) else (
  some ((-11 : Int32), S)
  )
  ) else (
  some ((-2 : Int32), S)
  )
  )
  )
def X9_cheap_L81  (k140 : Int32 → Int32 → Sg → Option (Int32 × Sg)) (self81 : Int32 → Int32 → Int32 → Sg → Option (Int32 × Sg)) (v15 : Int32) (v16 : Int32) (v17 : Int32) (S18 : Sg) : Option (Int32 × Sg) :=
  if ((1 : Int32) <<< ((S18.1 1 1) &&& 31)) ≤ v17 then (
  k140 v15 v16 S18
  ) else (
  cl1 (f_J6_bitCount_0f7a4 v17) fun r19 =>
  jn (fun (v21 : Int32) (v22 : Int32) (S23 : Sg) =>
  bv (v17 + 1) fun x24 =>
  self81 v21 v22 x24 S23
  ) fun j134 =>
  if v16 ≤ r19 then (
  j134 v15 v16 S18
  ) else (
  cl (f_X5_coverBy v17 S18) fun r25 S27 =>
  if v16 ≤ r25 then (
  j134 v15 v16 S27
  ) else (
  j134 v17 r25 S27
  )
  )
  )
def X9_cheap_L30 (a1 : Int32) (k62 : Sg → Option (Int32 × Sg)) (self30 : Int32 → Sg → Option (Int32 × Sg)) (v31 : Int32) (S32 : Sg) : Option (Int32 × Sg) :=
  if (S32.1 1 2) ≤ v31 then (
  k62 S32
  ) else (
  jn (fun (x33 : Int32) =>
  gd (inb v31 10) <|
  bv (si S32 51 (ix v31) x33) fun S35 =>
  bv (v31 + 1) fun x36 =>
  self30 x36 S35
  ) fun j55 =>
  if a1 = 0 then (
  j55 (0 : Int32)
  ) else (
  j55 v31
  )
  )
def f_X9_cheap (a1 : Int32) (a2 : Int32) (S : Sg) : Option (Int32 × Sg) :=
  cl1 (f_X9_isBit a1) fun r1 =>
  if r1 = 0 then (
  some ((-2 : Int32), S)
  ) else (
  cl1 (f_X9_isBit a2) fun r3 =>
  if r3 = 0 then (
  some ((-2 : Int32), S)
  ) else (
  cl1 (f_X5_fill S) fun S6 =>
  wp2 (X9_cheap_L30 a1 (fun (S7 : Sg) =>
  cl (f_X5_coverBy (0 : Int32) S7) fun r8 S10 =>
  wp4 (X9_cheap_L81  (fun (v11 : Int32) (v12 : Int32) (S13 : Sg) =>
  if a2 = 0 then (
  some (v12, S13)
  ) else (
  some (v11, S13)
  )
  )) FU (0 : Int32) r8 (1 : Int32) S10
  )) FU (0 : Int32) S6
  )
  )
def X3_codeOf_L8 (a2 : Int32) (S : Sg) (self8 : Int32 → Int64 → Int32 → Option (Int64)) (v1 : Int32) (v2 : Int64) (v3 : Int32) : Option (Int64) :=
  if (S.1 13 1) ≤ v3 then (
  some v2
  ) else (
  gd (inb (a2 + v3) 120) <|
  bv (S.1 14 (ix (a2 + v3))) fun x5 =>
  jn (fun (v6 : Int32) =>
  gd (nz (S.1 13 0)) <|
  bv ((v2 * (S.1 13 0).toInt64) + (irm (x5 * v6) (S.1 13 0)).toInt64) fun x8 =>
  bv (v3 + 1) fun x9 =>
  self8 v6 x8 x9
  ) fun j48 =>
  if v1 = 0 then (
  if x5 = 0 then (
  j48 v1
  ) else (
  cl1 (f_X9_quotient (1 : Int32) x5 (S.1 13 0)) fun r10 =>
  j48 r10
  )
  ) else (
  j48 v1
  )
  )
def f_X3_codeOf (a2 : Int32) (S : Sg) : Option (Int64) :=
  wp3 (X3_codeOf_L8 a2 S) FU (0 : Int32) (0 : Int64) (0 : Int32)
def X3_raysBelow_L2 (a1 : Int64) (S : Sg) (self2 : Int32 → Option (Int32)) (v1 : Int32) : Option (Int32) :=
  if (S.1 29 0) ≤ v1 then (
  some v1
  ) else (
  gd (inb v1 20) <|
  if 0 ≤ (lg_cmp (S.2 30 (ix v1)) a1) then (
  some v1
  ) else (
  bv (v1 + 1) fun x3 =>
  self2 x3
  )
  )
def f_X3_raysBelow (a1 : Int64) (S : Sg) : Option (Int32) :=
  wp1 (X3_raysBelow_L2 a1 S) FU (0 : Int32)
def X3_insert_L62 (r1 : Int32) (k90 : Sg → Option (Sg)) (self62 : Int32 → Sg → Option (Sg)) (v9 : Int32) (S10 : Sg) : Option (Sg) :=
  if v9 ≤ r1 then (
  k90 S10
  ) else (
  gd (inb (v9 - (1 : Int32)) 20) <|
  gd (inb v9 20) <|
  bv (sl S10 30 (ix v9) (S10.2 30 (ix (v9 - (1 : Int32))))) fun S13 =>
  bv (v9 + (-1)) fun x14 =>
  self62 x14 S13
  )
def f_X3_insert (a1 : Int64) (S : Sg) : Option (Sg) :=
  cl1 (f_X3_raysBelow a1 S) fun r1 =>
  jn (fun (x3 : Int32) =>
  if (lg_cmp a1 (0 : Int64)) = 0 then (
  some S
  ) else (
  if x3 = 0 then (
  if (S.1 29 0) < (20 : Int32) then (
  bv (S.1 29 0) fun x4 =>
  wp2 (X3_insert_L62 r1 (fun (S5 : Sg) =>
  gd (inb r1 20) <|
  bv (sl S5 30 (ix r1) a1) fun S7 =>
  bv (si S7 29 0 ((S7.1 29 0) + (1 : Int32))) fun S8 =>
  some S8
  )) FU x4 S
  ) else (
  some S
  )
  ) else (
  some S
  )
  )
  ) fun j30 =>
  jn (
  j30 (0 : Int32)
  ) fun j29 =>
  if (S.1 29 0) ≤ r1 then (
  j29 
  ) else (
  gd (inb r1 20) <|
  if (lg_cmp (S.2 30 (ix r1)) a1) = 0 then (
  j30 (1 : Int32)
  ) else (
  j29 
  )
  )
def X3_fill_L7  (self7 : Int32 → Sg → Option (Sg)) (v2 : Int32) (S3 : Sg) : Option (Sg) :=
  if ((2 : Int32) * (S3.1 13 2)) ≤ v2 then (
  some S3
  ) else (
  cl1 (f_X3_codeOf (v2 * (6 : Int32)) S3) fun r4 =>
  cl1 (f_X3_insert r4 S3) fun S7 =>
  bv (v2 + 1) fun x8 =>
  self7 x8 S7
  )
def f_X3_fill  (S : Sg) : Option (Sg) :=
  bv (si S 29 0 (0 : Int32)) fun S1 =>
  wp2 (X3_fill_L7 ) FU (0 : Int32) S1
def f_X9_fillRays  (S : Sg) : Option (Sg) :=
  cl1 (f_X5_fill S) fun S2 =>
  cl1 (f_X3_fill S2) fun S4 =>
  some S4
def f_X9_rays  (S : Sg) : Option (Int32 × Sg) :=
  cl1 (f_X9_fillRays S) fun S2 =>
  some ((S2.1 29 0), S2)
def f_X3_has (a1 : Int32) (S : Sg) : Option (Int32) :=
  if a1 < 0 then (
  some (0 : Int32)
  ) else (
  if (S.1 29 0) ≤ a1 then (
  some (0 : Int32)
  ) else (
  some (1 : Int32)
  )
  )
def f_X9_ray (a1 : Int32) (S : Sg) : Option (Int64 × Sg) :=
  cl1 (f_X9_fillRays S) fun S2 =>
  cl1 (f_X3_has a1 S2) fun r3 =>
  if r3 = 0 then (
  some ((-12 : Int64), S2)
  ) else (
  gd (inb a1 20) <|
  some ((S2.2 30 (ix a1)), S2)
  )
def f_X9_rayOf (a1 : Int32) (a2 : Int32) (S : Sg) : Option (Int32 × Sg) :=
  cl1 (f_X2_has a1 S) fun r1 =>
  if r1 = 0 then (
  some ((-2 : Int32), S)
  ) else (
  cl1 (f_X9_isBit a2) fun r3 =>
  if r3 = 0 then (
  some ((-2 : Int32), S)
  ) else (
  cl1 (f_X9_fillRays S) fun S6 =>
  cl1 (f_X3_codeOf ((a1 * (12 : Int32)) + (a2 * (6 : Int32))) S6) fun r7 =>
  if (lg_cmp r7 (0 : Int64)) = 0 then (
  some ((-1 : Int32), S6)
  ) else (
  cl1 (f_X3_raysBelow r7 S6) fun r9 =>
  some (r9, S6)
  )
  )
  )
def f_X9_isPoint (a0 : Int32) : Option (Int32) :=
  if a0 < 0 then (
  some (0 : Int32)
  ) else (
  if (8 : Int32) ≤ a0 then (
  some (0 : Int32)
  ) else (
  some (1 : Int32)
  )
  )
def f_X2_linesAt (a1 : Int32) (S : Sg) : Option (Int32) :=
  gd (inb a1 8) <|
  cl1 (f_J6_bitCount_0f7a4 (S.1 6 (ix a1))) fun r2 =>
  some r2
def f_X9_link (a1 : Int32) (a2 : Int32) (a3 : Int32) (S : Sg) : Option (Int32 × Sg) :=
  cl1 (f_X9_isPoint a1) fun r1 =>
  if r1 = 0 then (
  some ((-2 : Int32), S)
  ) else (
  cl1 (f_X9_isPoint a2) fun r3 =>
  if r3 = 0 then (
  some ((-2 : Int32), S)
  ) else (
  if a1 = a2 then (
  some ((-2 : Int32), S)
  ) else (
  cl1 (f_X9_isBit a3) fun r5 =>
  if r5 = 0 then (
  some ((-2 : Int32), S)
  ) else (
  gd (inb a1 8) <|
  bv (((S.1 6 (ix a1)) >>> (a2 &&& 31)) &&& (1 : Int32)) fun x8 =>
  jn (
  if a3 = x8 then (
  some (x8, S)
  ) else (
  gd (inb a1 8) <|
  gd (inb a1 8) <|
  bv (si S 6 (ix a1) ((S.1 6 (ix a1)) ^^^ ((1 : Int32) <<< (a2 &&& 31)))) fun S11 =>
  gd (inb a2 8) <|
  gd (inb a2 8) <|
  bv (si S11 6 (ix a2) ((S11.1 6 (ix a2)) ^^^ ((1 : Int32) <<< (a1 &&& 31)))) fun S14 =>
  some (x8, S14)
  )
  ) fun j81 =>
  if a3 = (1 : Int32) then (
  if x8 = 0 then (
  cl1 (f_X2_linesAt a1 S) fun r16 =>
  if (3 : Int32) ≤ r16 then (
  some ((-3 : Int32), S)
  ) else (
  cl1 (f_X2_linesAt a2 S) fun r18 =>
  if r18 < (3 : Int32) then (
  j81 
  ) else (
  some ((-3 : Int32), S)
  )
  )
  ) else (
  j81 
  )
  ) else (
  j81 
  )
  )
  )
  )
  )
def X9_hasRing_L13 (S : Sg) (k48 : Int32 → Option (Int32)) (self13 : Int32 → Int32 → Option (Int32)) (v7 : Int32) (v8 : Int32) : Option (Int32) :=
  if (8 : Int32) ≤ v8 then (
  k48 v7
  ) else (
  gd (inb v8 8) <|
  cl1 (f_J6_bitCount_0f7a4 ((S.1 6 (ix v8)) &&& v7)) fun r10 =>
  jn (fun (v12 : Int32) =>
  bv (v8 + 1) fun x13 =>
  self13 v12 x13
  ) fun j42 =>
  if (1 : Int32) < r10 then (
  j42 v7
  ) else (
  bv (v7 &&& (((1 : Int32) <<< (v8 &&& 31)) ^^^ (-1 : Int32))) fun x14 =>
  j42 x14
  )
  )
def X9_hasRing_L4 (S : Sg) (k54 : Int32 → Option (Int32)) (self4 : Int32 → Int32 → Option (Int32)) (v3 : Int32) (v4 : Int32) : Option (Int32) :=
  if (8 : Int32) ≤ v4 then (
  k54 v3
  ) else (
  wp2 (X9_hasRing_L13 S (fun (v5 : Int32) =>
  bv (v4 + 1) fun x6 =>
  self4 v5 x6
  )) FU v3 (0 : Int32)
  )
def f_X9_hasRing (a1 : Int32) (S : Sg) : Option (Int32) :=
  wp2 (X9_hasRing_L4 S (fun (v1 : Int32) =>
  if v1 = 0 then (
  some (0 : Int32)
  ) else (
  some (1 : Int32)
  )
  )) FU a1 (0 : Int32)
def f_X9_isBroken (a1 : Int32) (S : Sg) : Option (Int32) :=
  cl1 (f_X9_hasRing ((a1 ^^^ (-1 : Int32)) &&& (255 : Int32)) S) fun r1 =>
  if r1 = 0 then (
  some (1 : Int32)
  ) else (
  some (0 : Int32)
  )
def f_X9_breaks (a1 : Int32) (S : Sg) : Option (Int32) :=
  if a1 < 0 then (
  some (-2 : Int32)
  ) else (
  if a1 < (256 : Int32) then (
  cl1 (f_X9_isBroken a1 S) fun r1 =>
  if r1 = 0 then (
  some (0 : Int32)
  ) else (
  some (1 : Int32)
  )
  ) else (
  some (-2 : Int32)
  )
  )
def X9_feedback_L23 (S : Sg) (k77 : Int32 → Int32 → Int32 → Option (Int32)) (self23 : Int32 → Int32 → Int32 → Int32 → Option (Int32)) (v6 : Int32) (v7 : Int32) (v8 : Int32) (v9 : Int32) : Option (Int32) :=
  if (256 : Int32) ≤ v9 then (
  k77 v6 v7 v8
  ) else (
  cl1 (f_J6_bitCount_0f7a4 v9) fun r10 =>
  jn (fun (v12 : Int32) (v13 : Int32) (v14 : Int32) =>
  bv (v9 + 1) fun x15 =>
  self23 v12 v13 v14 x15
  ) fun j71 =>
  if v6 < r10 then (
  j71 v6 v7 v8
  ) else (
  cl1 (f_X9_isBroken v9 S) fun r16 =>
  if r16 = 0 then (
  j71 v6 v7 v8
  ) else (
  jn (fun (v18 : Int32) (v19 : Int32) (v20 : Int32) =>
  bv (v20 + 1) fun x21 =>
  j71 v18 v19 x21
  ) fun j68 =>
  if v6 ≤ r10 then (
  j68 v6 v7 v8
  ) else (
  j68 r10 v9 (0 : Int32)
  )
  )
  )
  )
def f_X9_feedback (a1 : Int32) (S : Sg) : Option (Int32) :=
  if a1 < 0 then (
  some (-2 : Int32)
  ) else (
  if a1 ≤ (2 : Int32) then (
  wp4 (X9_feedback_L23 S (fun (v1 : Int32) (v2 : Int32) (v3 : Int32) =>
  if a1 = 0 then (
  some v1
  ) else (
  if a1 = (1 : Int32) then (
  some v2
  ) else (
  some v3
  )
  )
  )) FU (9 : Int32) (0 : Int32) (0 : Int32) (0 : Int32)
  ) else (
  some (-2 : Int32)
  )
  )
def f_X9_isHand (a0 : Int32) : Option (Int32) :=
  if a0 < 0 then (
  some (0 : Int32)
  ) else (
  if (4 : Int32) ≤ a0 then (
  some (0 : Int32)
  ) else (
  some (1 : Int32)
  )
  )
def f_X1_takePair (k : Nat) (a1 : Int32) (a2 : Int32) (S : Sg) : Option (Sg) :=
  bv (si S k 0 (1 : Int32)) fun S1 =>
  bv (si S1 k 1 a1) fun S2 =>
  bv (si S2 k 2 a2) fun S3 =>
  some S3
def X1_takeRay_L20 (k : Nat) (a3 : Int32) (self20 : Int64 → Int32 → Sg → Option (Sg)) (v4 : Int64) (v5 : Int32) (S6 : Sg) : Option (Sg) :=
  if v5 < 0 then (
  some S6
  ) else (
  gd (nzl a3.toInt64) <|
  gd (inb v5 6) <|
  bv (si S6 (k + 1) (ix v5) ((lrm v4 a3.toInt64).toInt32)) fun S9 =>
  gd (nzl a3.toInt64) <|
  bv (v4 / a3.toInt64) fun x11 =>
  bv (v5 + (-1)) fun x12 =>
  self20 x11 x12 S9
  )
def f_X1_takeRay (k : Nat) (a1 : Int64) (a3 : Int32) (a4 : Int32) (S : Sg) : Option (Sg) :=
  bv (si S k 0 (2 : Int32)) fun S1 =>
  bv (si S1 k 3 a4) fun S2 =>
  bv (a4 - (1 : Int32)) fun x3 =>
  wp3 (X1_takeRay_L20 k a3) FU a1 x3 S2
def f_X9_hold (a1 : Int32) (a2 : Int32) (a3 : Int32) (S : Sg) : Option (Int32 × Sg) :=
  cl1 (f_X9_isHand a1) fun r1 =>
  if r1 = 0 then (
  some ((-2 : Int32), S)
  ) else (
  gd (inb a1 4) <|
  bv (S.1 (41 + 2 * ix a1) 0) fun x5 =>
  if a2 = 0 then (
  bv (si S (41 + 2 * ix a1) 0 (0 : Int32)) fun S7 =>
  some (x5, S7)
  ) else 
  if a2 = 1 then (
  cl1 (f_X2_has a3 S) fun r9 =>
  if r9 = 0 then (
  some ((-2 : Int32), S)
  ) else (
  gd (inb a3 10) <|
  gd (inb a3 10) <|
  cl1 (f_X1_takePair (41 + 2 * ix a1) (S.1 2 (ix a3)) (S.1 3 (ix a3)) S) fun S14 =>
  some (x5, S14)
  )
  ) else 
  if a2 = 2 then (
  cl1 (f_X9_fillRays S) fun S18 =>
  cl1 (f_X3_has a3 S18) fun r19 =>
  if r19 = 0 then (
  some ((-2 : Int32), S18)
  ) else (
  gd (inb a3 20) <|
  cl1 (f_X1_takeRay (41 + 2 * ix a1) (S18.2 30 (ix a3)) (S18.1 1 0) (S18.1 1 1) S18) fun S23 =>
  some (x5, S23)
  )
  ) else 
  some ((-2 : Int32), S)
  )
def X9_isUnder_L4 (a1 : Int32) (self4 : Int32 → Int32 → Option (Int32)) (v1 : Int32) (v2 : Int32) : Option (Int32) :=
  if (6 : Int32) ≤ v2 then (
  some (0 : Int32)
  ) else (
  cl1 (f_X9_isKind v1) fun r3 =>
  if r3 = 0 then (
  some (0 : Int32)
  ) else (
  if v1 = a1 then (
  some (1 : Int32)
  ) else (
  gd (inb v1 6) <|
  bv (aboveAt (ix v1)) fun x6 =>
  bv (v2 + 1) fun x7 =>
  self4 x6 x7
  )
  )
  )
def f_X9_isUnder (a0 : Int32) (a1 : Int32) : Option (Int32) :=
  wp2 (X9_isUnder_L4 a1) FU a0 (0 : Int32)
def f_X9_asPair (a1 : Int32) (a2 : Int32) (S : Sg) : Option (Int32) :=
  cl1 (f_X9_isHand a1) fun r1 =>
  if r1 = 0 then (
  some (-2 : Int32)
  ) else (
  cl1 (f_X9_isKind a2) fun r3 =>
  if r3 = 0 then (
  some (-2 : Int32)
  ) else (
  gd (inb a1 4) <|
  if (S.1 (41 + 2 * ix a1) 0) = 0 then (
  some (-11 : Int32)
  ) else (
  if (S.1 (41 + 2 * ix a1) 0) = (1 : Int32) then (
  cl1 (f_X9_isUnder (S.1 (41 + 2 * ix a1) 1) a2) fun r7 =>
  if r7 = 0 then (
  some (-13 : Int32)
  ) else (
  some (S.1 (41 + 2 * ix a1) 2)
  )
  ) else (
  some (-13 : Int32)
  )
  )
  )
  )
def f_X9_asRay (a1 : Int32) (a2 : Int32) (S : Sg) : Option (Int32) :=
  cl1 (f_X9_isHand a1) fun r1 =>
  if r1 = 0 then (
  some (-2 : Int32)
  ) else (
  gd (inb a1 4) <|
  if (S.1 (41 + 2 * ix a1) 0) = 0 then (
  some (-11 : Int32)
  ) else (
  if (S.1 (41 + 2 * ix a1) 0) = (2 : Int32) then (
  if a2 < 0 then (
  some (-12 : Int32)
  ) else (
  if a2 < (S.1 (41 + 2 * ix a1) 3) then (
  gd (inb a2 6) <|
  some (S.1 ((41 + 2 * ix a1) + 1) (ix a2))
  ) else (
  some (-12 : Int32)
  )
  )
  ) else (
  some (-13 : Int32)
  )
  )
  )
def f_J6_compare_7cf53 (a0 : Int32) (a1 : Int32) : Option (Int32) :=
  if a1 ≤ a0 then (
  if a0 = a1 then (
  some (0 : Int32)
  ) else (
  some (1 : Int32)
  )
  ) else (
  some (-1 : Int32)
  )
def X1_orderTo_L14 (k : Nat) (k2 : Nat) (S : Sg) (x1 : Int32) (k61 : Option (Int32)) (self14 : Int32 → Option (Int32)) (v4 : Int32) : Option (Int32) :=
  if x1 ≤ v4 then (
  k61 
  ) else (
  gd (inb v4 6) <|
  gd (inb v4 6) <|
  if (S.1 (k + 1) (ix v4)) = (S.1 (k2 + 1) (ix v4)) then (
  bv (v4 + 1) fun x7 =>
  self14 x7
  ) else (
  gd (inb v4 6) <|
  gd (inb v4 6) <|
  if (S.1 (k2 + 1) (ix v4)) ≤ (S.1 (k + 1) (ix v4)) then (
  some (1 : Int32)
  ) else (
  some (-1 : Int32)
  )
  )
  )
def f_X1_orderTo (k : Nat) (k2 : Nat) (S : Sg) : Option (Int32) :=
  bv (if (S.1 k2 3) < (S.1 k 3) then (S.1 k2 3) else (S.1 k 3)) fun x1 =>
  wp1 (X1_orderTo_L14 k k2 S x1 (
  cl1 (f_J6_compare_7cf53 (S.1 k 3) (S.1 k2 3)) fun r2 =>
  some r2
  )) FU (0 : Int32)
def f_X9_compare (a1 : Int32) (a2 : Int32) (S : Sg) : Option (Int32) :=
  cl1 (f_X9_isHand a1) fun r1 =>
  if r1 = 0 then (
  some (-2 : Int32)
  ) else (
  cl1 (f_X9_isHand a2) fun r3 =>
  if r3 = 0 then (
  some (-2 : Int32)
  ) else (
  gd (inb a1 4) <|
  gd (inb a2 4) <|
  if (S.1 (41 + 2 * ix a1) 0) = 0 then (
  some (-11 : Int32)
  ) else (
  if (S.1 (41 + 2 * ix a2) 0) = 0 then (
  some (-11 : Int32)
  ) else (
  if (S.1 (41 + 2 * ix a1) 0) = (2 : Int32) then (
  if (S.1 (41 + 2 * ix a2) 0) = (2 : Int32) then (
  cl1 (f_X1_orderTo (41 + 2 * ix a1) (41 + 2 * ix a2) S) fun r9 =>
  some r9
  ) else (
  some (-13 : Int32)
  )
  ) else (
  some (-13 : Int32)
  )
  )
  )
  )
  )
def X6_become_L12 (k : Nat) (self12 : Int32 → Sg → Option (Sg)) (v3 : Int32) (S4 : Sg) : Option (Sg) :=
  if (S4.1 k 1) ≤ v3 then (
  some S4
  ) else (
  gd (inb v3 30) <|
  bv (sl S4 (k + 1) (ix v3) (0 : Int64)) fun S6 =>
  bv (v3 + 1) fun x7 =>
  self12 x7 S6
  )
def f_X6_become (k : Nat) (a1 : Int32) (a2 : Int32) (S : Sg) : Option (Sg) :=
  bv (si S k 0 a1) fun S1 =>
  bv (si S1 k 1 a2) fun S2 =>
  wp2 (X6_become_L12 k) FU (0 : Int32) S2
def f_X9_sheet (a1 : Int32) (a2 : Int32) (a3 : Int32) (S : Sg) : Option (Int32 × Sg) :=
  cl1 (f_X9_isSheet a1) fun r1 =>
  if r1 = 0 then (
  some ((-2 : Int32), S)
  ) else (
  if a2 < (-1 : Int32) then (
  some ((-2 : Int32), S)
  ) else (
  if a2 ≤ (1 : Int32) then (
  jn (
  jn (
  gd (inb a1 4) <|
  jn (fun (x5 : Int32) =>
  cl1 (f_X6_become (32 + 2 * ix a1) a2 x5 S) fun S7 =>
  some ((1 : Int32), S7)
  ) fun j63 =>
  if a2 = (-1 : Int32) then (
  j63 (0 : Int32)
  ) else (
  j63 a3
  )
  ) fun j46 =>
  if a2 = (-1 : Int32) then (
  j46 
  ) else (
  if 0 ≤ a3 then (
  j46 
  ) else (
  some ((-14 : Int32), S)
  )
  )
  ) fun j34 =>
  if a2 = (-1 : Int32) then (
  j34 
  ) else (
  if a3 ≤ (30 : Int32) then (
  j34 
  ) else (
  some ((-2 : Int32), S)
  )
  )
  ) else (
  some ((-2 : Int32), S)
  )
  )
  )
def f_X9_cell (a1 : Int32) (a2 : Int32) (a3 : Int64) (S : Sg) : Option (Int32 × Sg) :=
  cl1 (f_X9_isSheet a1) fun r1 =>
  if r1 = 0 then (
  some ((-2 : Int32), S)
  ) else (
  gd (inb a1 4) <|
  cl1 (f_X6_isMissing (32 + 2 * ix a1) S) fun r5 =>
  if r5 = 0 then (
  cl1 (f_X6_has (32 + 2 * ix a1) a2 S) fun r7 =>
  if r7 = 0 then (
  some ((-12 : Int32), S)
  ) else (
  jn (
  gd (inb a2 30) <|
  bv (sl S ((32 + 2 * ix a1) + 1) (ix a2) a3) fun S10 =>
  some ((1 : Int32), S10)
  ) fun j59 =>
  if (S.1 (32 + 2 * ix a1) 0) = 0 then (
  cl1 (f_X9_isInt a3) fun r11 =>
  if r11 = 0 then (
  some ((-5 : Int32), S)
  ) else (
  j59 
  )
  ) else (
  j59 
  )
  )
  ) else (
  some ((-11 : Int32), S)
  )
  )
def f_X9_read (a1 : Int32) (a2 : Int32) (S : Sg) : Option (Int64) :=
  cl1 (f_X9_isSheet a1) fun r1 =>
  if r1 = 0 then (
  some (-2 : Int64)
  ) else (
  gd (inb a1 4) <|
  cl1 (f_X6_isMissing (32 + 2 * ix a1) S) fun r5 =>
  if r5 = 0 then (
  cl1 (f_X6_has (32 + 2 * ix a1) a2 S) fun r7 =>
  if r7 = 0 then (
  some (-12 : Int64)
  ) else (
  gd (inb a2 30) <|
  some (S.2 ((32 + 2 * ix a1) + 1) (ix a2))
  )
  ) else (
  some (-11 : Int64)
  )
  )
def X9_load_L62 (a1 : Int32) (a2 : Int32) (a3 : Int32) (self62 : Int32 → Sg → Option (Int32 × Sg)) (v9 : Int32) (S10 : Sg) : Option (Int32 × Sg) :=
  if (12 : Int32) ≤ v9 then (
  some ((12 : Int32), S10)
  ) else (
  gd (inb (a3 + v9) 30) <|
  gd (inb ((a2 * (12 : Int32)) + v9) 120) <|
  bv (si S10 5 (ix ((a2 * (12 : Int32)) + v9)) ((lrm (S10.2 ((32 + 2 * ix a1) + 1) (ix (a3 + v9))) (100 : Int64)).toInt32)) fun S13 =>
  bv (v9 + 1) fun x14 =>
  self62 x14 S13
  )
def f_X9_load (a1 : Int32) (a2 : Int32) (a3 : Int32) (S : Sg) : Option (Int32 × Sg) :=
  cl1 (f_X9_isSheet a1) fun r1 =>
  if r1 = 0 then (
  some ((-2 : Int32), S)
  ) else (
  cl1 (f_X2_has a2 S) fun r3 =>
  if r3 = 0 then (
  some ((-2 : Int32), S)
  ) else (
  gd (inb a1 4) <|
  cl1 (f_X6_isMissing (32 + 2 * ix a1) S) fun r7 =>
  if r7 = 0 then (
  if a3 < 0 then (
  some ((-12 : Int32), S)
  ) else (
  if a3 ≤ ((S.1 (32 + 2 * ix a1) 1) - (12 : Int32)) then (
  wp2 (X9_load_L62 a1 a2 a3) FU (0 : Int32) S
  ) else (
  some ((-12 : Int32), S)
  )
  )
  ) else (
  some ((-11 : Int32), S)
  )
  )
  )
def f_X2_become (k : Nat) (k2 : Nat) (S : Sg) : Option (Sg) :=
  bv (si S k 0 (S.1 k2 0)) fun S1 =>
  bv (si S1 k 1 (S1.1 k2 1)) fun S2 =>
  bv (si S2 k 2 (S2.1 k2 2)) fun S3 =>
  bv (cpI S3 (k2 + 1) (k + 1) (ix (10 : Int32))) fun S4 =>
  bv (cpI S4 (k2 + 2) (k + 2) (ix (10 : Int32))) fun S5 =>
  bv (cpL S5 (k2 + 3) (k + 3) (ix (10 : Int32))) fun S6 =>
  bv (cpI S6 (k2 + 4) (k + 4) (ix (120 : Int32))) fun S7 =>
  bv (cpI S7 (k2 + 5) (k + 5) (ix (8 : Int32))) fun S8 =>
  some S8
def f_X9_image  (S : Sg) : Option (Int32 × Sg) :=
  cl1 (f_X2_become 7 1 S) fun S2 =>
  bv (si S2 0 2 (1 : Int32)) fun S3 =>
  some ((S3.1 1 2), S3)
def f_X9_back  (S : Sg) : Option (Int32 × Sg) :=
  if (S.1 0 2) = 0 then (
  some ((-3 : Int32), S)
  ) else (
  cl1 (f_X2_become 1 7 S) fun S2 =>
  some ((S2.1 1 2), S2)
  )
def X2_linesInAll_L4 (S : Sg) (k24 : Int32 → Option (Int32)) (self4 : Int32 → Int32 → Option (Int32)) (v2 : Int32) (v3 : Int32) : Option (Int32) :=
  if (8 : Int32) ≤ v3 then (
  k24 v2
  ) else (
  cl1 (f_X2_linesAt v3 S) fun r4 =>
  bv (v2 + r4) fun x6 =>
  bv (v3 + 1) fun x7 =>
  self4 x6 x7
  )
def f_X2_linesInAll  (S : Sg) : Option (Int32) :=
  wp2 (X2_linesInAll_L4 S (fun (v1 : Int32) =>
  some (v1 / (2 : Int32))
  )) FU (0 : Int32) (0 : Int32)
def X2_namesInAll_L4 (S : Sg) (self4 : Int32 → Int32 → Option (Int32)) (v1 : Int32) (v2 : Int32) : Option (Int32) :=
  if (S.1 1 2) ≤ v2 then (
  some v1
  ) else (
  gd (inb v2 10) <|
  jn (fun (v4 : Int32) =>
  bv (v2 + 1) fun x5 =>
  self4 v4 x5
  ) fun j26 =>
  if (lg_cmp (S.2 4 (ix v2)) (0 : Int64)) = 0 then (
  j26 v1
  ) else (
  bv (v1 + 1) fun x6 =>
  j26 x6
  )
  )
def f_X2_namesInAll  (S : Sg) : Option (Int32) :=
  wp2 (X2_namesInAll_L4 S) FU (0 : Int32) (0 : Int32)
def f_X9_count (a1 : Int32) (S : Sg) : Option (Int32) :=
  if a1 = 0 then (
  some (S.1 1 2)
  ) else 
  if a1 = 1 then (
  some (S.1 1 0)
  ) else 
  if a1 = 2 then (
  some (S.1 1 1)
  ) else 
  if a1 = 3 then (
  cl1 (f_X2_namesInAll S) fun r5 =>
  some r5
  ) else 
  if a1 = 4 then (
  cl1 (f_X2_linesInAll S) fun r8 =>
  some r8
  ) else 
  some (-2 : Int32)
def f_X10_in (a0 : Int64) (a2 : Int64) (a4 : Int64) : Option (Int32) :=
  if (lg_cmp a0 a2) < 0 then (
  some (0 : Int32)
  ) else (
  if 0 < (lg_cmp a0 a4) then (
  some (0 : Int32)
  ) else (
  some (1 : Int32)
  )
  )
def f_X10_has (a0 : Int32) (a1 : Int32) : Option (Int32) :=
  if ((a0 >>> (a1 &&& 31)) &&& (1 : Int32)) = (1 : Int32) then (
  some (1 : Int32)
  ) else (
  some (0 : Int32)
  )
def X10_many_L4  (self4 : Int32 → Int32 → Option (Int32)) (v1 : Int32) (v2 : Int32) : Option (Int32) :=
  if v2 = 0 then (
  some v1
  ) else (
  bv (v1 + 1) fun x3 =>
  bv (v2 &&& (v2 - (1 : Int32))) fun x4 =>
  self4 x3 x4
  )
def f_X10_many (a0 : Int32) : Option (Int32) :=
  wp2 (X10_many_L4 ) FU (0 : Int32) a0
def f_X10_isPair (a1 : Int32) (S : Sg) : Option (Int32) :=
  cl1 (f_X10_in a1.toInt64 (0 : Int64) (((S.1 0 2) - (1 : Int32)).toInt64)) fun r1 =>
  gd (isB r1) <|
  some r1
def f_X10_isSet (a1 : Int32) (S : Sg) : Option (Int32) :=
  cl1 (f_X10_in a1.toInt64 (0 : Int64) ((((1 : Int32) <<< ((S.1 0 2) &&& 31)) - (1 : Int32)).toInt64)) fun r1 =>
  gd (isB r1) <|
  some r1
def f_X10_rest (a1 : Int64) (S : Sg) : Option (Int32) :=
  gd (nzl ((S.1 0 0).toInt64)) <|
  bv ((lrm a1 ((S.1 0 0).toInt64)).toInt32) fun x2 =>
  if 0 ≤ x2 then (
  some x2
  ) else (
  some (x2 + (S.1 0 0))
  )
def X10_over_L2 (a1 : Int32) (a2 : Int32) (S : Sg) (self2 : Int32 → Option (Int32)) (v1 : Int32) : Option (Int32) :=
  cl1 (f_X10_rest (v1.toInt64 * a2.toInt64) S) fun r2 =>
  cl1 (f_X10_rest a1.toInt64 S) fun r4 =>
  if r2 = r4 then (
  some v1
  ) else (
  bv (v1 + 1) fun x6 =>
  self2 x6
  )
def f_X10_over (a1 : Int32) (a2 : Int32) (S : Sg) : Option (Int32) :=
  wp1 (X10_over_L2 a1 a2 S) FU (0 : Int32)
def X10_isPrime_L2 (a0 : Int32) (k21 : Option (Int32)) (self2 : Int32 → Option (Int32)) (v3 : Int32) : Option (Int32) :=
  if a0 ≤ v3 then (
  k21 
  ) else (
  gd (nz v3) <|
  if (irm a0 v3) = 0 then (
  some (0 : Int32)
  ) else (
  bv (v3 + 1) fun x5 =>
  self2 x5
  )
  )
def f_X10_isPrime (a0 : Int32) : Option (Int32) :=
  wp1 (X10_isPrime_L2 a0 (
  cl1 (f_X10_in a0.toInt64 (2 : Int64) (97 : Int64)) fun r1 =>
  gd (isB r1) <|
  some r1
  )) FU (2 : Int32)
def f_X10_field (a1 : Int32) (a2 : Int32) (S : Sg) : Option (Int32 × Sg) :=
  cl1 (f_X10_in a1.toInt64 (2 : Int64) (97 : Int64)) fun r1 =>
  if r1 = 0 then (
  some ((-2 : Int32), S)
  ) else (
  cl1 (f_X10_isPrime a1) fun r3 =>
  if r3 = 0 then (
  some ((-2 : Int32), S)
  ) else (
  cl1 (f_X10_in a2.toInt64 (1 : Int64) (6 : Int64)) fun r5 =>
  if r5 = 0 then (
  some ((-2 : Int32), S)
  ) else (
  bv (S.1 0 0) fun x7 =>
  bv (si S 0 0 a1) fun S8 =>
  bv (si S8 0 1 a2) fun S9 =>
  some (x7, S9)
  )
  )
  )
def f_X10_divided (a1 : Int32) (a2 : Int32) (S : Sg) : Option (Int32) :=
  cl1 (f_X10_rest a2.toInt64 S) fun r1 =>
  if r1 = 0 then (
  some (-2 : Int32)
  ) else (
  cl1 (f_X10_rest a1.toInt64 S) fun r3 =>
  cl1 (f_X10_rest a2.toInt64 S) fun r5 =>
  cl1 (f_X10_over r3 r5 S) fun r7 =>
  some r7
  )
def X10_pair_L71  (k98 : Sg → Option (Int32 × Sg)) (self71 : Int32 → Sg → Option (Int32 × Sg)) (v13 : Int32) (S14 : Sg) : Option (Int32 × Sg) :=
  if (12 : Int32) ≤ v13 then (
  k98 S14
  ) else (
  gd (inb (((12 : Int32) * (S14.1 0 2)) + v13) 120) <|
  bv (si S14 4 (ix (((12 : Int32) * (S14.1 0 2)) + v13)) (0 : Int32)) fun S16 =>
  bv (v13 + 1) fun x17 =>
  self71 x17 S16
  )
def f_X10_pair (a1 : Int32) (a2 : Int32) (S : Sg) : Option (Int32 × Sg) :=
  cl1 (f_X10_in a1.toInt64 (0 : Int64) (5 : Int64)) fun r1 =>
  if r1 = 0 then (
  some ((-2 : Int32), S)
  ) else (
  cl1 (f_X10_in a2.toInt64 (0 : Int64) (999 : Int64)) fun r3 =>
  if r3 = 0 then (
  some ((-2 : Int32), S)
  ) else (
  if (S.1 0 2) = (10 : Int32) then (
  some ((-4 : Int32), S)
  ) else (
  gd (inb (S.1 0 2) 10) <|
  bv (si S 1 (ix (S.1 0 2)) a1) fun S6 =>
  gd (inb (S6.1 0 2) 10) <|
  bv (si S6 2 (ix (S6.1 0 2)) a2) fun S8 =>
  gd (inb (S8.1 0 2) 10) <|
  bv (sl S8 3 (ix (S8.1 0 2)) (0 : Int64)) fun S10 =>
  wp2 (X10_pair_L71  (fun (S11 : Sg) =>
  bv (si S11 0 2 ((S11.1 0 2) + (1 : Int32))) fun S12 =>
  some (((S12.1 0 2) - (1 : Int32)), S12)
  )) FU (0 : Int32) S10
  )
  )
  )
def f_X10_entry (a1 : Int32) (a2 : Int32) (a3 : Int32) (a4 : Int32) (S : Sg) : Option (Int32 × Sg) :=
  cl1 (f_X10_isPair a1 S) fun r1 =>
  if r1 = 0 then (
  some ((-2 : Int32), S)
  ) else (
  cl1 (f_X10_in a2.toInt64 (0 : Int64) (1 : Int64)) fun r3 =>
  if r3 = 0 then (
  some ((-2 : Int32), S)
  ) else (
  cl1 (f_X10_in a3.toInt64 (0 : Int64) (5 : Int64)) fun r5 =>
  if r5 = 0 then (
  some ((-2 : Int32), S)
  ) else (
  cl1 (f_X10_in a4.toInt64 (-99 : Int64) (99 : Int64)) fun r7 =>
  if r7 = 0 then (
  some ((-2 : Int32), S)
  ) else (
  bv ((((12 : Int32) * a1) + ((6 : Int32) * a2)) + a3) fun x9 =>
  gd (inb x9 120) <|
  bv (S.1 4 (ix x9)) fun x11 =>
  gd (inb x9 120) <|
  bv (si S 4 (ix x9) a4) fun S13 =>
  some (x11, S13)
  )
  )
  )
  )
def f_X10_set (a1 : Int32) (a2 : Int32) (a3 : Int32) (S : Sg) : Option (Int32 × Sg) :=
  cl1 (f_X10_isPair a1 S) fun r1 =>
  if r1 = 0 then (
  some ((-2 : Int32), S)
  ) else (
  cl1 (f_X10_in a2.toInt64 (0 : Int64) (1 : Int64)) fun r3 =>
  if r3 = 0 then (
  some ((-2 : Int32), S)
  ) else (
  jn (fun (x5 : Int64) =>
  cl1 (f_X10_in a3.toInt64 (0 : Int64) x5) fun r6 =>
  if r6 = 0 then (
  some ((-2 : Int32), S)
  ) else (
  jn (fun (x8 : Int32) =>
  if a2 = 0 then (
  gd (inb a1 10) <|
  bv (si S 1 (ix a1) a3) fun S12 =>
  some (x8, S12)
  ) else (
  gd (inb a1 10) <|
  bv (si S 2 (ix a1) a3) fun S10 =>
  some (x8, S10)
  )
  ) fun j62 =>
  if a2 = 0 then (
  gd (inb a1 10) <|
  j62 (S.1 1 (ix a1))
  ) else (
  gd (inb a1 10) <|
  j62 (S.1 2 (ix a1))
  )
  )
  ) fun j34 =>
  if a2 = 0 then (
  j34 (5 : Int64)
  ) else (
  j34 (999 : Int64)
  )
  )
  )
def X10_ahead_L4 (a1 : Int32) (S : Sg) (self4 : Int32 → Int32 → Option (Int32)) (v1 : Int32) (v2 : Int32) : Option (Int32) :=
  if (S.1 0 2) ≤ v2 then (
  some v1
  ) else (
  gd (inb v2 10) <|
  gd (inb a1 10) <|
  jn (fun (x5 : Int32) =>
  jn (fun (x6 : Int32) =>
  bv (v1 + x6) fun x7 =>
  bv (v2 + 1) fun x8 =>
  self4 x7 x8
  ) fun j95 =>
  if x5 = 0 then (
  j95 (0 : Int32)
  ) else (
  j95 (1 : Int32)
  )
  ) fun j82 =>
  jn (
  j82 (1 : Int32)
  ) fun j77 =>
  if (S.1 2 (ix a1)) < (S.1 2 (ix v2)) then (
  j77 
  ) else (
  gd (inb v2 10) <|
  gd (inb a1 10) <|
  jn (
  j82 (0 : Int32)
  ) fun j81 =>
  if (S.1 2 (ix v2)) = (S.1 2 (ix a1)) then (
  gd (inb v2 10) <|
  gd (inb a1 10) <|
  if (S.1 1 (ix v2)) < (S.1 1 (ix a1)) then (
  j77 
  ) else (
  gd (inb v2 10) <|
  gd (inb a1 10) <|
  if (S.1 1 (ix v2)) = (S.1 1 (ix a1)) then (
  if a1 ≤ v2 then (
  j81 
  ) else (
  j77 
  )
  ) else (
  j81 
  )
  )
  ) else (
  j81 
  )
  )
  )
def f_X10_ahead (a1 : Int32) (S : Sg) : Option (Int32) :=
  wp2 (X10_ahead_L4 a1 S) FU (0 : Int32) (0 : Int32)
def X10_namePlace_L4 (a1 : Int32) (S : Sg) (k53 : Int32 → Option (Int32)) (self4 : Int32 → Int32 → Option (Int32)) (v4 : Int32) (v5 : Int32) : Option (Int32) :=
  if (S.1 0 2) ≤ v5 then (
  k53 v4
  ) else (
  gd (inb v5 10) <|
  jn (fun (x7 : Int32) =>
  bv (v4 + x7) fun x8 =>
  bv (v5 + 1) fun x9 =>
  self4 x8 x9
  ) fun j45 =>
  jn (
  j45 (0 : Int32)
  ) fun j44 =>
  if (lg_cmp (S.2 3 (ix v5)) (0 : Int64)) = 0 then (
  j44 
  ) else (
  gd (inb v5 10) <|
  gd (inb a1 10) <|
  if 0 ≤ (lg_cmp (S.2 3 (ix v5)) (S.2 3 (ix a1))) then (
  j44 
  ) else (
  j45 (1 : Int32)
  )
  )
  )
def f_X10_namePlace (a1 : Int32) (S : Sg) : Option (Int32) :=
  wp2 (X10_namePlace_L4 a1 S (fun (v1 : Int32) =>
  gd (inb a1 10) <|
  if (lg_cmp (S.2 3 (ix a1)) (0 : Int64)) = 0 then (
  some (-1 : Int32)
  ) else (
  some v1
  )
  )) FU (0 : Int32) (0 : Int32)
def X10_laysAxis_L2 (a1 : Int32) (k40 : Sg → Option (Sg)) (self2 : Int32 → Sg → Option (Sg)) (v3 : Int32) (S4 : Sg) : Option (Sg) :=
  if (S4.1 0 1) ≤ v3 then (
  k40 S4
  ) else (
  jn (fun (x5 : Int32) =>
  gd (inb (((6 : Int32) * (S4.1 0 9)) + v3) 156) <|
  bv (si S4 6 (ix (((6 : Int32) * (S4.1 0 9)) + v3)) x5) fun S7 =>
  bv (v3 + 1) fun x8 =>
  self2 x8 S7
  ) fun j33 =>
  if v3 = a1 then (
  j33 (1 : Int32)
  ) else (
  j33 (0 : Int32)
  )
  )
def f_X10_laysAxis (a1 : Int32) (S : Sg) : Option (Sg) :=
  wp2 (X10_laysAxis_L2 a1 (fun (S1 : Sg) =>
  bv (si S1 0 9 ((S1.1 0 9) + (1 : Int32))) fun S2 =>
  some S2
  )) FU (0 : Int32) S
def f_X10_numberOf (a1 : Int32) (a2 : Int32) (a3 : Int32) (S : Sg) : Option (Int32) :=
  gd (inb (((12 : Int32) * a1) + a3) 120) <|
  bv (S.1 4 (ix (((12 : Int32) * a1) + a3))) fun x2 =>
  gd (inb ((((12 : Int32) * a1) + (6 : Int32)) + a3) 120) <|
  bv (S.1 4 (ix ((((12 : Int32) * a1) + (6 : Int32)) + a3))) fun x4 =>
  gd (inb a1 10) <|
  bv (S.1 1 (ix a1)) fun x6 =>
  if x6 = 1 then (
  jn (fun (x8 : Int64) =>
  cl1 (f_X10_rest x8 S) fun r9 =>
  some r9
  ) fun j85 =>
  if a2 = 0 then (
  j85 x2.toInt64
  ) else (
  j85 ((x2 + x4).toInt64)
  )
  ) else 
  if x6 = 2 then (
  jn (fun (x13 : Int64) =>
  cl1 (f_X10_rest x13 S) fun r14 =>
  some r14
  ) fun j103 =>
  if a2 = 0 then (
  j103 x4.toInt64
  ) else (
  j103 x2.toInt64
  )
  ) else 
  if x6 = 3 then (
  jn (fun (x18 : Int64) =>
  cl1 (f_X10_rest x18 S) fun r19 =>
  some r19
  ) fun j127 =>
  if a2 = 0 then (
  j127 x2.toInt64
  ) else (
  j127 (((x2 + x4) + x2).toInt64)
  )
  ) else 
  if x6 = 4 then (
  jn (fun (x23 : Int64) =>
  cl1 (f_X10_rest x23 S) fun r24 =>
  some r24
  ) fun j154 =>
  if a2 = (1 : Int32) then (
  j154 x2.toInt64
  ) else (
  if a3 = 0 then (
  j154 (0 : Int64)
  ) else (
  j154 x4.toInt64
  )
  )
  ) else 
  if x6 = 5 then (
  cl1 (f_X10_rest x2.toInt64 S) fun r29 =>
  some r29
  ) else 
  jn (fun (x31 : Int64) =>
  cl1 (f_X10_rest x31 S) fun r32 =>
  some r32
  ) fun j180 =>
  if a2 = 0 then (
  j180 x2.toInt64
  ) else (
  j180 x4.toInt64
  )
def X10_laysRow_L2 (a1 : Int32) (a2 : Int32) (k37 : Sg → Option (Sg)) (self2 : Int32 → Sg → Option (Sg)) (v3 : Int32) (S4 : Sg) : Option (Sg) :=
  if (S4.1 0 1) ≤ v3 then (
  k37 S4
  ) else (
  cl1 (f_X10_numberOf a1 a2 v3 S4) fun r5 =>
  gd (inb (((6 : Int32) * (S4.1 0 9)) + v3) 156) <|
  bv (si S4 6 (ix (((6 : Int32) * (S4.1 0 9)) + v3)) r5) fun S8 =>
  bv (v3 + 1) fun x9 =>
  self2 x9 S8
  )
def f_X10_laysRow (a1 : Int32) (a2 : Int32) (S : Sg) : Option (Sg) :=
  wp2 (X10_laysRow_L2 a1 a2 (fun (S1 : Sg) =>
  bv (si S1 0 9 ((S1.1 0 9) + (1 : Int32))) fun S2 =>
  some S2
  )) FU (0 : Int32) S
def X10_adds_L3 (a1 : Int32) (a2 : Int32) (a3 : Int32) (self3 : Int32 → Sg → Option (Sg)) (v1 : Int32) (S2 : Sg) : Option (Sg) :=
  if (S2.1 0 1) ≤ v1 then (
  some S2
  ) else (
  gd (inb (((6 : Int32) * a1) + v1) 156) <|
  gd (inb (((6 : Int32) * a2) + v1) 156) <|
  cl1 (f_X10_rest ((S2.1 6 (ix (((6 : Int32) * a1) + v1))).toInt64 + (a3.toInt64 * (S2.1 6 (ix (((6 : Int32) * a2) + v1))).toInt64)) S2) fun r5 =>
  gd (inb (((6 : Int32) * a1) + v1) 156) <|
  bv (si S2 6 (ix (((6 : Int32) * a1) + v1)) r5) fun S8 =>
  bv (v1 + 1) fun x9 =>
  self3 x9 S8
  )
def f_X10_adds (a1 : Int32) (a2 : Int32) (a3 : Int32) (S : Sg) : Option (Sg) :=
  wp2 (X10_adds_L3 a1 a2 a3) FU (0 : Int32) S
def X10_changes_L2 (a1 : Int32) (a2 : Int32) (self2 : Int32 → Sg → Option (Sg)) (v1 : Int32) (S2 : Sg) : Option (Sg) :=
  if (S2.1 0 1) ≤ v1 then (
  some S2
  ) else (
  gd (inb (((6 : Int32) * a1) + v1) 156) <|
  bv (S2.1 6 (ix (((6 : Int32) * a1) + v1))) fun x4 =>
  gd (inb (((6 : Int32) * a2) + v1) 156) <|
  gd (inb (((6 : Int32) * a1) + v1) 156) <|
  bv (si S2 6 (ix (((6 : Int32) * a1) + v1)) (S2.1 6 (ix (((6 : Int32) * a2) + v1)))) fun S7 =>
  gd (inb (((6 : Int32) * a2) + v1) 156) <|
  bv (si S7 6 (ix (((6 : Int32) * a2) + v1)) x4) fun S9 =>
  bv (v1 + 1) fun x10 =>
  self2 x10 S9
  )
def f_X10_changes (a1 : Int32) (a2 : Int32) (S : Sg) : Option (Sg) :=
  wp2 (X10_changes_L2 a1 a2) FU (0 : Int32) S
def X10_ranks_L72 (v1 : Int32) (v2 : Int32) (k141 : Sg → Option (Int32 × Sg)) (self72 : Int32 → Sg → Option (Int32 × Sg)) (v13 : Int32) (S14 : Sg) : Option (Int32 × Sg) :=
  if (S14.1 0 9) ≤ v13 then (
  k141 S14
  ) else (
  gd (inb (((6 : Int32) * v13) + v2) 156) <|
  jn (fun (S16 : Sg) =>
  bv (v13 + 1) fun x17 =>
  self72 x17 S16
  ) fun j135 =>
  if (S14.1 6 (ix (((6 : Int32) * v13) + v2))) = 0 then (
  j135 S14
  ) else (
  gd (inb (((6 : Int32) * v13) + v2) 156) <|
  gd (inb (((6 : Int32) * v1) + v2) 156) <|
  cl1 (f_X10_over (S14.1 6 (ix (((6 : Int32) * v13) + v2))) (S14.1 6 (ix (((6 : Int32) * v1) + v2))) S14) fun r20 =>
  cl1 (f_X10_adds v13 v1 ((S14.1 0 0) - r20) S14) fun S23 =>
  j135 S23
  )
  )
def X10_ranks_L22 (v2 : Int32) (S3 : Sg) (k50 : Int32 → Option (Int32 × Sg)) (self22 : Int32 → Option (Int32 × Sg)) (v27 : Int32) : Option (Int32 × Sg) :=
  if (S3.1 0 9) ≤ v27 then (
  k50 v27
  ) else (
  gd (inb (((6 : Int32) * v27) + v2) 156) <|
  if (S3.1 6 (ix (((6 : Int32) * v27) + v2))) = 0 then (
  bv (v27 + 1) fun x29 =>
  self22 x29
  ) else (
  k50 v27
  )
  )
def X10_ranks_L4  (self4 : Int32 → Int32 → Sg → Option (Int32 × Sg)) (v1 : Int32) (v2 : Int32) (S3 : Sg) : Option (Int32 × Sg) :=
  if (S3.1 0 1) ≤ v2 then (
  some (v1, S3)
  ) else (
  if (S3.1 0 9) ≤ v1 then (
  some (v1, S3)
  ) else (
  wp1 (X10_ranks_L22 v2 S3 (fun (v4 : Int32) =>
  jn (fun (v5 : Int32) (S6 : Sg) =>
  bv (v2 + 1) fun x7 =>
  self4 v5 x7 S6
  ) fun j144 =>
  if v4 = (S3.1 0 9) then (
  j144 v1 S3
  ) else (
  cl1 (f_X10_changes v1 v4 S3) fun S9 =>
  bv (v1 + (1 : Int32)) fun x10 =>
  wp2 (X10_ranks_L72 v1 v2 (fun (S11 : Sg) =>
  bv (v1 + 1) fun x12 =>
  j144 x12 S11
  )) FU x10 S9
  )
  )) FU v1
  )
  )
def f_X10_ranks  (S : Sg) : Option (Int32 × Sg) :=
  wp3 (X10_ranks_L4 ) FU (0 : Int32) (0 : Int32) S
def X10_rankOf_L36 (a1 : Int32) (k70 : Sg → Option (Int32 × Sg)) (self36 : Int32 → Sg → Option (Int32 × Sg)) (v7 : Int32) (S8 : Sg) : Option (Int32 × Sg) :=
  if (S8.1 0 2) ≤ v7 then (
  k70 S8
  ) else (
  cl1 (f_X10_has a1 v7) fun r9 =>
  jn (fun (S11 : Sg) =>
  bv (v7 + 1) fun x12 =>
  self36 x12 S11
  ) fun j64 =>
  if r9 = 0 then (
  j64 S8
  ) else (
  cl1 (f_X10_laysRow v7 (0 : Int32) S8) fun S14 =>
  cl1 (f_X10_laysRow v7 (1 : Int32) S14) fun S16 =>
  j64 S16
  )
  )
def X10_rankOf_L7 (a2 : Int32) (k34 : Sg → Option (Int32 × Sg)) (self7 : Int32 → Sg → Option (Int32 × Sg)) (v19 : Int32) (S20 : Sg) : Option (Int32 × Sg) :=
  if (S20.1 0 1) ≤ v19 then (
  k34 S20
  ) else (
  cl1 (f_X10_has a2 v19) fun r21 =>
  jn (fun (S23 : Sg) =>
  bv (v19 + 1) fun x24 =>
  self7 x24 S23
  ) fun j28 =>
  if r21 = 0 then (
  j28 S20
  ) else (
  cl1 (f_X10_laysAxis v19 S20) fun S26 =>
  j28 S26
  )
  )
def f_X10_rankOf (a1 : Int32) (a2 : Int32) (S : Sg) : Option (Int32 × Sg) :=
  bv (si S 0 9 (0 : Int32)) fun S1 =>
  wp2 (X10_rankOf_L7 a2 (fun (S2 : Sg) =>
  wp2 (X10_rankOf_L36 a1 (fun (S3 : Sg) =>
  cl (f_X10_ranks S3) fun r4 S6 =>
  some (r4, S6)
  )) FU (0 : Int32) S2
  )) FU (0 : Int32) S1
def f_X10_told (a1 : Int32) (a2 : Int32) (S : Sg) : Option (Int32 × Sg) :=
  cl1 (f_X10_isPair a1 S) fun r1 =>
  if r1 = 0 then (
  some ((-2 : Int32), S)
  ) else (
  if a2 = 0 then (
  gd (inb a1 10) <|
  some ((S.1 1 (ix a1)), S)
  ) else 
  if a2 = 1 then (
  gd (inb a1 10) <|
  some ((S.1 2 (ix a1)), S)
  ) else 
  if a2 = 2 then (
  cl1 (f_X10_ahead a1 S) fun r8 =>
  some (r8, S)
  ) else 
  if a2 = 3 then (
  cl1 (f_X10_namePlace a1 S) fun r11 =>
  some (r11, S)
  ) else 
  if a2 = 4 then (
  cl (f_X10_rankOf ((1 : Int32) <<< (a1 &&& 31)) (0 : Int32) S) fun r14 S16 =>
  some (r14, S16)
  ) else 
  some ((-2 : Int32), S)
  )
def f_X10_number (a1 : Int32) (a2 : Int32) (a3 : Int32) (S : Sg) : Option (Int32) :=
  cl1 (f_X10_isPair a1 S) fun r1 =>
  if r1 = 0 then (
  some (-2 : Int32)
  ) else (
  cl1 (f_X10_in a2.toInt64 (0 : Int64) (1 : Int64)) fun r3 =>
  if r3 = 0 then (
  some (-2 : Int32)
  ) else (
  cl1 (f_X10_in a3.toInt64 (0 : Int64) (((S.1 0 1) - (1 : Int32)).toInt64)) fun r5 =>
  if r5 = 0 then (
  some (-2 : Int32)
  ) else (
  cl1 (f_X10_numberOf a1 a2 a3 S) fun r7 =>
  some r7
  )
  )
  )
def f_X10_drop  (S : Sg) : Option (Int32 × Sg) :=
  if (S.1 0 2) = 0 then (
  some ((-3 : Int32), S)
  ) else (
  bv (si S 0 2 ((S.1 0 2) - (1 : Int32))) fun S1 =>
  some ((S1.1 0 2), S1)
  )
def X10_isName_L4 (a0 : Int64) (k73 : Int32 → Option (Int32)) (self4 : Int32 → Int32 → Option (Int32)) (v4 : Int32) (v5 : Int32) : Option (Int32) :=
  if (8 : Int32) ≤ v5 then (
  k73 v4
  ) else (
  bv ((lush a0 ((56 : Int32) - ((8 : Int32) * v5))) &&& (255 : Int64)) fun x6 =>
  jn (
  jn (fun (x7 : Int32) =>
  bv (v4 ||| x7) fun x8 =>
  bv (v5 + 1) fun x9 =>
  self4 x8 x9
  ) fun j65 =>
  if (lg_cmp x6 (0 : Int64)) = 0 then (
  j65 (1 : Int32)
  ) else (
  j65 (0 : Int32)
  )
  ) fun j52 =>
  if (lg_cmp x6 (0 : Int64)) = 0 then (
  j52 
  ) else (
  if v4 = 0 then (
  cl1 (f_X10_in x6 (97 : Int64) (122 : Int64)) fun r11 =>
  if r11 = 0 then (
  some (0 : Int32)
  ) else (
  j52 
  )
  ) else (
  some (0 : Int32)
  )
  )
  )
def f_X10_isName (a0 : Int64) : Option (Int32) :=
  wp2 (X10_isName_L4 a0 (fun (v1 : Int32) =>
  if v1 = 0 then (
  some (0 : Int32)
  ) else (
  if (lg_cmp a0 (0 : Int64)) = 0 then (
  some (0 : Int32)
  ) else (
  some (1 : Int32)
  )
  )
  )) FU (0 : Int32) (0 : Int32)
def X10_whoIs_L2 (a1 : Int64) (S : Sg) (self2 : Int32 → Option (Int32)) (v1 : Int32) : Option (Int32) :=
  if (S.1 0 2) ≤ v1 then (
  some (-1 : Int32)
  ) else (
  gd (inb v1 10) <|
  if (lg_cmp (S.2 3 (ix v1)) a1) = 0 then (
  some v1
  ) else (
  bv (v1 + 1) fun x3 =>
  self2 x3
  )
  )
def f_X10_whoIs (a1 : Int64) (S : Sg) : Option (Int32) :=
  wp1 (X10_whoIs_L2 a1 S) FU (0 : Int32)
def f_X10_name (a1 : Int32) (a2 : Int64) (S : Sg) : Option (Int32 × Sg) :=
  cl1 (f_X10_isPair a1 S) fun r1 =>
  if r1 = 0 then (
  some ((-2 : Int32), S)
  ) else (
  cl1 (f_X10_isName a2) fun r3 =>
  if r3 = 0 then (
  some ((-2 : Int32), S)
  ) else (
  cl1 (f_X10_whoIs a2 S) fun r5 =>
  jn (
  gd (inb a1 10) <|
  bv (sl S 3 (ix a1) a2) fun S8 =>
  some ((1 : Int32), S8)
  ) fun j40 =>
  if r5 = (-1 : Int32) then (
  j40 
  ) else (
  if r5 = a1 then (
  j40 
  ) else (
  some ((-3 : Int32), S)
  )
  )
  )
  )
def f_X10_named (a1 : Int64) (S : Sg) : Option (Int32) :=
  cl1 (f_X10_isName a1) fun r1 =>
  if r1 = 0 then (
  some (-2 : Int32)
  ) else (
  cl1 (f_X10_whoIs a1 S) fun r3 =>
  some r3
  )
def f_X10_unname (a1 : Int32) (S : Sg) : Option (Int32 × Sg) :=
  cl1 (f_X10_isPair a1 S) fun r1 =>
  if r1 = 0 then (
  some ((-2 : Int32), S)
  ) else (
  gd (inb a1 10) <|
  jn (fun (x4 : Int32) =>
  gd (inb a1 10) <|
  bv (sl S 3 (ix a1) (0 : Int64)) fun S6 =>
  some (x4, S6)
  ) fun j27 =>
  if (lg_cmp (S.2 3 (ix a1)) (0 : Int64)) = 0 then (
  j27 (0 : Int32)
  ) else (
  j27 (1 : Int32)
  )
  )
def X10_nameAt_L2 (a1 : Int32) (S : Sg) (self2 : Int32 → Option (Int64)) (v1 : Int32) : Option (Int64) :=
  if (S.1 0 2) ≤ v1 then (
  some (-12 : Int64)
  ) else (
  gd (inb v1 10) <|
  jn (
  bv (v1 + 1) fun x3 =>
  self2 x3
  ) fun j37 =>
  if (lg_cmp (S.2 3 (ix v1)) (0 : Int64)) = 0 then (
  j37 
  ) else (
  cl1 (f_X10_namePlace v1 S) fun r4 =>
  if r4 = a1 then (
  gd (inb v1 10) <|
  some (S.2 3 (ix v1))
  ) else (
  j37 
  )
  )
  )
def f_X10_nameAt (a1 : Int32) (S : Sg) : Option (Int64) :=
  wp1 (X10_nameAt_L2 a1 S) FU (0 : Int32)
def f_X10_isStanding (a1 : Int32) (S : Sg) : Option (Int32 × Sg) :=
  cl1 (f_X10_many a1) fun r1 =>
  if (S.1 0 1) < ((2 : Int32) * r1) then (
  some ((0 : Int32), S)
  ) else (
  cl (f_X10_rankOf a1 (0 : Int32) S) fun r3 S5 =>
  cl1 (f_X10_many a1) fun r6 =>
  if r3 = ((2 : Int32) * r6) then (
  some ((1 : Int32), S5)
  ) else (
  some ((0 : Int32), S5)
  )
  )
def f_X10_rank (a1 : Int32) (S : Sg) : Option (Int32 × Sg) :=
  cl1 (f_X10_isSet a1 S) fun r1 =>
  if r1 = 0 then (
  some ((-2 : Int32), S)
  ) else (
  cl (f_X10_rankOf a1 (0 : Int32) S) fun r3 S5 =>
  some (r3, S5)
  )
def f_X10_stands (a1 : Int32) (S : Sg) : Option (Int32 × Sg) :=
  cl1 (f_X10_isSet a1 S) fun r1 =>
  if r1 = 0 then (
  some ((-2 : Int32), S)
  ) else (
  cl (f_X10_isStanding a1 S) fun r3 S5 =>
  if r3 = 0 then (
  some ((0 : Int32), S5)
  ) else (
  some ((1 : Int32), S5)
  )
  )
def X10_mostOf_L4  (self4 : Int32 → Int32 → Sg → Option (Int32 × Sg)) (v1 : Int32) (v2 : Int32) (S3 : Sg) : Option (Int32 × Sg) :=
  if ((1 : Int32) <<< ((S3.1 0 2) &&& 31)) ≤ v2 then (
  some (v1, S3)
  ) else (
  cl1 (f_X10_many v2) fun r4 =>
  jn (fun (x6 : Int32) (S7 : Sg) =>
  bv (v2 + 1) fun x8 =>
  self4 x6 x8 S7
  ) fun j38 =>
  jn (fun (S9 : Sg) =>
  j38 v1 S9
  ) fun j37 =>
  if r4 ≤ v1 then (
  j37 S3
  ) else (
  cl (f_X10_isStanding v2 S3) fun r10 S12 =>
  if r10 = 0 then (
  j37 S12
  ) else (
  cl1 (f_X10_many v2) fun r13 =>
  j38 r13 S12
  )
  )
  )
def f_X10_mostOf  (S : Sg) : Option (Int32 × Sg) :=
  wp3 (X10_mostOf_L4 ) FU (0 : Int32) (1 : Int32) S
def f_X10_most  (S : Sg) : Option (Int32 × Sg) :=
  cl (f_X10_mostOf S) fun r1 S3 =>
  some (r1, S3)
def X10_best_L41 (r3 : Int32) (k105 : Int32 → Int32 → Int32 → Int32 → Sg → Option (Int32 × Sg)) (self41 : Int32 → Int32 → Int32 → Int32 → Int32 → Sg → Option (Int32 × Sg)) (v15 : Int32) (v16 : Int32) (v17 : Int32) (v18 : Int32) (v19 : Int32) (S20 : Sg) : Option (Int32 × Sg) :=
  if ((1 : Int32) <<< ((S20.1 0 2) &&& 31)) ≤ v19 then (
  k105 v15 v16 v17 v18 S20
  ) else (
  cl1 (f_X10_many v19) fun r21 =>
  jn (fun (v23 : Int32) (v24 : Int32) (v25 : Int32) (v26 : Int32) (S27 : Sg) =>
  bv (v19 + 1) fun x28 =>
  self41 v23 v24 v25 v26 x28 S27
  ) fun j99 =>
  if r21 = r3 then (
  cl (f_X10_isStanding v19 S20) fun r29 S31 =>
  if r29 = 0 then (
  j99 v15 v16 v17 v18 S31
  ) else (
  jn (fun (x32 : Int32) =>
  bv (v16 + 1) fun x33 =>
  bv (v17 &&& v19) fun x34 =>
  bv (v18 ||| v19) fun x35 =>
  j99 x32 x33 x34 x35 S31
  ) fun j81 =>
  if v15 = (-1 : Int32) then (
  j81 v19
  ) else (
  j81 v15
  )
  )
  ) else (
  j99 v15 v16 v17 v18 S20
  )
  )
def f_X10_best (a1 : Int32) (S : Sg) : Option (Int32 × Sg) :=
  cl1 (f_X10_in a1.toInt64 (0 : Int64) (3 : Int64)) fun r1 =>
  if r1 = 0 then (
  some ((-2 : Int32), S)
  ) else (
  cl (f_X10_mostOf S) fun r3 S5 =>
  bv (((1 : Int32) <<< ((S5.1 0 2) &&& 31)) - (1 : Int32)) fun x6 =>
  wp6 (X10_best_L41 r3 (fun (v7 : Int32) (v8 : Int32) (v9 : Int32) (v10 : Int32) (S11 : Sg) =>
  if a1 = 0 then (
  some (v7, S11)
  ) else (
  if a1 = (1 : Int32) then (
  some (v8, S11)
  ) else (
  if a1 = (2 : Int32) then (
  some (v9, S11)
  ) else (
  some (v10, S11)
  )
  )
  )
  )) FU (-1 : Int32) (0 : Int32) x6 (0 : Int32) (0 : Int32) S5
  )
def X10_weights_L4 (a1 : Int32) (S : Sg) (self4 : Int32 → Int32 → Option (Int32)) (v1 : Int32) (v2 : Int32) : Option (Int32) :=
  if (S.1 0 2) ≤ v2 then (
  some v1
  ) else (
  cl1 (f_X10_has a1 v2) fun r3 =>
  jn (fun (x5 : Int32) =>
  bv (v1 + x5) fun x6 =>
  bv (v2 + 1) fun x7 =>
  self4 x6 x7
  ) fun j31 =>
  if r3 = 0 then (
  j31 (0 : Int32)
  ) else (
  gd (inb v2 10) <|
  j31 (S.1 2 (ix v2))
  )
  )
def f_X10_weights (a1 : Int32) (S : Sg) : Option (Int32) :=
  wp2 (X10_weights_L4 a1 S) FU (0 : Int32) (0 : Int32)
def X10_heavy_L17  (k60 : Int32 → Sg → Option (Int32 × Sg)) (self17 : Int32 → Int32 → Sg → Option (Int32 × Sg)) (v8 : Int32) (v9 : Int32) (S10 : Sg) : Option (Int32 × Sg) :=
  if ((1 : Int32) <<< ((S10.1 0 2) &&& 31)) ≤ v9 then (
  k60 v8 S10
  ) else (
  cl1 (f_X10_weights v9 S10) fun r11 =>
  cl1 (f_X10_weights v8 S10) fun r13 =>
  jn (fun (x15 : Int32) (S16 : Sg) =>
  bv (v9 + 1) fun x17 =>
  self17 x15 x17 S16
  ) fun j53 =>
  jn (fun (S18 : Sg) =>
  j53 v8 S18
  ) fun j52 =>
  if r11 ≤ r13 then (
  j52 S10
  ) else (
  cl (f_X10_isStanding v9 S10) fun r19 S21 =>
  if r19 = 0 then (
  j52 S21
  ) else (
  j53 v9 S21
  )
  )
  )
def f_X10_heavy (a1 : Int32) (S : Sg) : Option (Int32 × Sg) :=
  cl1 (f_X10_in a1.toInt64 (0 : Int64) (1 : Int64)) fun r1 =>
  if r1 = 0 then (
  some ((-2 : Int32), S)
  ) else (
  wp3 (X10_heavy_L17  (fun (v3 : Int32) (S4 : Sg) =>
  if a1 = 0 then (
  some (v3, S4)
  ) else (
  cl1 (f_X10_weights v3 S4) fun r5 =>
  some (r5, S4)
  )
  )) FU (0 : Int32) (1 : Int32) S
  )
def X10_queue_L2 (a1 : Int32) (S : Sg) (self2 : Int32 → Option (Int32)) (v1 : Int32) : Option (Int32) :=
  if (S.1 0 2) ≤ v1 then (
  some (-12 : Int32)
  ) else (
  cl1 (f_X10_ahead v1 S) fun r2 =>
  if r2 = a1 then (
  some v1
  ) else (
  bv (v1 + 1) fun x4 =>
  self2 x4
  )
  )
def f_X10_queue (a1 : Int32) (S : Sg) : Option (Int32) :=
  wp1 (X10_queue_L2 a1 S) FU (0 : Int32)
def X10_greedy_L17  (k58 : Int32 → Sg → Option (Int32 × Sg)) (self17 : Int32 → Int32 → Sg → Option (Int32 × Sg)) (v8 : Int32) (v9 : Int32) (S10 : Sg) : Option (Int32 × Sg) :=
  if (S10.1 0 2) ≤ v9 then (
  k58 v8 S10
  ) else (
  cl1 (f_X10_queue v9 S10) fun r11 =>
  bv (v8 ||| ((1 : Int32) <<< (r11 &&& 31))) fun x13 =>
  cl (f_X10_isStanding x13 S10) fun r14 S16 =>
  jn (fun (x17 : Int32) =>
  bv (v9 + 1) fun x18 =>
  self17 x17 x18 S16
  ) fun j51 =>
  if r14 = 0 then (
  j51 v8
  ) else (
  j51 x13
  )
  )
def f_X10_greedy (a1 : Int32) (S : Sg) : Option (Int32 × Sg) :=
  cl1 (f_X10_in a1.toInt64 (0 : Int64) (1 : Int64)) fun r1 =>
  if r1 = 0 then (
  some ((-2 : Int32), S)
  ) else (
  wp3 (X10_greedy_L17  (fun (v3 : Int32) (S4 : Sg) =>
  if a1 = 0 then (
  some (v3, S4)
  ) else (
  cl1 (f_X10_weights v3 S4) fun r5 =>
  some (r5, S4)
  )
  )) FU (0 : Int32) (0 : Int32) S
  )
def X10_bettered_L75 (a1 : Int32) (v2 : Int32) (v6 : Int32) (k137 : Sg → Option (Int32 × Sg)) (self75 : Int32 → Sg → Option (Int32 × Sg)) (v13 : Int32) (S14 : Sg) : Option (Int32 × Sg) :=
  if (S14.1 0 2) ≤ v13 then (
  k137 S14
  ) else (
  cl1 (f_X10_has a1 v6) fun r15 =>
  if r15 = 0 then (
  bv (((a1 &&& (((1 : Int32) <<< (v2 &&& 31)) ^^^ (-1 : Int32))) ||| ((1 : Int32) <<< (v6 &&& 31))) ||| ((1 : Int32) <<< (v13 &&& 31))) fun x17 =>
  cl1 (f_X10_has a1 v13) fun r18 =>
  jn (fun (S20 : Sg) =>
  bv (v13 + 1) fun x21 =>
  self75 x21 S20
  ) fun j131 =>
  if r18 = 0 then (
  cl (f_X10_isStanding x17 S14) fun r22 S24 =>
  if r22 = 0 then (
  j131 S24
  ) else (
  some (x17, S24)
  )
  ) else (
  j131 S14
  )
  ) else (
  k137 S14
  )
  )
def X10_bettered_L54 (a1 : Int32) (v2 : Int32) (k143 : Sg → Option (Int32 × Sg)) (self54 : Int32 → Sg → Option (Int32 × Sg)) (v6 : Int32) (S7 : Sg) : Option (Int32 × Sg) :=
  if (S7.1 0 2) ≤ v6 then (
  k143 S7
  ) else (
  cl1 (f_X10_has a1 v2) fun r8 =>
  if r8 = 0 then (
  k143 S7
  ) else (
  bv (v6 + (1 : Int32)) fun x10 =>
  wp2 (X10_bettered_L75 a1 v2 v6 (fun (S11 : Sg) =>
  bv (v6 + 1) fun x12 =>
  self54 x12 S11
  )) FU x10 S7
  )
  )
def X10_bettered_L44 (a1 : Int32) (self44 : Int32 → Sg → Option (Int32 × Sg)) (v2 : Int32) (S3 : Sg) : Option (Int32 × Sg) :=
  if (S3.1 0 2) ≤ v2 then (
  some (a1, S3)
  ) else (
  wp2 (X10_bettered_L54 a1 v2 (fun (S4 : Sg) =>
  bv (v2 + 1) fun x5 =>
  self44 x5 S4
  )) FU (0 : Int32) S3
  )
def X10_bettered_L2 (a1 : Int32) (k42 : Sg → Option (Int32 × Sg)) (self2 : Int32 → Sg → Option (Int32 × Sg)) (v32 : Int32) (S33 : Sg) : Option (Int32 × Sg) :=
  if (S33.1 0 2) ≤ v32 then (
  k42 S33
  ) else (
  cl1 (f_X10_has a1 v32) fun r34 =>
  jn (fun (S36 : Sg) =>
  bv (v32 + 1) fun x37 =>
  self2 x37 S36
  ) fun j36 =>
  if r34 = 0 then (
  cl (f_X10_isStanding (a1 ||| ((1 : Int32) <<< (v32 &&& 31))) S33) fun r38 S40 =>
  if r38 = 0 then (
  j36 S40
  ) else (
  some ((a1 ||| ((1 : Int32) <<< (v32 &&& 31))), S40)
  )
  ) else (
  j36 S33
  )
  )
def f_X10_bettered (a1 : Int32) (S : Sg) : Option (Int32 × Sg) :=
  wp2 (X10_bettered_L2 a1 (fun (S1 : Sg) =>
  wp2 (X10_bettered_L44 a1) FU (0 : Int32) S1
  )) FU (0 : Int32) S
def X10_better_L26  (self26 : Int32 → Int32 → Sg → Option (Int32 × Sg)) (v6 : Int32) (v7 : Int32) (S8 : Sg) : Option (Int32 × Sg) :=
  if v6 = v7 then (
  some (v7, S8)
  ) else (
  cl (f_X10_bettered v7 S8) fun r9 S11 =>
  self26 v7 r9 S11
  )
def f_X10_better (a1 : Int32) (S : Sg) : Option (Int32 × Sg) :=
  cl1 (f_X10_isSet a1 S) fun r1 =>
  if r1 = 0 then (
  some ((-2 : Int32), S)
  ) else (
  cl (f_X10_isStanding a1 S) fun r3 S5 =>
  if r3 = 0 then (
  some ((-3 : Int32), S5)
  ) else (
  wp3 (X10_better_L26 ) FU (-1 : Int32) a1 S5
  )
  )
def f_X10_isSheet (a0 : Int32) : Option (Int32) :=
  cl1 (f_X10_in a0.toInt64 (0 : Int64) (3 : Int64)) fun r1 =>
  gd (isB r1) <|
  some r1
def X10_tells_L24 (a1 : Int32) (self24 : Int32 → Sg → Option (Int32 × Sg)) (v4 : Int32) (S5 : Sg) : Option (Int32 × Sg) :=
  if (10 : Int32) ≤ v4 then (
  some ((0 : Int32), S5)
  ) else (
  gd (inb a1 4) <|
  jn (fun (x7 : Int64) =>
  gd (inb v4 10) <|
  bv (sl S5 7 (ix v4) x7) fun S9 =>
  bv (v4 + 1) fun x10 =>
  self24 x10 S9
  ) fun j60 =>
  if (S5.1 16 (ix a1)) ≤ v4 then (
  j60 (0 : Int64)
  ) else (
  gd (inb (((30 : Int32) * a1) + v4) 120) <|
  j60 (S5.2 17 (ix (((30 : Int32) * a1) + v4)))
  )
  )
def f_X10_tells (a1 : Int32) (S : Sg) : Option (Int32 × Sg) :=
  cl1 (f_X10_isSheet a1) fun r1 =>
  if r1 = 0 then (
  some ((-2 : Int32), S)
  ) else (
  gd (inb a1 4) <|
  if 0 ≤ (S.1 15 (ix a1)) then (
  wp2 (X10_tells_L24 a1) FU (0 : Int32) S
  ) else (
  some ((-11 : Int32), S)
  )
  )
def f_X10_difference (a1 : Int32) (a2 : Int32) (a3 : Int32) (S : Sg) : Option (Int32) :=
  cl1 (f_X10_numberOf a1 (0 : Int32) a2 S) fun r1 =>
  cl1 (f_X10_numberOf a1 (1 : Int32) a3 S) fun r3 =>
  cl1 (f_X10_numberOf a1 (0 : Int32) a3 S) fun r5 =>
  cl1 (f_X10_numberOf a1 (1 : Int32) a2 S) fun r7 =>
  some ((r1 * r3) - (r5 * r7))
def X10_tableAt_L5 (a1 : Int32) (a2 : Int32) (S : Sg) (self5 : Int32 → Int32 → Option (Int32)) (v1 : Int32) (v2 : Int32) : Option (Int32) :=
  if (S.1 0 2) ≤ v2 then (
  some v1
  ) else (
  gd (inb v2 10) <|
  cl1 (f_X10_rest (S.2 7 (ix v2)) S) fun r4 =>
  cl1 (f_X10_difference v2 a1 a2 S) fun r6 =>
  cl1 (f_X10_rest (v1.toInt64 + (r4.toInt64 * r6.toInt64)) S) fun r8 =>
  bv (v2 + 1) fun x10 =>
  self5 r8 x10
  )
def f_X10_tableAt (a1 : Int32) (a2 : Int32) (S : Sg) : Option (Int32) :=
  wp2 (X10_tableAt_L5 a1 a2 S) FU (0 : Int32) (0 : Int32)
def f_X10_table (a1 : Int32) (a2 : Int32) (a3 : Int32) (S : Sg) : Option (Int32 × Sg) :=
  cl1 (f_X10_isSheet a1) fun r1 =>
  if r1 = 0 then (
  some ((-2 : Int32), S)
  ) else (
  cl1 (f_X10_in a2.toInt64 (0 : Int64) (((S.1 0 1) - (1 : Int32)).toInt64)) fun r3 =>
  if r3 = 0 then (
  some ((-2 : Int32), S)
  ) else (
  cl1 (f_X10_in a3.toInt64 (0 : Int64) (((S.1 0 1) - (1 : Int32)).toInt64)) fun r5 =>
  if r5 = 0 then (
  some ((-2 : Int32), S)
  ) else (
  cl (f_X10_tells a1 S) fun r7 S9 =>
  if r7 = 0 then (
  cl1 (f_X10_tableAt a2 a3 S9) fun r10 =>
  some (r10, S9)
  ) else (
  some (r7, S9)
  )
  )
  )
  )
def X10_halfOf_L20 (v6 : Int32) (k51 : Sg → Option (Int32 × Sg)) (self20 : Int32 → Sg → Option (Int32 × Sg)) (v10 : Int32) (S11 : Sg) : Option (Int32 × Sg) :=
  if (S11.1 0 1) ≤ v10 then (
  k51 S11
  ) else (
  cl1 (f_X10_tableAt v6 v10 S11) fun r12 =>
  gd (inb (((6 : Int32) * v6) + v10) 156) <|
  bv (si S11 6 (ix (((6 : Int32) * v6) + v10)) r12) fun S15 =>
  bv (v10 + 1) fun x16 =>
  self20 x16 S15
  )
def X10_halfOf_L10  (k57 : Sg → Option (Int32 × Sg)) (self10 : Int32 → Sg → Option (Int32 × Sg)) (v6 : Int32) (S7 : Sg) : Option (Int32 × Sg) :=
  if (S7.1 0 1) ≤ v6 then (
  k57 S7
  ) else (
  wp2 (X10_halfOf_L20 v6 (fun (S8 : Sg) =>
  bv (v6 + 1) fun x9 =>
  self10 x9 S8
  )) FU (0 : Int32) S7
  )
def f_X10_halfOf  (S : Sg) : Option (Int32 × Sg) :=
  bv (si S 0 9 (S.1 0 1)) fun S1 =>
  wp2 (X10_halfOf_L10  (fun (S2 : Sg) =>
  cl (f_X10_ranks S2) fun r3 S5 =>
  some ((r3 / (2 : Int32)), S5)
  )) FU (0 : Int32) S1
def f_X10_half (a1 : Int32) (S : Sg) : Option (Int32 × Sg) :=
  cl (f_X10_tells a1 S) fun r1 S3 =>
  if r1 = 0 then (
  cl (f_X10_halfOf S3) fun r4 S6 =>
  some (r4, S6)
  ) else (
  some (r1, S3)
  )
def f_X10_times (a1 : Int64) (a3 : Int64) (S : Sg) : Option (Int64 × Sg) :=
  bv (a1 * a3) fun x1 =>
  jn (fun (x2 : Int32) =>
  gd (isB ((S.1 0 11) ||| x2)) <|
  bv (si S 0 11 ((S.1 0 11) ||| x2)) fun S4 =>
  some (x1, S4)
  ) fun j51 =>
  jn (
  j51 (0 : Int32)
  ) fun j50 =>
  if (lg_cmp a1 (0 : Int64)) = 0 then (
  j50 
  ) else (
  gd (nzl a1) <|
  jn (
  j51 (1 : Int32)
  ) fun j46 =>
  if (lg_cmp (x1 / a1) a3) = 0 then (
  if (lg_cmp a1 (-1 : Int64)) = 0 then (
  if 0 ≤ (lg_cmp a3 (0 : Int64)) then (
  j50 
  ) else (
  if (lg_cmp x1 a3) = 0 then (
  j46 
  ) else (
  j50 
  )
  )
  ) else (
  j50 
  )
  ) else (
  j46 
  )
  )
def f_X10_plus (a1 : Int64) (a3 : Int64) (S : Sg) : Option (Int64 × Sg) :=
  bv (a1 + a3) fun x1 =>
  jn (fun (x2 : Int32) =>
  gd (isB ((S.1 0 11) ||| x2)) <|
  bv (si S 0 11 ((S.1 0 11) ||| x2)) fun S4 =>
  some (x1, S4)
  ) fun j33 =>
  jn (
  j33 (0 : Int32)
  ) fun j32 =>
  if 0 ≤ (lg_cmp (a1 ^^^ x1) (0 : Int64)) then (
  j32 
  ) else (
  if 0 ≤ (lg_cmp (a3 ^^^ x1) (0 : Int64)) then (
  j32 
  ) else (
  j33 (1 : Int32)
  )
  )
def f_X10_less (a1 : Int64) (a3 : Int64) (S : Sg) : Option (Int64 × Sg) :=
  bv (a1 - a3) fun x1 =>
  jn (fun (x2 : Int32) =>
  gd (isB ((S.1 0 11) ||| x2)) <|
  bv (si S 0 11 ((S.1 0 11) ||| x2)) fun S4 =>
  some (x1, S4)
  ) fun j32 =>
  jn (
  j32 (0 : Int32)
  ) fun j31 =>
  if 0 ≤ (lg_cmp (a1 ^^^ a3) (0 : Int64)) then (
  j31 
  ) else (
  if 0 ≤ (lg_cmp (a1 ^^^ x1) (0 : Int64)) then (
  j31 
  ) else (
  j32 (1 : Int32)
  )
  )
def X10_laysWhole_L27 (v1 : Int32) (v6 : Int32) (k68 : Int64 → Sg → Option (Sg)) (self27 : Int64 → Int32 → Sg → Option (Sg)) (v17 : Int64) (v18 : Int32) (S19 : Sg) : Option (Sg) :=
  if (S19.1 0 2) ≤ v18 then (
  k68 v17 S19
  ) else (
  gd (inb v18 10) <|
  cl1 (f_X10_difference v18 v1 v6 S19) fun r21 =>
  cl (f_X10_times (S19.2 7 (ix v18)) r21.toInt64 S19) fun r23 S25 =>
  cl (f_X10_plus v17 r23 S25) fun r26 S28 =>
  bv (v18 + 1) fun x29 =>
  self27 r26 x29 S28
  )
def X10_laysWhole_L14 (v1 : Int32) (k108 : Sg → Option (Sg)) (self14 : Int32 → Sg → Option (Sg)) (v6 : Int32) (S7 : Sg) : Option (Sg) :=
  if (S7.1 0 1) ≤ v6 then (
  k108 S7
  ) else (
  wp3 (X10_laysWhole_L27 v1 v6 (fun (v8 : Int64) (S9 : Sg) =>
  jn (fun (x10 : Int32) =>
  gd (isB ((S9.1 0 11) ||| x10)) <|
  bv (si S9 0 11 ((S9.1 0 11) ||| x10)) fun S12 =>
  gd (inb (((6 : Int32) * v1) + v6) 36) <|
  bv (sl S12 8 (ix (((6 : Int32) * v1) + v6)) v8) fun S14 =>
  bv (v6 + 1) fun x15 =>
  self14 x15 S14
  ) fun j86 =>
  if (lg_cmp v8 v8.toInt32.toInt64) = 0 then (
  j86 (0 : Int32)
  ) else (
  j86 (1 : Int32)
  )
  )) FU (0 : Int64) (0 : Int32) S7
  )
def X10_laysWhole_L2  (self2 : Int32 → Sg → Option (Sg)) (v1 : Int32) (S2 : Sg) : Option (Sg) :=
  if (S2.1 0 1) ≤ v1 then (
  some S2
  ) else (
  bv (v1 + (1 : Int32)) fun x3 =>
  wp2 (X10_laysWhole_L14 v1 (fun (S4 : Sg) =>
  bv (v1 + 1) fun x5 =>
  self2 x5 S4
  )) FU x3 S2
  )
def f_X10_laysWhole  (S : Sg) : Option (Sg) :=
  wp2 (X10_laysWhole_L2 ) FU (0 : Int32) S
def X10_rootOf_L42 (a1 : Int32) (rc : Int32 → Sg → Option (Int64 × Sg)) (v1 : Int32) (self42 : Int64 → Int32 → Int32 → Sg → Option (Int64 × Sg)) (v4 : Int64) (v5 : Int32) (v6 : Int32) (S7 : Sg) : Option (Int64 × Sg) :=
  if (S7.1 0 1) ≤ v6 then (
  some (v4, S7)
  ) else (
  cl1 (f_X10_has a1 v6) fun r8 =>
  jn (fun (v10 : Int64) (v11 : Int32) (S12 : Sg) =>
  bv (v6 + 1) fun x13 =>
  self42 v10 v11 x13 S12
  ) fun j131 =>
  if r8 = 0 then (
  j131 v4 v5 S7
  ) else (
  gd (inb (((6 : Int32) * v1) + v6) 36) <|
  cl (rc ((a1 &&& (((1 : Int32) <<< (v1 &&& 31)) ^^^ (-1 : Int32))) &&& (((1 : Int32) <<< (v6 &&& 31)) ^^^ (-1 : Int32))) S7) fun r15 S17 =>
  cl (f_X10_times (S7.2 8 (ix (((6 : Int32) * v1) + v6))) r15 S17) fun r18 S20 =>
  jn (fun (x21 : Int64) (S22 : Sg) =>
  jn (fun (x23 : Int32) =>
  j131 x21 x23 S22
  ) fun j129 =>
  if v5 = 0 then (
  j129 (1 : Int32)
  ) else (
  j129 (0 : Int32)
  )
  ) fun j118 =>
  if v5 = 0 then (
  cl (f_X10_less v4 r18 S20) fun r25 S27 =>
  j118 r25 S27
  ) else (
  cl (f_X10_plus v4 r18 S20) fun r28 S30 =>
  j118 r28 S30
  )
  )
  )
def X10_rootOf_L2 (a1 : Int32) (S : Sg) (k24 : Int32 → Option (Int64 × Sg)) (self2 : Int32 → Option (Int64 × Sg)) (v35 : Int32) : Option (Int64 × Sg) :=
  if (S.1 0 1) ≤ v35 then (
  k24 v35
  ) else (
  cl1 (f_X10_has a1 v35) fun r36 =>
  if r36 = 0 then (
  bv (v35 + 1) fun x38 =>
  self2 x38
  ) else (
  k24 v35
  )
  )
def g_X10_rootOf (rc : Int32 → Sg → Option (Int64 × Sg)) (a1 : Int32) (S : Sg) : Option (Int64 × Sg) :=
  wp1 (X10_rootOf_L2 a1 S (fun (v1 : Int32) =>
  jn (fun (x2 : Int64) =>
  bv (v1 + (1 : Int32)) fun x3 =>
  wp4 (X10_rootOf_L42 a1 rc v1) FU x2 (1 : Int32) x3 S
  ) fun j33 =>
  if a1 = 0 then (
  j33 (1 : Int64)
  ) else (
  j33 (0 : Int64)
  )
  )) FU (0 : Int32)
def f_X10_rootOf (a1 : Int32) (S : Sg) : Option (Int64 × Sg) := wp2 g_X10_rootOf 8 a1 S
def f_X10_root (a1 : Int32) (S : Sg) : Option (Int64 × Sg) :=
  cl (f_X10_tells a1 S) fun r1 S3 =>
  if r1 = 0 then (
  if (irm (S3.1 0 1) (2 : Int32)) = (1 : Int32) then (
  some ((-3 : Int64), S3)
  ) else (
  bv (si S3 0 11 (0 : Int32)) fun S4 =>
  cl1 (f_X10_laysWhole S4) fun S6 =>
  jn (fun (x7 : Int64) (S8 : Sg) =>
  if (S8.1 0 11) = 0 then (
  some (x7, S8)
  ) else (
  some ((-5 : Int64), S8)
  )
  ) fun j59 =>
  if (S6.1 0 11) = 0 then (
  cl (f_X10_rootOf (((1 : Int32) <<< ((S6.1 0 1) &&& 31)) - (1 : Int32)) S6) fun r10 S12 =>
  j59 r10 S12
  ) else (
  j59 (0 : Int64) S6
  )
  )
  ) else (
  some (r1.toInt64, S3)
  )
def X10_draws_L2  (self2 : Int32 → Sg → Option (Sg)) (v1 : Int32) (S2 : Sg) : Option (Sg) :=
  if (S2.1 0 2) ≤ v1 then (
  some S2
  ) else (
  bv (si S2 0 13 (((S2.1 0 13) * (1103515245 : Int32)) + (12345 : Int32))) fun S3 =>
  gd (nz (S3.1 0 0)) <|
  gd (inb v1 10) <|
  bv (sl S3 7 (ix v1) ((irm (ush (S3.1 0 13) (8 : Int32)) (S3.1 0 0)).toInt64)) fun S6 =>
  bv (v1 + 1) fun x7 =>
  self2 x7 S6
  )
def f_X10_draws  (S : Sg) : Option (Sg) :=
  wp2 (X10_draws_L2 ) FU (0 : Int32) S
def X10_claim_L25 (a2 : Int32) (self25 : Int32 → Int32 → Sg → Option (Int32 × Sg)) (v4 : Int32) (v5 : Int32) (S6 : Sg) : Option (Int32 × Sg) :=
  if a2 ≤ v5 then (
  some (v4, S6)
  ) else (
  cl1 (f_X10_draws S6) fun S8 =>
  cl (f_X10_halfOf S8) fun r9 S11 =>
  jn (fun (x12 : Int32) =>
  bv (v5 + 1) fun x13 =>
  self25 x12 x13 S11
  ) fun j53 =>
  if r9 ≤ v4 then (
  j53 v4
  ) else (
  j53 r9
  )
  )
def f_X10_claim (a1 : Int32) (a2 : Int32) (S : Sg) : Option (Int32 × Sg) :=
  cl1 (f_X10_in a2.toInt64 (1 : Int64) (20 : Int64)) fun r1 =>
  if r1 = 0 then (
  some ((-2 : Int32), S)
  ) else (
  bv (si S 0 13 a1) fun S3 =>
  wp3 (X10_claim_L25 a2) FU (0 : Int32) (0 : Int32) S3
  )
def X10_sure_L31 (a2 : Int32) (r3 : Int32) (self31 : Int32 → Int32 → Sg → Option (Int32 × Sg)) (v7 : Int32) (v8 : Int32) (S9 : Sg) : Option (Int32 × Sg) :=
  if a2 ≤ v8 then (
  some (v7, S9)
  ) else (
  cl1 (f_X10_draws S9) fun S11 =>
  cl (f_X10_halfOf S11) fun r12 S14 =>
  jn (fun (x15 : Int32) =>
  bv (v7 + x15) fun x16 =>
  bv (v8 + 1) fun x17 =>
  self31 x16 x17 S14
  ) fun j56 =>
  if r12 = r3 then (
  j56 (1 : Int32)
  ) else (
  j56 (0 : Int32)
  )
  )
def f_X10_sure (a1 : Int32) (a2 : Int32) (S : Sg) : Option (Int32 × Sg) :=
  cl1 (f_X10_in a2.toInt64 (1 : Int64) (20 : Int64)) fun r1 =>
  if r1 = 0 then (
  some ((-2 : Int32), S)
  ) else (
  cl (f_X10_mostOf S) fun r3 S5 =>
  bv (si S5 0 13 a1) fun S6 =>
  wp3 (X10_sure_L31 a2 r3) FU (0 : Int32) (0 : Int32) S6
  )
def f_X10_classWorth (a1 : Int32) (a2 : Int32) (S : Sg) : Option (Int32 × Sg) :=
  cl (f_X10_rankOf a1 a2 S) fun r1 S3 =>
  cl1 (f_X10_many a2) fun r4 =>
  some (((r1 - r4) / (2 : Int32)), S3)
def f_X10_areAxes (a1 : Int32) (S : Sg) : Option (Int32) :=
  cl1 (f_X10_in a1.toInt64 (0 : Int64) ((((1 : Int32) <<< ((S.1 0 1) &&& 31)) - (1 : Int32)).toInt64)) fun r1 =>
  gd (isB r1) <|
  some r1
def X10_cover_L62 (a1 : Int32) (v10 : Int32) (S11 : Sg) (k129 : Int32 → Option (Int32 × Sg)) (self62 : Int32 → Int32 → Option (Int32 × Sg)) (v26 : Int32) (v27 : Int32) : Option (Int32 × Sg) :=
  if (S11.1 0 2) ≤ v27 then (
  k129 v26
  ) else (
  gd (inb a1 4) <|
  if (S11.1 16 (ix a1)) ≤ v27 then (
  k129 v26
  ) else (
  gd (inb (((30 : Int32) * a1) + v27) 120) <|
  gd (inb (((30 : Int32) * a1) + v10) 120) <|
  jn (fun (x31 : Int32) =>
  bv (v26 ||| x31) fun x32 =>
  bv (v27 + 1) fun x33 =>
  self62 x32 x33
  ) fun j120 =>
  if (lg_cmp (S11.2 17 (ix (((30 : Int32) * a1) + v27))) (S11.2 17 (ix (((30 : Int32) * a1) + v10)))) = 0 then (
  j120 ((1 : Int32) <<< (v27 &&& 31))
  ) else (
  j120 (0 : Int32)
  )
  )
  )
def X10_cover_L41 (a1 : Int32) (a2 : Int32) (self41 : Int32 → Int32 → Int32 → Sg → Option (Int32 × Sg)) (v8 : Int32) (v9 : Int32) (v10 : Int32) (S11 : Sg) : Option (Int32 × Sg) :=
  if (S11.1 0 2) ≤ v10 then (
  some (v8, S11)
  ) else (
  bv ((1 : Int32) <<< (v10 &&& 31)) fun x12 =>
  bv (v10 + (1 : Int32)) fun x13 =>
  wp2 (X10_cover_L62 a1 v10 S11 (fun (v14 : Int32) =>
  cl1 (f_X10_has v9 v10) fun r15 =>
  jn (fun (x17 : Int32) (S18 : Sg) =>
  bv (v8 + x17) fun x19 =>
  bv (v9 ||| v14) fun x20 =>
  bv (v10 + 1) fun x21 =>
  self41 x19 x20 x21 S18
  ) fun j151 =>
  if r15 = 0 then (
  cl (f_X10_classWorth v14 a2 S11) fun r22 S24 =>
  j151 r22 S24
  ) else (
  j151 (0 : Int32) S11
  )
  )) FU x12 x13
  )
def f_X10_cover (a1 : Int32) (a2 : Int32) (S : Sg) : Option (Int32 × Sg) :=
  cl1 (f_X10_isSheet a1) fun r1 =>
  if r1 = 0 then (
  some ((-2 : Int32), S)
  ) else (
  cl1 (f_X10_areAxes a2 S) fun r3 =>
  if r3 = 0 then (
  some ((-2 : Int32), S)
  ) else (
  gd (inb a1 4) <|
  if 0 ≤ (S.1 15 (ix a1)) then (
  cl1 (f_X10_many a2) fun r6 =>
  wp4 (X10_cover_L41 a1 a2) FU r6 (0 : Int32) (0 : Int32) S
  ) else (
  some ((-11 : Int32), S)
  )
  )
  )
def X10_cheap_L73 (a1 : Int32) (v11 : Int32) (k108 : Int32 → Sg → Option (Int32 × Sg)) (self73 : Int32 → Int32 → Sg → Option (Int32 × Sg)) (v26 : Int32) (v27 : Int32) (S28 : Sg) : Option (Int32 × Sg) :=
  if (S28.1 0 2) ≤ v27 then (
  k108 v26 S28
  ) else (
  if a1 = (1 : Int32) then (
  cl (f_X10_classWorth ((1 : Int32) <<< (v27 &&& 31)) v11 S28) fun r29 S31 =>
  bv (v26 + r29) fun x32 =>
  bv (v27 + 1) fun x33 =>
  self73 x32 x33 S31
  ) else (
  k108 v26 S28
  )
  )
def X10_cheap_L31 (a1 : Int32) (k133 : Int32 → Int32 → Sg → Option (Int32 × Sg)) (self31 : Int32 → Int32 → Int32 → Sg → Option (Int32 × Sg)) (v9 : Int32) (v10 : Int32) (v11 : Int32) (S12 : Sg) : Option (Int32 × Sg) :=
  cl1 (f_X10_areAxes v11 S12) fun r13 =>
  if r13 = 0 then (
  k133 v9 v10 S12
  ) else (
  cl1 (f_X10_many v11) fun r15 =>
  jn (fun (v17 : Int32) (S18 : Sg) =>
  wp3 (X10_cheap_L73 a1 v11 (fun (v19 : Int32) (S20 : Sg) =>
  jn (fun (v21 : Int32) (v22 : Int32) =>
  bv (v11 + 1) fun x23 =>
  self31 v21 v22 x23 S20
  ) fun j127 =>
  jn (
  j127 v11 v19
  ) fun j120 =>
  if v9 = (-1 : Int32) then (
  j120 
  ) else (
  if v10 ≤ v19 then (
  j127 v9 v10
  ) else (
  j120 
  )
  )
  )) FU v17 (0 : Int32) S18
  ) fun j70 =>
  if a1 = 0 then (
  cl (f_X10_classWorth (((1 : Int32) <<< ((S12.1 0 2) &&& 31)) - (1 : Int32)) v11 S12) fun r36 S38 =>
  bv (r15 + r36) fun x39 =>
  j70 x39 S38
  ) else (
  j70 r15 S12
  )
  )
def f_X10_cheap (a1 : Int32) (a2 : Int32) (S : Sg) : Option (Int32 × Sg) :=
  cl1 (f_X10_in a1.toInt64 (0 : Int64) (1 : Int64)) fun r1 =>
  if r1 = 0 then (
  some ((-2 : Int32), S)
  ) else (
  cl1 (f_X10_in a2.toInt64 (0 : Int64) (1 : Int64)) fun r3 =>
  if r3 = 0 then (
  some ((-2 : Int32), S)
  ) else (
  wp4 (X10_cheap_L31 a1 (fun (v5 : Int32) (v6 : Int32) (S7 : Sg) =>
  if a2 = 0 then (
  some (v6, S7)
  ) else (
  some (v5, S7)
  )
  )) FU (-1 : Int32) (0 : Int32) (0 : Int32) S
  )
  )
def X10_rayBy_L8 (a1 : Int32) (a2 : Int32) (S : Sg) (k71 : Int32 → Int64 → Option (Int64)) (self8 : Int32 → Int64 → Int32 → Option (Int64)) (v4 : Int32) (v5 : Int64) (v6 : Int32) : Option (Int64) :=
  if (S.1 0 1) ≤ v6 then (
  k71 v4 v5
  ) else (
  cl1 (f_X10_numberOf a1 a2 v6 S) fun r7 =>
  jn (fun (x9 : Int32) =>
  jn (fun (x10 : Int32) =>
  bv ((v5 * (S.1 0 0).toInt64) + x10.toInt64) fun x11 =>
  bv (v6 + 1) fun x12 =>
  self8 x9 x11 x12
  ) fun j61 =>
  if x9 = 0 then (
  j61 (0 : Int32)
  ) else (
  cl1 (f_X10_over r7 x9 S) fun r13 =>
  j61 r13
  )
  ) fun j37 =>
  if v4 = 0 then (
  j37 r7
  ) else (
  j37 v4
  )
  )
def f_X10_rayBy (a1 : Int32) (a2 : Int32) (S : Sg) : Option (Int64) :=
  wp3 (X10_rayBy_L8 a1 a2 S (fun (v1 : Int32) (v2 : Int64) =>
  if v1 = 0 then (
  some (-1 : Int64)
  ) else (
  some v2
  )
  )) FU (0 : Int32) (0 : Int64) (0 : Int32)
def X10_findsRays_L94 (v6 : Int32) (k123 : Sg → Option (Sg)) (self94 : Int32 → Sg → Option (Sg)) (v14 : Int32) (S15 : Sg) : Option (Sg) :=
  if v14 ≤ v6 then (
  k123 S15
  ) else (
  gd (inb (v14 - (1 : Int32)) 20) <|
  gd (inb v14 20) <|
  bv (sl S15 9 (ix v14) (S15.2 9 (ix (v14 - (1 : Int32))))) fun S18 =>
  bv (v14 + (-1)) fun x19 =>
  self94 x19 S18
  )
def X10_findsRays_L31 (S3 : Sg) (r4 : Int64) (k58 : Int32 → Option (Sg)) (self31 : Int32 → Option (Sg)) (v25 : Int32) : Option (Sg) :=
  if (S3.1 0 15) ≤ v25 then (
  k58 v25
  ) else (
  gd (inb v25 20) <|
  if 0 ≤ (lg_cmp (S3.2 9 (ix v25)) r4) then (
  k58 v25
  ) else (
  bv (v25 + 1) fun x27 =>
  self31 x27
  )
  )
def X10_findsRays_L7  (self7 : Int32 → Sg → Option (Sg)) (v2 : Int32) (S3 : Sg) : Option (Sg) :=
  if ((2 : Int32) * (S3.1 0 2)) ≤ v2 then (
  some S3
  ) else (
  cl1 (f_X10_rayBy (v2 / (2 : Int32)) (irm v2 (2 : Int32)) S3) fun r4 =>
  wp1 (X10_findsRays_L31 S3 r4 (fun (v6 : Int32) =>
  jn (fun (S7 : Sg) =>
  bv (v2 + 1) fun x8 =>
  self7 x8 S7
  ) fun j141 =>
  if (lg_cmp r4 (0 : Int64)) < 0 then (
  j141 S3
  ) else (
  jn (
  bv (S3.1 0 15) fun x9 =>
  wp2 (X10_findsRays_L94 v6 (fun (S10 : Sg) =>
  gd (inb v6 20) <|
  bv (sl S10 9 (ix v6) r4) fun S12 =>
  bv (si S12 0 15 ((S12.1 0 15) + (1 : Int32))) fun S13 =>
  j141 S13
  )) FU x9 S3
  ) fun j88 =>
  if (S3.1 0 15) ≤ v6 then (
  j88 
  ) else (
  gd (inb v6 20) <|
  if (lg_cmp (S3.2 9 (ix v6)) r4) = 0 then (
  j141 S3
  ) else (
  j88 
  )
  )
  )
  )) FU (0 : Int32)
  )
def f_X10_findsRays  (S : Sg) : Option (Sg) :=
  bv (si S 0 15 (0 : Int32)) fun S1 =>
  wp2 (X10_findsRays_L7 ) FU (0 : Int32) S1
def f_X10_rays  (S : Sg) : Option (Int32 × Sg) :=
  cl1 (f_X10_findsRays S) fun S2 =>
  some ((S2.1 0 15), S2)
def f_X10_ray (a1 : Int32) (S : Sg) : Option (Int64 × Sg) :=
  cl1 (f_X10_findsRays S) fun S2 =>
  cl1 (f_X10_in a1.toInt64 (0 : Int64) (((S2.1 0 15) - (1 : Int32)).toInt64)) fun r3 =>
  if r3 = 0 then (
  some ((-12 : Int64), S2)
  ) else (
  gd (inb a1 20) <|
  some ((S2.2 9 (ix a1)), S2)
  )
def X10_rayOf_L35 (S6 : Sg) (r7 : Int64) (self35 : Int32 → Option (Int32 × Sg)) (v9 : Int32) : Option (Int32 × Sg) :=
  if (S6.1 0 15) ≤ v9 then (
  some ((-1 : Int32), S6)
  ) else (
  gd (inb v9 20) <|
  if (lg_cmp (S6.2 9 (ix v9)) r7) = 0 then (
  some (v9, S6)
  ) else (
  bv (v9 + 1) fun x11 =>
  self35 x11
  )
  )
def f_X10_rayOf (a1 : Int32) (a2 : Int32) (S : Sg) : Option (Int32 × Sg) :=
  cl1 (f_X10_isPair a1 S) fun r1 =>
  if r1 = 0 then (
  some ((-2 : Int32), S)
  ) else (
  cl1 (f_X10_in a2.toInt64 (0 : Int64) (1 : Int64)) fun r3 =>
  if r3 = 0 then (
  some ((-2 : Int32), S)
  ) else (
  cl1 (f_X10_findsRays S) fun S6 =>
  cl1 (f_X10_rayBy a1 a2 S6) fun r7 =>
  wp1 (X10_rayOf_L35 S6 r7) FU (0 : Int32)
  )
  )
def f_X10_isPoint (a0 : Int32) : Option (Int32) :=
  cl1 (f_X10_in a0.toInt64 (0 : Int64) (7 : Int64)) fun r1 =>
  gd (isB r1) <|
  some r1
def f_X10_link (a1 : Int32) (a2 : Int32) (a3 : Int32) (S : Sg) : Option (Int32 × Sg) :=
  cl1 (f_X10_isPoint a1) fun r1 =>
  if r1 = 0 then (
  some ((-2 : Int32), S)
  ) else (
  cl1 (f_X10_isPoint a2) fun r3 =>
  if r3 = 0 then (
  some ((-2 : Int32), S)
  ) else (
  if a1 = a2 then (
  some ((-2 : Int32), S)
  ) else (
  cl1 (f_X10_in a3.toInt64 (0 : Int64) (1 : Int64)) fun r5 =>
  if r5 = 0 then (
  some ((-2 : Int32), S)
  ) else (
  gd (inb a1 8) <|
  bv (((S.1 5 (ix a1)) >>> (a2 &&& 31)) &&& (1 : Int32)) fun x8 =>
  jn (
  if a3 = x8 then (
  some (x8, S)
  ) else (
  gd (inb a1 8) <|
  gd (inb a1 8) <|
  bv (si S 5 (ix a1) ((S.1 5 (ix a1)) ^^^ ((1 : Int32) <<< (a2 &&& 31)))) fun S11 =>
  gd (inb a2 8) <|
  gd (inb a2 8) <|
  bv (si S11 5 (ix a2) ((S11.1 5 (ix a2)) ^^^ ((1 : Int32) <<< (a1 &&& 31)))) fun S14 =>
  some (x8, S14)
  )
  ) fun j83 =>
  if a3 = (1 : Int32) then (
  if x8 = 0 then (
  gd (inb a1 8) <|
  cl1 (f_X10_many (S.1 5 (ix a1))) fun r17 =>
  if r17 = (3 : Int32) then (
  some ((-3 : Int32), S)
  ) else (
  gd (inb a2 8) <|
  cl1 (f_X10_many (S.1 5 (ix a2))) fun r20 =>
  if r20 = (3 : Int32) then (
  some ((-3 : Int32), S)
  ) else (
  j83 
  )
  )
  ) else (
  j83 
  )
  ) else (
  j83 
  )
  )
  )
  )
  )
def X10_isBroken_L20 (S : Sg) (k62 : Int32 → Option (Int32)) (self20 : Int32 → Int32 → Option (Int32)) (v7 : Int32) (v8 : Int32) : Option (Int32) :=
  if (8 : Int32) ≤ v8 then (
  k62 v7
  ) else (
  gd (inb v8 8) <|
  cl1 (f_X10_many ((S.1 5 (ix v8)) &&& v7)) fun r10 =>
  jn (fun (x12 : Int32) =>
  bv (v7 &&& x12) fun x13 =>
  bv (v8 + 1) fun x14 =>
  self20 x13 x14
  ) fun j54 =>
  if (2 : Int32) ≤ r10 then (
  j54 (-1 : Int32)
  ) else (
  j54 (((1 : Int32) <<< (v8 &&& 31)) ^^^ (-1 : Int32))
  )
  )
def X10_isBroken_L10 (S : Sg) (k65 : Int32 → Option (Int32)) (self10 : Int32 → Int32 → Option (Int32)) (v4 : Int32) (v5 : Int32) : Option (Int32) :=
  if v5 = v4 then (
  k65 v4
  ) else (
  wp2 (X10_isBroken_L20 S (fun (v6 : Int32) =>
  self10 v6 v4
  )) FU v4 (0 : Int32)
  )
def f_X10_isBroken (a1 : Int32) (S : Sg) : Option (Int32) :=
  bv ((255 : Int32) &&& (a1 ^^^ (-1 : Int32))) fun x1 =>
  wp2 (X10_isBroken_L10 S (fun (v2 : Int32) =>
  if v2 = 0 then (
  some (1 : Int32)
  ) else (
  some (0 : Int32)
  )
  )) FU x1 (-1 : Int32)
def f_X10_breaks (a1 : Int32) (S : Sg) : Option (Int32) :=
  cl1 (f_X10_in a1.toInt64 (0 : Int64) (255 : Int64)) fun r1 =>
  if r1 = 0 then (
  some (-2 : Int32)
  ) else (
  cl1 (f_X10_isBroken a1 S) fun r3 =>
  if r3 = 0 then (
  some (0 : Int32)
  ) else (
  some (1 : Int32)
  )
  )
def X10_feedback_L26 (S : Sg) (k99 : Int32 → Int32 → Int32 → Option (Int32)) (self26 : Int32 → Int32 → Int32 → Int32 → Option (Int32)) (v8 : Int32) (v9 : Int32) (v10 : Int32) (v11 : Int32) : Option (Int32) :=
  if (256 : Int32) ≤ v11 then (
  k99 v8 v9 v10
  ) else (
  cl1 (f_X10_isBroken v11 S) fun r12 =>
  jn (fun (v14 : Int32) (v15 : Int32) (v16 : Int32) =>
  bv (v11 + 1) fun x17 =>
  self26 v14 v15 v16 x17
  ) fun j93 =>
  if r12 = 0 then (
  j93 v8 v9 v10
  ) else (
  cl1 (f_X10_many v11) fun r18 =>
  if v8 < r18 then (
  j93 v8 v9 v10
  ) else (
  cl1 (f_X10_many v11) fun r20 =>
  jn (fun (x22 : Int32) =>
  cl1 (f_X10_many v11) fun r23 =>
  jn (fun (x25 : Int32) =>
  cl1 (f_X10_many v11) fun r26 =>
  j93 r26 x25 x22
  ) fun j86 =>
  if v8 ≤ r23 then (
  j86 v9
  ) else (
  j86 v11
  )
  ) fun j69 =>
  if v8 ≤ r20 then (
  j69 (v10 + (1 : Int32))
  ) else (
  j69 (1 : Int32)
  )
  )
  )
  )
def f_X10_feedback (a1 : Int32) (S : Sg) : Option (Int32) :=
  cl1 (f_X10_in a1.toInt64 (0 : Int64) (2 : Int64)) fun r1 =>
  if r1 = 0 then (
  some (-2 : Int32)
  ) else (
  wp4 (X10_feedback_L26 S (fun (v3 : Int32) (v4 : Int32) (v5 : Int32) =>
  if a1 = 0 then (
  some v3
  ) else (
  if a1 = (1 : Int32) then (
  some v4
  ) else (
  some v5
  )
  )
  )) FU (99 : Int32) (0 : Int32) (0 : Int32) (0 : Int32)
  )
def f_X10_isHand (a0 : Int32) : Option (Int32) :=
  cl1 (f_X10_in a0.toInt64 (0 : Int64) (3 : Int64)) fun r1 =>
  gd (isB r1) <|
  some r1
def X10_hold_L135 (a1 : Int32) (x8 : Int32) (self135 : Int64 → Int32 → Sg → Option (Int32 × Sg)) (v17 : Int64) (v18 : Int32) (S19 : Sg) : Option (Int32 × Sg) :=
  if v18 < 0 then (
  some (x8, S19)
  ) else (
  gd (nzl ((S19.1 0 0).toInt64)) <|
  gd (inb (((6 : Int32) * a1) + v18) 24) <|
  bv (si S19 14 (ix (((6 : Int32) * a1) + v18)) ((lrm v17 ((S19.1 0 0).toInt64)).toInt32)) fun S22 =>
  gd (nzl ((S22.1 0 0).toInt64)) <|
  bv (v17 / (S22.1 0 0).toInt64) fun x24 =>
  bv (v18 + (-1)) fun x25 =>
  self135 x24 x25 S22
  )
def f_X10_hold (a1 : Int32) (a2 : Int32) (a3 : Int32) (S : Sg) : Option (Int32 × Sg) :=
  cl1 (f_X10_findsRays S) fun S2 =>
  cl1 (f_X10_isHand a1) fun r3 =>
  if r3 = 0 then (
  some ((-2 : Int32), S2)
  ) else (
  cl1 (f_X10_in a2.toInt64 (0 : Int64) (2 : Int64)) fun r5 =>
  if r5 = 0 then (
  some ((-2 : Int32), S2)
  ) else (
  jn (
  jn (
  gd (inb a1 4) <|
  bv (S2.1 10 (ix a1)) fun x8 =>
  gd (inb a1 4) <|
  bv (si S2 10 (ix a1) a2) fun S10 =>
  jn (fun (S11 : Sg) =>
  if a2 = (2 : Int32) then (
  gd (inb a3 20) <|
  bv (S11.2 9 (ix a3)) fun x13 =>
  gd (inb a1 4) <|
  bv (si S11 13 (ix a1) (S11.1 0 1)) fun S15 =>
  bv ((S15.1 0 1) - (1 : Int32)) fun x16 =>
  wp3 (X10_hold_L135 a1 x8) FU x13 x16 S15
  ) else (
  some (x8, S11)
  )
  ) fun j104 =>
  if a2 = (1 : Int32) then (
  gd (inb a3 10) <|
  gd (inb a1 4) <|
  bv (si S10 11 (ix a1) (S10.1 1 (ix a3))) fun S30 =>
  gd (inb a3 10) <|
  gd (inb a1 4) <|
  bv (si S30 12 (ix a1) (S30.1 2 (ix a3))) fun S33 =>
  j104 S33
  ) else (
  j104 S10
  )
  ) fun j60 =>
  if a2 = (2 : Int32) then (
  cl1 (f_X10_in a3.toInt64 (0 : Int64) (((S2.1 0 15) - (1 : Int32)).toInt64)) fun r35 =>
  if r35 = 0 then (
  some ((-2 : Int32), S2)
  ) else (
  j60 
  )
  ) else (
  j60 
  )
  ) fun j36 =>
  if a2 = (1 : Int32) then (
  cl1 (f_X10_isPair a3 S2) fun r39 =>
  if r39 = 0 then (
  some ((-2 : Int32), S2)
  ) else (
  j36 
  )
  ) else (
  j36 
  )
  )
  )
def f_X10_lacks (a1 : Int32) (a2 : Int32) (S : Sg) : Option (Int32) :=
  gd (inb a1 4) <|
  if (S.1 10 (ix a1)) = 0 then (
  some (-11 : Int32)
  ) else (
  gd (inb a1 4) <|
  if (S.1 10 (ix a1)) = a2 then (
  some (0 : Int32)
  ) else (
  some (-13 : Int32)
  )
  )
def f_X10_isUnder (a0 : Int32) (a1 : Int32) : Option (Int32) :=
  if a1 = 0 then (
  some (1 : Int32)
  ) else (
  if a0 = a1 then (
  some (1 : Int32)
  ) else (
  jn (
  if a1 = (2 : Int32) then (
  if a0 = (4 : Int32) then (
  some (1 : Int32)
  ) else (
  some (0 : Int32)
  )
  ) else (
  some (0 : Int32)
  )
  ) fun j19 =>
  if a1 = (1 : Int32) then (
  if a0 = (3 : Int32) then (
  some (1 : Int32)
  ) else (
  j19 
  )
  ) else (
  j19 
  )
  )
  )
def f_X10_asPair (a1 : Int32) (a2 : Int32) (S : Sg) : Option (Int32) :=
  cl1 (f_X10_isHand a1) fun r1 =>
  if r1 = 0 then (
  some (-2 : Int32)
  ) else (
  cl1 (f_X10_in a2.toInt64 (0 : Int64) (5 : Int64)) fun r3 =>
  if r3 = 0 then (
  some (-2 : Int32)
  ) else (
  cl1 (f_X10_lacks a1 (1 : Int32) S) fun r5 =>
  if r5 = 0 then (
  gd (inb a1 4) <|
  cl1 (f_X10_isUnder (S.1 11 (ix a1)) a2) fun r8 =>
  if r8 = 0 then (
  some (-13 : Int32)
  ) else (
  gd (inb a1 4) <|
  some (S.1 12 (ix a1))
  )
  ) else (
  some r5
  )
  )
  )
def f_X10_asRay (a1 : Int32) (a2 : Int32) (S : Sg) : Option (Int32) :=
  cl1 (f_X10_isHand a1) fun r1 =>
  if r1 = 0 then (
  some (-2 : Int32)
  ) else (
  cl1 (f_X10_lacks a1 (2 : Int32) S) fun r3 =>
  if r3 = 0 then (
  gd (inb a1 4) <|
  cl1 (f_X10_in a2.toInt64 (0 : Int64) (((S.1 13 (ix a1)) - (1 : Int32)).toInt64)) fun r6 =>
  if r6 = 0 then (
  some (-12 : Int32)
  ) else (
  gd (inb (((6 : Int32) * a1) + a2) 24) <|
  some (S.1 14 (ix (((6 : Int32) * a1) + a2)))
  )
  ) else (
  some r3
  )
  )
def X10_compare_L63 (a1 : Int32) (a2 : Int32) (S : Sg) (self63 : Int32 → Option (Int32)) (v9 : Int32) : Option (Int32) :=
  if (6 : Int32) ≤ v9 then (
  some (0 : Int32)
  ) else (
  gd (inb a1 4) <|
  jn (fun (x11 : Int32) =>
  gd (inb a2 4) <|
  jn (fun (x13 : Int32) =>
  if x11 = x13 then (
  bv (v9 + 1) fun x14 =>
  self63 x14
  ) else (
  if x13 ≤ x11 then (
  some (1 : Int32)
  ) else (
  some (-1 : Int32)
  )
  )
  ) fun j121 =>
  if (S.1 13 (ix a2)) ≤ v9 then (
  j121 (-1 : Int32)
  ) else (
  gd (inb (((6 : Int32) * a2) + v9) 24) <|
  j121 (S.1 14 (ix (((6 : Int32) * a2) + v9)))
  )
  ) fun j94 =>
  if (S.1 13 (ix a1)) ≤ v9 then (
  j94 (-1 : Int32)
  ) else (
  gd (inb (((6 : Int32) * a1) + v9) 24) <|
  j94 (S.1 14 (ix (((6 : Int32) * a1) + v9)))
  )
  )
def f_X10_compare (a1 : Int32) (a2 : Int32) (S : Sg) : Option (Int32) :=
  cl1 (f_X10_isHand a1) fun r1 =>
  if r1 = 0 then (
  some (-2 : Int32)
  ) else (
  cl1 (f_X10_isHand a2) fun r3 =>
  if r3 = 0 then (
  some (-2 : Int32)
  ) else (
  gd (inb a1 4) <|
  if (S.1 10 (ix a1)) = 0 then (
  some (-11 : Int32)
  ) else (
  gd (inb a2 4) <|
  if (S.1 10 (ix a2)) = 0 then (
  some (-11 : Int32)
  ) else (
  gd (inb a1 4) <|
  if (S.1 10 (ix a1)) = (2 : Int32) then (
  gd (inb a2 4) <|
  if (S.1 10 (ix a2)) = (2 : Int32) then (
  wp1 (X10_compare_L63 a1 a2 S) FU (0 : Int32)
  ) else (
  some (-13 : Int32)
  )
  ) else (
  some (-13 : Int32)
  )
  )
  )
  )
  )
def X10_sheet_L68 (a1 : Int32) (self68 : Int32 → Sg → Option (Int32 × Sg)) (v10 : Int32) (S11 : Sg) : Option (Int32 × Sg) :=
  if (30 : Int32) ≤ v10 then (
  some ((1 : Int32), S11)
  ) else (
  gd (inb (((30 : Int32) * a1) + v10) 120) <|
  bv (sl S11 17 (ix (((30 : Int32) * a1) + v10)) (0 : Int64)) fun S13 =>
  bv (v10 + 1) fun x14 =>
  self68 x14 S13
  )
def f_X10_sheet (a1 : Int32) (a2 : Int32) (a3 : Int32) (S : Sg) : Option (Int32 × Sg) :=
  cl1 (f_X10_isSheet a1) fun r1 =>
  if r1 = 0 then (
  some ((-2 : Int32), S)
  ) else (
  cl1 (f_X10_in a2.toInt64 (-1 : Int64) (1 : Int64)) fun r3 =>
  if r3 = 0 then (
  some ((-2 : Int32), S)
  ) else (
  jn (
  jn (
  gd (inb a1 4) <|
  bv (si S 15 (ix a1) a2) fun S6 =>
  jn (fun (x7 : Int32) =>
  gd (inb a1 4) <|
  bv (si S6 16 (ix a1) x7) fun S9 =>
  wp2 (X10_sheet_L68 a1) FU (0 : Int32) S9
  ) fun j64 =>
  if 0 ≤ a2 then (
  j64 a3
  ) else (
  j64 (0 : Int32)
  )
  ) fun j43 =>
  if a2 < 0 then (
  j43 
  ) else (
  if 0 ≤ a3 then (
  j43 
  ) else (
  some ((-14 : Int32), S)
  )
  )
  ) fun j32 =>
  if a2 < 0 then (
  j32 
  ) else (
  if a3 ≤ (30 : Int32) then (
  j32 
  ) else (
  some ((-2 : Int32), S)
  )
  )
  )
  )
def f_X10_wrong (a1 : Int32) (a2 : Int32) (S : Sg) : Option (Int32) :=
  cl1 (f_X10_isSheet a1) fun r1 =>
  if r1 = 0 then (
  some (-2 : Int32)
  ) else (
  gd (inb a1 4) <|
  if 0 ≤ (S.1 15 (ix a1)) then (
  gd (inb a1 4) <|
  cl1 (f_X10_in a2.toInt64 (0 : Int64) (((S.1 16 (ix a1)) - (1 : Int32)).toInt64)) fun r5 =>
  if r5 = 0 then (
  some (-12 : Int32)
  ) else (
  some (0 : Int32)
  )
  ) else (
  some (-11 : Int32)
  )
  )
def f_X10_cell (a1 : Int32) (a2 : Int32) (a3 : Int64) (S : Sg) : Option (Int32 × Sg) :=
  cl1 (f_X10_wrong a1 a2 S) fun r1 =>
  if r1 = 0 then (
  gd (inb a1 4) <|
  jn (
  gd (inb (((30 : Int32) * a1) + a2) 120) <|
  bv (sl S 17 (ix (((30 : Int32) * a1) + a2)) a3) fun S5 =>
  some ((1 : Int32), S5)
  ) fun j36 =>
  if (S.1 15 (ix a1)) = 0 then (
  if (lg_cmp a3 a3.toInt32.toInt64) = 0 then (
  j36 
  ) else (
  some ((-5 : Int32), S)
  )
  ) else (
  j36 
  )
  ) else (
  some (r1, S)
  )
def f_X10_read (a1 : Int32) (a2 : Int32) (S : Sg) : Option (Int64) :=
  cl1 (f_X10_wrong a1 a2 S) fun r1 =>
  if r1 = 0 then (
  gd (inb (((30 : Int32) * a1) + a2) 120) <|
  some (S.2 17 (ix (((30 : Int32) * a1) + a2)))
  ) else (
  some r1.toInt64
  )
def X10_load_L55 (a1 : Int32) (a2 : Int32) (a3 : Int32) (self55 : Int32 → Sg → Option (Int32 × Sg)) (v9 : Int32) (S10 : Sg) : Option (Int32 × Sg) :=
  if (12 : Int32) ≤ v9 then (
  some ((12 : Int32), S10)
  ) else (
  gd (inb ((((30 : Int32) * a1) + a3) + v9) 120) <|
  gd (inb (((12 : Int32) * a2) + v9) 120) <|
  bv (si S10 4 (ix (((12 : Int32) * a2) + v9)) ((lrm (S10.2 17 (ix ((((30 : Int32) * a1) + a3) + v9))) (100 : Int64)).toInt32)) fun S13 =>
  bv (v9 + 1) fun x14 =>
  self55 x14 S13
  )
def f_X10_load (a1 : Int32) (a2 : Int32) (a3 : Int32) (S : Sg) : Option (Int32 × Sg) :=
  cl1 (f_X10_isSheet a1) fun r1 =>
  if r1 = 0 then (
  some ((-2 : Int32), S)
  ) else (
  cl1 (f_X10_isPair a2 S) fun r3 =>
  if r3 = 0 then (
  some ((-2 : Int32), S)
  ) else (
  gd (inb a1 4) <|
  if 0 ≤ (S.1 15 (ix a1)) then (
  gd (inb a1 4) <|
  cl1 (f_X10_in a3.toInt64 (0 : Int64) (((S.1 16 (ix a1)) - (12 : Int32)).toInt64)) fun r7 =>
  if r7 = 0 then (
  some ((-12 : Int32), S)
  ) else (
  wp2 (X10_load_L55 a1 a2 a3) FU (0 : Int32) S
  )
  ) else (
  some ((-11 : Int32), S)
  )
  )
  )
def X10_image_L121  (self121 : Int32 → Sg → Option (Int32 × Sg)) (v10 : Int32) (S11 : Sg) : Option (Int32 × Sg) :=
  if (8 : Int32) ≤ v10 then (
  some ((S11.1 0 2), S11)
  ) else (
  gd (inb v10 8) <|
  gd (inb ((143 : Int32) + v10) 151) <|
  bv (si S11 18 (ix ((143 : Int32) + v10)) (S11.1 5 (ix v10))) fun S14 =>
  bv (v10 + 1) fun x15 =>
  self121 x15 S14
  )
def X10_image_L92  (k119 : Sg → Option (Int32 × Sg)) (self92 : Int32 → Sg → Option (Int32 × Sg)) (v17 : Int32) (S18 : Sg) : Option (Int32 × Sg) :=
  if (120 : Int32) ≤ v17 then (
  k119 S18
  ) else (
  gd (inb v17 120) <|
  gd (inb ((23 : Int32) + v17) 151) <|
  bv (si S18 18 (ix ((23 : Int32) + v17)) (S18.1 4 (ix v17))) fun S21 =>
  bv (v17 + 1) fun x22 =>
  self92 x22 S21
  )
def X10_image_L37  (k90 : Sg → Option (Int32 × Sg)) (self37 : Int32 → Sg → Option (Int32 × Sg)) (v24 : Int32) (S25 : Sg) : Option (Int32 × Sg) :=
  if (10 : Int32) ≤ v24 then (
  k90 S25
  ) else (
  gd (inb v24 10) <|
  gd (inb ((3 : Int32) + v24) 151) <|
  bv (si S25 18 (ix ((3 : Int32) + v24)) (S25.1 1 (ix v24))) fun S28 =>
  gd (inb v24 10) <|
  gd (inb ((13 : Int32) + v24) 151) <|
  bv (si S28 18 (ix ((13 : Int32) + v24)) (S28.1 2 (ix v24))) fun S31 =>
  gd (inb v24 10) <|
  gd (inb v24 10) <|
  bv (sl S31 19 (ix v24) (S31.2 3 (ix v24))) fun S34 =>
  bv (v24 + 1) fun x35 =>
  self37 x35 S34
  )
def f_X10_image  (S : Sg) : Option (Int32 × Sg) :=
  bv (si S 0 24 (1 : Int32)) fun S1 =>
  gd (inb (0 : Int32) 151) <|
  bv (si S1 18 (ix (0 : Int32)) (S1.1 0 0)) fun S3 =>
  gd (inb (1 : Int32) 151) <|
  bv (si S3 18 (ix (1 : Int32)) (S3.1 0 1)) fun S5 =>
  gd (inb (2 : Int32) 151) <|
  bv (si S5 18 (ix (2 : Int32)) (S5.1 0 2)) fun S7 =>
  wp2 (X10_image_L37  (fun (S8 : Sg) =>
  wp2 (X10_image_L92  (fun (S9 : Sg) =>
  wp2 (X10_image_L121 ) FU (0 : Int32) S9
  )) FU (0 : Int32) S8
  )) FU (0 : Int32) S7
def X10_back_L126  (self126 : Int32 → Sg → Option (Int32 × Sg)) (v9 : Int32) (S10 : Sg) : Option (Int32 × Sg) :=
  if (8 : Int32) ≤ v9 then (
  some ((S10.1 0 2), S10)
  ) else (
  gd (inb ((143 : Int32) + v9) 151) <|
  gd (inb v9 8) <|
  bv (si S10 5 (ix v9) (S10.1 18 (ix ((143 : Int32) + v9)))) fun S13 =>
  bv (v9 + 1) fun x14 =>
  self126 x14 S13
  )
def X10_back_L97  (k124 : Sg → Option (Int32 × Sg)) (self97 : Int32 → Sg → Option (Int32 × Sg)) (v16 : Int32) (S17 : Sg) : Option (Int32 × Sg) :=
  if (120 : Int32) ≤ v16 then (
  k124 S17
  ) else (
  gd (inb ((23 : Int32) + v16) 151) <|
  gd (inb v16 120) <|
  bv (si S17 4 (ix v16) (S17.1 18 (ix ((23 : Int32) + v16)))) fun S20 =>
  bv (v16 + 1) fun x21 =>
  self97 x21 S20
  )
def X10_back_L42  (k95 : Sg → Option (Int32 × Sg)) (self42 : Int32 → Sg → Option (Int32 × Sg)) (v23 : Int32) (S24 : Sg) : Option (Int32 × Sg) :=
  if (10 : Int32) ≤ v23 then (
  k95 S24
  ) else (
  gd (inb ((3 : Int32) + v23) 151) <|
  gd (inb v23 10) <|
  bv (si S24 1 (ix v23) (S24.1 18 (ix ((3 : Int32) + v23)))) fun S27 =>
  gd (inb ((13 : Int32) + v23) 151) <|
  gd (inb v23 10) <|
  bv (si S27 2 (ix v23) (S27.1 18 (ix ((13 : Int32) + v23)))) fun S30 =>
  gd (inb v23 10) <|
  gd (inb v23 10) <|
  bv (sl S30 3 (ix v23) (S30.2 19 (ix v23))) fun S33 =>
  bv (v23 + 1) fun x34 =>
  self42 x34 S33
  )
def f_X10_back  (S : Sg) : Option (Int32 × Sg) :=
  if (S.1 0 24) = 0 then (
  some ((-3 : Int32), S)
  ) else (
  gd (inb (0 : Int32) 151) <|
  bv (si S 0 0 (S.1 18 (ix (0 : Int32)))) fun S2 =>
  gd (inb (1 : Int32) 151) <|
  bv (si S2 0 1 (S2.1 18 (ix (1 : Int32)))) fun S4 =>
  gd (inb (2 : Int32) 151) <|
  bv (si S4 0 2 (S4.1 18 (ix (2 : Int32)))) fun S6 =>
  wp2 (X10_back_L42  (fun (S7 : Sg) =>
  wp2 (X10_back_L97  (fun (S8 : Sg) =>
  wp2 (X10_back_L126 ) FU (0 : Int32) S8
  )) FU (0 : Int32) S7
  )) FU (0 : Int32) S6
  )
def X10_nameMany_L4 (S : Sg) (self4 : Int32 → Int32 → Option (Int32)) (v1 : Int32) (v2 : Int32) : Option (Int32) :=
  if (S.1 0 2) ≤ v2 then (
  some v1
  ) else (
  gd (inb v2 10) <|
  jn (fun (x4 : Int32) =>
  bv (v1 + x4) fun x5 =>
  bv (v2 + 1) fun x6 =>
  self4 x5 x6
  ) fun j29 =>
  if (lg_cmp (S.2 3 (ix v2)) (0 : Int64)) = 0 then (
  j29 (0 : Int32)
  ) else (
  j29 (1 : Int32)
  )
  )
def f_X10_nameMany  (S : Sg) : Option (Int32) :=
  wp2 (X10_nameMany_L4 S) FU (0 : Int32) (0 : Int32)
def X10_linkMany_L4 (S : Sg) (k28 : Int32 → Option (Int32)) (self4 : Int32 → Int32 → Option (Int32)) (v2 : Int32) (v3 : Int32) : Option (Int32) :=
  if (8 : Int32) ≤ v3 then (
  k28 v2
  ) else (
  gd (inb v3 8) <|
  cl1 (f_X10_many (S.1 5 (ix v3))) fun r5 =>
  bv (v2 + r5) fun x7 =>
  bv (v3 + 1) fun x8 =>
  self4 x7 x8
  )
def f_X10_linkMany  (S : Sg) : Option (Int32) :=
  wp2 (X10_linkMany_L4 S (fun (v1 : Int32) =>
  some (v1 / (2 : Int32))
  )) FU (0 : Int32) (0 : Int32)
def f_X10_count (a1 : Int32) (S : Sg) : Option (Int32) :=
  if a1 = 0 then (
  some (S.1 0 2)
  ) else 
  if a1 = 1 then (
  some (S.1 0 0)
  ) else 
  if a1 = 2 then (
  some (S.1 0 1)
  ) else 
  if a1 = 3 then (
  cl1 (f_X10_nameMany S) fun r5 =>
  some r5
  ) else 
  if a1 = 4 then (
  cl1 (f_X10_linkMany S) fun r8 =>
  some r8
  ) else 
  some (-2 : Int32)
