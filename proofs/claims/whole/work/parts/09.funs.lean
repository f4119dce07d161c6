def fX6_hasPaper (h : aH) (a0 : Nat) (x1 : Int32) : Option Bool :=
  (if x1 < 0 then
    some false
   else
    (if (h a0 6) ≤ x1 then
      some false
     else
      some true))

def fX0_put (h : aH) (a0 : Nat) (x1 : Int32) (x2 : Int32) (x3 : Int32) (x4 : Int32) : Option aH :=
  (if x1 < 0 then
    some h
   else
    (if 4 ≤ x1 then
      some h
     else
      (if ck x1 4 = true then
        (if (h (a0 + 1) (tn x1)) < 0 then
          some h
         else
          (if (h (a0 + 1) (tn x1)) < 12 then
            (if ck ((x1 * 12) + (h (a0 + 1) (tn x1))) 48 = true then
              some (aU (aU (aU (aU h (a0 + 2) (tn ((x1 * 12) + (h (a0 + 1) (tn x1)))) x3) (a0 + 3) (tn ((x1 * 12) + (h (a0 + 1) (tn x1)))) x2) (a0 + 4) (tn ((x1 * 12) + (h (a0 + 1) (tn x1)))) x4) (a0 + 1) (tn x1) ((h (a0 + 1) (tn x1)) + 1))
             else none)
           else
            some h))
       else none)))

def fX0_beginPaper_L3 (K : aH → Option aH) (a0 : Nat) (x1 : Int32) (x2 : Int32) (x3 : Int32) (x4 : Int32) : Nat → aH → Int32 → Option aH
  | 0, _, _ => none
  | n + 1, h, x5 =>
    (if x4 ≤ x5 then
      K h
     else
      (if 96 ≤ (x3 + x5) then
        K h
       else
        (bn (fX0_put h a0 x1 x2 (x3 + x5) (-1)) (fun h4 =>
          fX0_beginPaper_L3 K a0 x1 x2 x3 x4 n h4 (x5 + 1)))))

def fX0_beginPaper (h : aH) (a0 : Nat) (x1 : Int32) (x2 : Int32) (x3 : Int32) (x4 : Int32) : Option aH :=
  (fX0_beginPaper_L3   (fun h5 =>
      some h5)
    a0 x1 x2 x3 x4 1000 h 0)

def fX0_beginAs_L7 (K : aH → Option aH) (a0 : Nat) (a1 : Nat) : Nat → aH → Int32 → Option aH
  | 0, _, _ => none
  | n + 1, h, x2 =>
    (if 4 ≤ x2 then
      K h
     else
      (if ck x2 4 = true then
        (bn (fX6_hasPaper (aU h (a0 + 1) (tn x2) 0) a1 x2) (fun r4 =>
          (if (bi r4) = 0 then
            fX0_beginAs_L7 K a0 a1 n (aU h (a0 + 1) (tn x2) 0) (x2 + 1)
           else
            (bn (fX0_beginPaper (aU h (a0 + 1) (tn x2) 0) a0 x2 ((aU h (a0 + 1) (tn x2) 0) (a1 + 5) (tn x2)) ((aU h (a0 + 1) (tn x2) 0) (a1 + 6) (tn x2)) ((aU h (a0 + 1) (tn x2) 0) (a1 + 7) (tn x2))) (fun h7 =>
              fX0_beginAs_L7 K a0 a1 n h7 (x2 + 1))))))
       else none))

def fX0_beginAs (h : aH) (a0 : Nat) (a1 : Nat) : Option aH :=
  (fX0_beginAs_L7   (fun h8 =>
      some h8)
    a0 a1 1000 (aU h a0 4 (-1)) 0)

def fX0_copyFrom (h : aH) (a0 : Nat) (a1 : Nat) : Option aH :=
  (bn (some (aV h (a0 + 1) (cpy (h (a1 + 1)) (h (a0 + 1)) 4))) (fun h1 =>
    (bn (some (aV h1 (a0 + 2) (cpy (h1 (a1 + 2)) (h1 (a0 + 2)) 48))) (fun h3 =>
      (bn (some (aV h3 (a0 + 3) (cpy (h3 (a1 + 3)) (h3 (a0 + 3)) 48))) (fun h5 =>
        (bn (some (aV h5 (a0 + 4) (cpy (h5 (a1 + 4)) (h5 (a0 + 4)) 48))) (fun h7 =>
          some (aU (aU h7 a0 4 (h7 a1 4)) a0 5 ((aU h7 a0 4 (h7 a1 4)) a1 5))))))))))

def fX0_countOf (h : aH) (a0 : Nat) (x1 : Int32) : Option Int32 :=
  (if x1 < 0 then
    some 0
   else
    (if 4 ≤ x1 then
      some 0
     else
      (if ck x1 4 = true then
        some (h (a0 + 1) (tn x1))
       else none)))

def fX0_countAll_L4 (K : Int32 → Option Int32) (h : aH) (a0 : Nat) : Nat → Int32 → Int32 → Option Int32
  | 0, _, _ => none
  | n + 1, x1, x2 =>
    (if 4 ≤ x2 then
      K x1
     else
      (if ck x2 4 = true then
        fX0_countAll_L4 K h a0 n (x1 + (h (a0 + 1) (tn x2))) (x2 + 1)
       else none))

def fX0_countAll (h : aH) (a0 : Nat) : Option Int32 :=
  (fX0_countAll_L4   (fun z3 =>
      some z3)
    h a0 1000 0 0)

def fX0_hasLetter (h : aH) (a0 : Nat) (x1 : Int32) (x2 : Int32) : Option Bool :=
  (if x1 < 0 then
    some false
   else
    (if 4 ≤ x1 then
      some false
     else
      (if x2 < 0 then
        some false
       else
        (if 12 ≤ x2 then
          some false
         else
          (if ck x1 4 = true then
            (if (h (a0 + 1) (tn x1)) ≤ x2 then
              some false
             else
              some true)
           else none)))))

def fX0_airOf (h : aH) (a0 : Nat) (x1 : Int32) (x2 : Int32) : Option Int32 :=
  (bn (fX0_hasLetter h a0 x1 x2) (fun r2 =>
    (if (bi r2) = 0 then
      some (-1)
     else
      (if ck ((x1 * 12) + x2) 48 = true then
        some (h (a0 + 4) (tn ((x1 * 12) + x2)))
       else none))))

def fX0_isForged (h : aH) (a0 : Nat) (x1 : Int32) (x2 : Int32) : Option Bool :=
  (bn (fX0_airOf h a0 x1 x2) (fun r2 =>
    (if r2 = (-1) then
      some false
     else
      some true)))

def fX0_countForged_L11 (K : Int32 → Option Int32) (h : aH) (a0 : Nat) (x1 : Int32) (x2 : Int32) : Nat → Int32 → Int32 → Option Int32
  | 0, _, _ => none
  | n + 1, x3, x4 =>
    (if x2 ≤ x4 then
      K x3
     else
      (bn (fX0_isForged h a0 x1 x4) (fun r5 =>
        (if (bi r5) = 0 then
          fX0_countForged_L11 K h a0 x1 x2 n x3 (x4 + 1)
         else
          fX0_countForged_L11 K h a0 x1 x2 n (x3 + 1) (x4 + 1)))))

def fX0_countForged (h : aH) (a0 : Nat) (x1 : Int32) : Option Int32 :=
  (bn (fX0_countOf h a0 x1) (fun r2 =>
    (fX0_countForged_L11   (fun z7 =>
        some z7)
      h a0 x1 r2 1000 0 0)))

def fX0_isFull (h : aH) (a0 : Nat) (x1 : Int32) : Option Bool :=
  (bn (fX0_countOf h a0 x1) (fun r2 =>
    (if r2 < 12 then
      some false
     else
      some true)))

def fX0_hourOf (h : aH) (a0 : Nat) (x1 : Int32) (x2 : Int32) : Option Int32 :=
  (bn (fX0_hasLetter h a0 x1 x2) (fun r2 =>
    (if (bi r2) = 0 then
      some (-1)
     else
      (if ck ((x1 * 12) + x2) 48 = true then
        some (h (a0 + 2) (tn ((x1 * 12) + x2)))
       else none))))

def fX0_writerOf (h : aH) (a0 : Nat) (x1 : Int32) (x2 : Int32) : Option Int32 :=
  (bn (fX0_hasLetter h a0 x1 x2) (fun r2 =>
    (if (bi r2) = 0 then
      some (-1)
     else
      (if ck ((x1 * 12) + x2) 48 = true then
        some (h (a0 + 3) (tn ((x1 * 12) + x2)))
       else none))))

def fX6_hasHand (h : aH) (a0 : Nat) (x1 : Int32) : Option Bool :=
  (if x1 < 0 then
    some false
   else
    (if (h a0 5) ≤ x1 then
      some false
     else
      some true))

def fX7_isHour (x0 : Int32) : Option Bool :=
  (if x0 < 0 then
    some false
   else
    (if 96 ≤ x0 then
      some false
     else
      some true))

def fX6_lookAt (h : aH) (a0 : Nat) (x1 : Int32) (x2 : Int32) : Option Int32 :=
  (bn (fX6_hasHand h a0 x1) (fun r2 =>
    (if (bi r2) = 0 then
      some (-1)
     else
      (bn (fX7_isHour x2) (fun r5 =>
        (if (bi r5) = 0 then
          some (-1)
         else
          (if ck ((x1 * 96) + x2) 384 = true then
            some (h (a0 + 8) (tn ((x1 * 96) + x2)))
           else none)))))))

def fX0_lookOf (h : aH) (a0 : Nat) (a1 : Nat) (x2 : Int32) (x3 : Int32) : Option Int32 :=
  (bn (fX0_hasLetter h a0 x2 x3) (fun r2 =>
    (if (bi r2) = 0 then
      some (-1)
     else
      (if ck ((x2 * 12) + x3) 48 = true then
        (if (h (a0 + 4) (tn ((x2 * 12) + x3))) = (-1) then
          (bn (fX6_lookAt h a1 (h (a0 + 3) (tn ((x2 * 12) + x3))) (h (a0 + 2) (tn ((x2 * 12) + x3)))) (fun r7 =>
            some r7))
         else
          (bn (fX6_lookAt h a1 (h (a0 + 3) (tn ((x2 * 12) + x3))) (h (a0 + 4) (tn ((x2 * 12) + x3)))) (fun r9 =>
            some r9)))
       else none))))

def fX0_looksAsBy (h : aH) (a0 : Nat) (a1 : Nat) (x2 : Int32) (x3 : Int32) (x4 : Int32) : Option Bool :=
  (bn (fX0_lookOf h a0 a1 x2 x3) (fun r2 =>
    (bn (fX0_hourOf h a0 x2 x3) (fun r4 =>
      (bn (fX6_lookAt h a1 x4 r4) (fun r6 =>
        (if r2 = r6 then
          some true
         else
          some false)))))))

def fX0_countAsBy_L13 (K : Int32 → Option Int32) (h : aH) (a0 : Nat) (a1 : Nat) (x2 : Int32) (x3 : Int32) (x4 : Int32) : Nat → Int32 → Int32 → Option Int32
  | 0, _, _ => none
  | n + 1, x5, x6 =>
    (if x4 ≤ x6 then
      K x5
     else
      (bn (fX0_looksAsBy h a0 a1 x2 x6 x3) (fun r5 =>
        (if (bi r5) = 0 then
          fX0_countAsBy_L13 K h a0 a1 x2 x3 x4 n (x5 + 0) (x6 + 1)
         else
          fX0_countAsBy_L13 K h a0 a1 x2 x3 x4 n (x5 + 1) (x6 + 1)))))

def fX0_countAsBy (h : aH) (a0 : Nat) (a1 : Nat) (x2 : Int32) (x3 : Int32) : Option Int32 :=
  (bn (fX0_countOf h a0 x2) (fun r2 =>
    (fX0_countAsBy_L13   (fun z7 =>
        some z7)
      h a0 a1 x2 x3 r2 1000 0 0)))

def fX0_dropLast (h : aH) (a0 : Nat) (x1 : Int32) : Option aH :=
  (bn (fX0_countOf h a0 x1) (fun r2 =>
    (if r2 ≤ 0 then
      some h
     else
      (if ck x1 4 = true then
        some (aU h (a0 + 1) (tn x1) ((h (a0 + 1) (tn x1)) - 1))
       else none))))

def fX0_draw (h : aH) (a0 : Nat) (x1 : Int32) : Option (Int32 × aH) :=
  (if 1 ≤ x1 then
    (if ¬ x1 = 0 then
      some (rmd ((Int64.toInt32 (rmdL (((Int32.toInt64 (h a0 5)) * 1103515245) + 12345) 2147483648)) / 65536) x1, (aU h a0 5 (Int64.toInt32 (rmdL (((Int32.toInt64 (h a0 5)) * 1103515245) + 12345) 2147483648))))
     else none)
   else
    some (0, h))

def fX0_rowFrom_L10 (K : Int32 → Option Int32) (h : aH) (a0 : Nat) (a1 : Nat) (x2 : Int32) (x3 : Int32) (x4 : Int32) (x5 : Int32) (x6 : Int32) : Nat → Int32 → Option Int32
  | 0, _ => none
  | n + 1, x7 =>
    (if x6 ≤ (x3 + x7) then
      K x7
     else
      (if 96 ≤ (x5 + x7) then
        K x7
       else
        (bn (fX0_lookOf h a0 a1 x2 (x3 + x7)) (fun r6 =>
          (bn (fX6_lookAt h a1 x4 (x5 + x7)) (fun r8 =>
            (if r6 = r8 then
              fX0_rowFrom_L10 K h a0 a1 x2 x3 x4 x5 x6 n (x7 + 1)
             else
              K x7)))))))

def fX0_rowFrom (h : aH) (a0 : Nat) (a1 : Nat) (x2 : Int32) (x3 : Int32) (x4 : Int32) (x5 : Int32) : Option Int32 :=
  (bn (fX0_countOf h a0 x2) (fun r2 =>
    (fX0_rowFrom_L10   (fun z10 =>
        some z10)
      h a0 a1 x2 x3 x4 x5 r2 1000 0)))

def fX0_longestRow_L6 (K : Int32 → Option Int32) (h : aH) (a0 : Nat) (a1 : Nat) (x2 : Int32) (x3 : Int32) (x4 : Int32) : Nat → Int32 → Int32 → Option Int32
  | 0, _, _ => none
  | n + 1, x5, x6 =>
    (if 96 ≤ x6 then
      K x5
     else
      (bn (fX0_rowFrom h a0 a1 x2 x3 x4 x6) (fun r3 =>
        fX0_longestRow_L6 K h a0 a1 x2 x3 x4 n (if x5 < r3 then r3 else x5) (x6 + 1))))

def fX0_longestRow (h : aH) (a0 : Nat) (a1 : Nat) (x2 : Int32) (x3 : Int32) (x4 : Int32) : Option Int32 :=
  (fX0_longestRow_L6   (fun z4 =>
      some z4)
    h a0 a1 x2 x3 x4 1000 0 0)

def fX0_fewestRows_L16 (K : Int32 → Option Int32) (h : aH) (a0 : Nat) (a1 : Nat) (x2 : Int32) (x3 : Int32) (x4 : Int32) : Nat → Int32 → Int32 → Int32 → Option Int32
  | 0, _, _, _ => none
  | n + 1, x5, x6, x7 =>
    (if 12 ≤ x7 then
      K x5
     else
      (if x4 ≤ x6 then
        K x5
       else
        (bn (fX0_longestRow h a0 a1 x2 x6 x3) (fun r6 =>
          (if 1 ≤ r6 then
            fX0_fewestRows_L16 K h a0 a1 x2 x3 x4 n (x5 + 1) (x6 + r6) (x7 + 1)
           else
            some (-1))))))

def fX0_fewestRows (h : aH) (a0 : Nat) (a1 : Nat) (x2 : Int32) (x3 : Int32) : Option Int32 :=
  (bn (fX0_countOf h a0 x2) (fun r2 =>
    (fX0_fewestRows_L16   (fun z8 =>
        some z8)
      h a0 a1 x2 x3 r2 1000 0 0 0)))

def fX6_windAt (h : aH) (a0 : Nat) (x1 : Int32) : Option Int32 :=
  some (rmd ((h a0 1) * x1) 8)

def fX6_dampAt (h : aH) (a0 : Nat) (x1 : Int32) (x2 : Int32) : Option Int32 :=
  some (if (((h a0 2) + x2) + (if 0 < (((rmd x1 12) - (h a0 3)) + 1) then (((rmd x1 12) - (h a0 3)) + 1) else 0)) < 19 then (((h a0 2) + x2) + (if 0 < (((rmd x1 12) - (h a0 3)) + 1) then (((rmd x1 12) - (h a0 3)) + 1) else 0)) else 19)

def fX6_lightAt (h : aH) (a0 : Nat) (x1 : Int32) : Option Int32 :=
  (if (h a0 3) ≤ (rmd x1 12) then
    some 0
   else
    some 1)

def fX6_makeLook (h : aH) (a0 : Nat) (x1 : Int32) (x2 : Int32) (x3 : Int32) : Option Int32 :=
  (bn (fX6_hasHand h a0 x1) (fun r2 =>
    (if (bi r2) = 0 then
      some (-1)
     else
      (if ck x1 4 = true then
        (bn (fX6_windAt h a0 x2) (fun r6 =>
          (bn (fX6_dampAt h a0 x2 x3) (fun r8 =>
            (bn (fX6_lightAt h a0 x2) (fun r10 =>
              (if r10 = 1 then
                some (((1000 * (rmd ((h (a0 + 2) (tn x1)) + r6) 9)) + (10 * (if ((h (a0 + 3) (tn x1)) + (r8 / 2)) < 15 then ((h (a0 + 3) (tn x1)) + (r8 / 2)) else 15))) + (if ((h (a0 + 4) (tn x1)) + 0) < 9 then ((h (a0 + 4) (tn x1)) + 0) else 9))
               else
                some (((1000 * (rmd ((h (a0 + 2) (tn x1)) + r6) 9)) + (10 * (if ((h (a0 + 3) (tn x1)) + (r8 / 2)) < 15 then ((h (a0 + 3) (tn x1)) + (r8 / 2)) else 15))) + (if ((h (a0 + 4) (tn x1)) + 2) < 9 then ((h (a0 + 4) (tn x1)) + 2) else 9)))))))))
       else none))))

def fX0_fitsRain_L20 (K : Unit → Option Bool) (h : aH) (a0 : Nat) (a1 : Nat) (x2 : Int32) (x3 : Int32) (x4 : Int32) (x5 : Int32) : Nat → Int32 → Option Bool
  | 0, _ => none
  | n + 1, x6 =>
    (if x5 ≤ x6 then
      K ()
     else
      (bn (fX0_hourOf h a0 x4 x6) (fun r6 =>
        (if (r6 / 12) = x2 then
          (bn (fX0_isForged h a0 x4 x6) (fun r9 =>
            (if (bi r9) = 0 then
              (bn (fX0_lookOf h a0 a1 x4 x6) (fun r12 =>
                (bn (fX0_writerOf h a0 x4 x6) (fun r14 =>
                  (bn (fX6_makeLook h a1 r14 r6 x3) (fun r16 =>
                    (if r12 = r16 then
                      fX0_fitsRain_L20 K h a0 a1 x2 x3 x4 x5 n (x6 + 1)
                     else
                      some false)))))))
             else
              fX0_fitsRain_L20 K h a0 a1 x2 x3 x4 x5 n (x6 + 1))))
         else
          fX0_fitsRain_L20 K h a0 a1 x2 x3 x4 x5 n (x6 + 1)))))

def fX0_fitsRain_L3 (K : Unit → Option Bool) (h : aH) (a0 : Nat) (a1 : Nat) (x2 : Int32) (x3 : Int32) : Nat → Int32 → Option Bool
  | 0, _ => none
  | n + 1, x4 =>
    (if 4 ≤ x4 then
      K ()
     else
      (bn (fX0_countOf h a0 x4) (fun r3 =>
        (fX0_fitsRain_L20   (fun (_ : Unit) =>
            fX0_fitsRain_L3 K h a0 a1 x2 x3 n (x4 + 1))
          h a0 a1 x2 x3 x4 r3 1000 0))))

def fX0_fitsRain (h : aH) (a0 : Nat) (a1 : Nat) (x2 : Int32) (x3 : Int32) : Option Bool :=
  (fX0_fitsRain_L3   (fun (_ : Unit) =>
      some true)
    h a0 a1 x2 x3 1000 0)

def fX1_fits_L10 (K : Unit → Option Bool) (h : aH) (a0 : Nat) (a1 : Nat) (x2 : Int32) (x3 : Int32) (x4 : Int32) (x5 : Int32) (x6 : Int32) : Nat → Int32 → Option Bool
  | 0, _ => none
  | n + 1, x7 =>
    (if x6 ≤ x7 then
      K ()
     else
      (if ((x3 >>> (x7 &&& 31)) &&& 1) = 1 then
        (bn (fX0_lookOf h a1 a0 x2 x7) (fun r6 =>
          (bn (fX6_lookAt h a0 x4 (x5 + x7)) (fun r8 =>
            (if r6 = r8 then
              fX1_fits_L10 K h a0 a1 x2 x3 x4 x5 x6 n (x7 + 1)
             else
              some false)))))
       else
        fX1_fits_L10 K h a0 a1 x2 x3 x4 x5 x6 n (x7 + 1)))

def fX1_fits (h : aH) (a0 : Nat) (a1 : Nat) (x2 : Int32) (x3 : Int32) (x4 : Int32) (x5 : Int32) : Option Bool :=
  (bn (fX0_countOf h a1 x2) (fun r2 =>
    (fX1_fits_L10   (fun (_ : Unit) =>
        some true)
      h a0 a1 x2 x3 x4 x5 r2 1000 0)))

def fX1_gather_L27 (K : aH → Option aH) (a1 : Nat) (a2 : Nat) (x3 : Int32) (x4 : Int32) (x5 : Int32) (x6 : Int32) : Nat → aH → Int32 → Option aH
  | 0, _, _ => none
  | n + 1, h, x7 =>
    (if 96 ≤ x7 then
      K h
     else
      (if 96 < (x7 + x5) then
        K h
       else
        (if 384 ≤ (h 28 4) then
          fX1_gather_L27 K a1 a2 x3 x4 x5 x6 n h (x7 + 1)
         else
          (bn (fX1_fits h a1 a2 x3 x4 x6 x7) (fun r8 =>
            (if (bi r8) = 0 then
              fX1_gather_L27 K a1 a2 x3 x4 x5 x6 n h (x7 + 1)
             else
              (if ck (h 28 4) 384 = true then
                fX1_gather_L27 K a1 a2 x3 x4 x5 x6 n (aU (aU (aU h 29 (tn (h 28 4)) x6) 30 (tn (h 28 4)) x7) 28 4 ((h 28 4) + 1)) (x7 + 1)
               else none)))))))

def fX1_gather_L15 (K : aH → Option aH) (a1 : Nat) (a2 : Nat) (x3 : Int32) (x4 : Int32) (x5 : Int32) : Nat → aH → Int32 → Option aH
  | 0, _, _ => none
  | n + 1, h, x6 =>
    (if (h a1 5) ≤ x6 then
      K h
     else
      (fX1_gather_L27   (fun h11 =>
          fX1_gather_L15 K a1 a2 x3 x4 x5 n h11 (x6 + 1))
        a1 a2 x3 x4 x5 x6 1000 h 0))

def fX1_gather (h : aH) (a1 : Nat) (a2 : Nat) (x3 : Int32) (x4 : Int32) : Option aH :=
  (bn (fX0_countOf (aU h 28 4 0) a2 x3) (fun r2 =>
    (fX1_gather_L15   (fun h12 =>
        some h12)
      a1 a2 x3 x4 r2 1000 (aU h 28 4 0) 0)))

def fX1_kindOfLook (x0 : Int32) : Option Int32 :=
  (if (((((x0 / 1000) * 16) + ((rmd x0 1000) / 10)) * 10) + (rmd x0 10)) < 0 then
    some 0
   else
    (if (((((x0 / 1000) * 16) + ((rmd x0 1000) / 10)) * 10) + (rmd x0 10)) < 1440 then
      some (((((x0 / 1000) * 16) + ((rmd x0 1000) / 10)) * 10) + (rmd x0 10))
     else
      some 0))

def fX1_greatestPart_L2 (K : aH → Option (Int32 × aH)) (a1 : Nat) (x2 : Int32) : Nat → aH → Int32 → Option (Int32 × aH)
  | 0, _, _ => none
  | n + 1, h, x3 =>
    (if (h 28 4) ≤ x3 then
      K h
     else
      (if ck x3 384 = true then
        (bn (fX6_lookAt h a1 (h 29 (tn x3)) ((h 30 (tn x3)) + x2)) (fun r4 =>
          (bn (fX1_kindOfLook r4) (fun r6 =>
            (if ck r6 1440 = true then
              fX1_greatestPart_L2 K a1 x2 n (aU (aU h 31 (tn x3) r6) 32 (tn r6) 0) (x3 + 1)
             else none)))))
       else none))

def fX1_greatestPart_L60 (K : aH → Int32 → Option (Int32 × aH)) : Nat → aH → Int32 → Int32 → Option (Int32 × aH)
  | 0, _, _, _ => none
  | n + 1, h, x3, x4 =>
    (if (h 28 4) ≤ x4 then
      K h x3
     else
      (if ck x4 384 = true then
        (if ck (h 31 (tn x4)) 1440 = true then
          fX1_greatestPart_L60 K n (aU h 32 (tn (h 31 (tn x4))) ((h 32 (tn (h 31 (tn x4)))) + 1)) (if x3 < ((h 32 (tn (h 31 (tn x4)))) + 1) then ((h 32 (tn (h 31 (tn x4)))) + 1) else x3) (x4 + 1)
         else none)
       else none))

def fX1_greatestPart (h : aH) (a1 : Nat) (x2 : Int32) : Option (Int32 × aH) :=
  (fX1_greatestPart_L2   (fun h8 =>
      (fX1_greatestPart_L60   (fun h13 z12 =>
          some (z12, h13))
        1000 h8 0 0))
    a1 x2 1000 h 0)

def fX1_bestLetter_L11 (K : aH → Int32 → Option (Int32 × aH)) (a1 : Nat) (x2 : Int32) : Nat → aH → Int32 → Int32 → Int32 → Option (Int32 × aH)
  | 0, _, _, _, _ => none
  | n + 1, h, x3, x4, x5 =>
    (if x2 ≤ x5 then
      K h x3
     else
      (bn2 (fX1_greatestPart h a1 x5) (fun r4 h3 =>
        (if x4 ≤ r4 then
          fX1_bestLetter_L11 K a1 x2 n h3 x3 x4 (x5 + 1)
         else
          fX1_bestLetter_L11 K a1 x2 n h3 x5 r4 (x5 + 1)))))

def fX1_bestLetter (h : aH) (a1 : Nat) (x2 : Int32) : Option (Int32 × aH) :=
  (fX1_bestLetter_L11   (fun h7 z6 =>
      some (z6, h7))
    a1 x2 1000 h (-1) (h 28 4) 0)

def fX2_enter (h : aH) (x1 : Int32) (x2 : Int32) (x3 : Int32) : Option (Int32 × aH) :=
  (if (h 24 3) < 0 then
    some ((-1000000004), h)
   else
    (if (h 24 3) < 20 then
      (if ck (h 24 3) 20 = true then
        some ((h 24 3) + 1, (aU (aU (aU (aU h 25 (tn (h 24 3)) x1) 26 (tn (h 24 3)) x2) 27 (tn (h 24 3)) x3) 24 3 ((h 24 3) + 1)))
       else none)
     else
      some ((-1000000004), h)))

def fX2_firstWrong_L2 (K : Unit → Option Int32) (h : aH) (a1 : Nat) (a2 : Nat) : Nat → Int32 → Option Int32
  | 0, _ => none
  | n + 1, x3 =>
    (if (h 24 3) ≤ x3 then
      K ()
     else
      (if 20 ≤ x3 then
        K ()
       else
        (if ck x3 20 = true then
          (bn (fX0_hasLetter h a2 (h 25 (tn x3)) (h 26 (tn x3))) (fun r5 =>
            (if (bi r5) = 0 then
              some x3
             else
              (bn (fX0_lookOf h a2 a1 (h 25 (tn x3)) (h 26 (tn x3))) (fun r8 =>
                (if r8 = (h 27 (tn x3)) then
                  fX2_firstWrong_L2 K h a1 a2 n (x3 + 1)
                 else
                  some x3))))))
         else none)))

def fX2_firstWrong (h : aH) (a1 : Nat) (a2 : Nat) : Option Int32 :=
  (fX2_firstWrong_L2   (fun (_ : Unit) =>
      some (-1))
    h a1 a2 1000 0)

def fX3_forget (h : aH) : Option aH :=
  some (aU h 18 6 0)

def fX3_begin (h : aH) (x1 : Int32) : Option aH :=
  (if (h 18 5) < 0 then
    some (aU (aU (aU h 18 5 0) 19 0 x1) 18 6 (if ((h 18 6) + 1) < 30 then ((h 18 6) + 1) else 30))
   else
    (if (h 18 5) < 29 then
      (if ck ((h 18 5) + 1) 30 = true then
        some (aU (aU (aU h 18 5 ((h 18 5) + 1)) 19 (tn ((h 18 5) + 1)) x1) 18 6 (if ((h 18 6) + 1) < 30 then ((h 18 6) + 1) else 30))
       else none)
     else
      some (aU (aU (aU h 18 5 0) 19 0 x1) 18 6 (if ((h 18 6) + 1) < 30 then ((h 18 6) + 1) else 30))))

def fX3_noteAdded (h : aH) (x1 : Int32) : Option aH :=
  (bn (fX3_begin h 0) (fun h2 =>
    (if ck (h2 18 5) 30 = true then
      some (aU h2 20 (tn (h2 18 5)) x1)
     else none)))

def fX3_noteBlotted (h : aH) (x1 : Int32) (x2 : Int32) (x3 : Int32) (x4 : Int32) : Option aH :=
  (bn (fX3_begin h 1) (fun h2 =>
    (if ck (h2 18 5) 30 = true then
      some (aU (aU (aU (aU h2 20 (tn (h2 18 5)) x1) 21 (tn (h2 18 5)) x2) 22 (tn (h2 18 5)) x3) 23 (tn (h2 18 5)) x4)
     else none)))

def fX3_noteBottled (h : aH) (x1 : Int32) : Option aH :=
  (bn (fX3_begin h 2) (fun h2 =>
    (if ck (h2 18 5) 30 = true then
      some (aU h2 23 (tn (h2 18 5)) x1)
     else none)))

def fX3_takeBackLast (h : aH) (a1 : Nat) : Option aH :=
  (if (h 18 6) < 1 then
    some h
   else
    (if (h 18 5) < 0 then
      some h
     else
      (if (h 18 5) < 30 then
        (if ck (h 18 5) 30 = true then
          (if (h 19 (tn (h 18 5))) = 0 then
            (bn (fX0_dropLast h a1 (h 20 (tn (h 18 5)))) (fun h7 =>
              (if (h7 18 5) = 0 then
                some (aU (aU h7 18 5 29) 18 6 ((h7 18 6) - 1))
               else
                some (aU (aU h7 18 5 ((h7 18 5) - 1)) 18 6 ((h7 18 6) - 1)))))
           else
            (if (h 19 (tn (h 18 5))) = 1 then
              (bn (fX0_put h a1 (h 20 (tn (h 18 5))) (h 21 (tn (h 18 5))) (h 22 (tn (h 18 5))) (h 23 (tn (h 18 5)))) (fun h11 =>
                (if (h11 18 5) = 0 then
                  some (aU (aU h11 18 5 29) 18 6 ((h11 18 6) - 1))
                 else
                  some (aU (aU h11 18 5 ((h11 18 5) - 1)) 18 6 ((h11 18 6) - 1)))))
             else
              (if ((aU h a1 4 (h 23 (tn (h 18 5)))) 18 5) = 0 then
                some (aU (aU (aU h a1 4 (h 23 (tn (h 18 5)))) 18 5 29) 18 6 (((aU h a1 4 (h 23 (tn (h 18 5)))) 18 6) - 1))
               else
                some (aU (aU (aU h a1 4 (h 23 (tn (h 18 5)))) 18 5 (((aU h a1 4 (h 23 (tn (h 18 5)))) 18 5) - 1)) 18 6 (((aU h a1 4 (h 23 (tn (h 18 5)))) 18 6) - 1)))))
         else none)
       else
        some h)))

def fX4_compare_L13 (K : aH → Option aH) (a1 : Nat) (a2 : Nat) (x3 : Int32) : Nat → aH → Int32 → Option aH
  | 0, _, _ => none
  | n + 1, h, x4 =>
    (if (h a1 5) ≤ x4 then
      K h
     else
      (bn (fX0_countAsBy h a2 a1 x3 x4) (fun r4 =>
        (if ck ((x3 * 4) + x4) 16 = true then
          fX4_compare_L13 K a1 a2 x3 n (aU h 34 (tn ((x3 * 4) + x4)) r4) (x4 + 1)
         else none))))

def fX4_compare_L2 (K : aH → Option aH) (a1 : Nat) (a2 : Nat) : Nat → aH → Int32 → Option aH
  | 0, _, _ => none
  | n + 1, h, x3 =>
    (if (h a1 6) ≤ x3 then
      K h
     else
      (fX4_compare_L13   (fun h6 =>
          fX4_compare_L2 K a1 a2 n h6 (x3 + 1))
        a1 a2 x3 1000 h 0))

def fX4_compare (h : aH) (a1 : Nat) (a2 : Nat) : Option aH :=
  (fX4_compare_L2   (fun h7 =>
      some h7)
    a1 a2 1000 h 0)

def fX4_handIn (x0 : Int32) (x1 : Int32) (x2 : Int32) : Option Int32 :=
  some ((x0 >>> ((2 * ((x2 - 1) - x1)) &&& 31)) &&& 3)

def fX4_likenessOf_L9 (K : Int32 → Option Int32) (h : aH) (x1 : Int32) (x2 : Int32) (x3 : Int32) : Nat → Int32 → Int32 → Int32 → Option Int32
  | 0, _, _, _ => none
  | n + 1, x4, x5, x6 =>
    (if x2 ≤ x6 then
      K x5
     else
      (bn (fX4_handIn x1 x6 x2) (fun r3 =>
        (if x3 ≤ r3 then
          some (-1)
         else
          (if ((x4 >>> (r3 &&& 31)) &&& 1) = 1 then
            some (-1)
           else
            (if ck ((x6 * 4) + r3) 16 = true then
              fX4_likenessOf_L9 K h x1 x2 x3 n (x4 ||| (1 <<< (r3 &&& 31))) (x5 + (h 34 (tn ((x6 * 4) + r3)))) (x6 + 1)
             else none))))))

def fX4_likenessOf (h : aH) (x1 : Int32) (x2 : Int32) (x3 : Int32) : Option Int32 :=
  (fX4_likenessOf_L9   (fun z7 =>
      some z7)
    h x1 x2 x3 1000 0 0 0)

def fX4_search_L23 (K : aH → Option aH) (x1 : Int32) (x2 : Int32) (x3 : Int32) : Nat → aH → Int32 → Option aH
  | 0, _, _ => none
  | n + 1, h, x4 =>
    (if x3 ≤ x4 then
      K h
     else
      (bn (fX4_likenessOf h x4 x1 x2) (fun r3 =>
        (if r3 ≤ (h 33 1) then
          fX4_search_L23 K x1 x2 x3 n h (x4 + 1)
         else
          fX4_search_L23 K x1 x2 x3 n (aU (aU h 33 1 r3) 33 2 x4) (x4 + 1)))))

def fX4_search (h : aH) (x1 : Int32) (x2 : Int32) : Option aH :=
  (fX4_search_L23   (fun h5 =>
      some h5)
    x1 x2 (1 <<< ((2 * (if x1 < 4 then x1 else 4)) &&& 31)) 1000 (aU (aU h 33 1 (-1)) 33 2 0) 0)

def fX4_handOf (h : aH) (x1 : Int32) (x2 : Int32) : Option Int32 :=
  (bn (fX4_handIn (h 33 2) x1 x2) (fun r2 =>
    some r2))

def fX5_take (h : aH) (x1 : Int32) : Option (Int32 × aH) :=
  (if (h 1 1) < 0 then
    some ((-1000000004), h)
   else
    (if (h 1 1) < 230 then
      (if ck (h 1 1) 230 = true then
        some ((h 1 1) + 1, (aU (aU h 2 (tn (h 1 1)) x1) 1 1 ((h 1 1) + 1)))
       else none)
     else
      some ((-1000000004), h)))

def fX5_current (h : aH) : Option Int32 :=
  (if (h 1 2) < 0 then
    some (-1)
   else
    (if (h 1 1) ≤ (h 1 2) then
      some (-1)
     else
      (if 230 ≤ (h 1 2) then
        some (-1)
       else
        (if ck (h 1 2) 230 = true then
          some (h 2 (tn (h 1 2)))
         else none))))

def fX5_skipBlanks_L0 (K : aH → Option aH) : Nat → aH → Option aH
  | 0, _ => none
  | n + 1, h =>
    (if (h 1 1) ≤ (h 1 2) then
      K h
     else
      (bn (fX5_current h) (fun r3 =>
        (if r3 = 32 then
          fX5_skipBlanks_L0 K n (aU h 1 2 ((h 1 2) + 1))
         else
          K h))))

def fX5_skipBlanks (h : aH) : Option aH :=
  (fX5_skipBlanks_L0   (fun h5 =>
      some h5)
    1000 h)

def fX5_mayStand (h : aH) (a0 : Nat) (x1 : Int32) : Option Bool :=
  (if x1 = 118 then
    some true
   else
    (if (h a0 0) = 0 then
      some false
     else
      (if x1 = 100 then
        some true
       else
        (if x1 = 104 then
          some true
         else
          (if x1 = 112 then
            some true
           else
            some false)))))

def fX5_fail (h : aH) (x1 : Int32) (x2 : Int32) : Option aH :=
  (if (h 1 3) = 0 then
    some (aU (aU h 1 3 x1) 1 4 x2)
   else
    some h)

def fX5_isTooMany (h : aH) (a0 : Nat) (x1 : Int32) : Option Bool :=
  (if x1 = 100 then
    (if (h a0 4) ≤ 0 then
      some false
     else
      some true)
   else
    (if x1 = 104 then
      (if (h a0 5) < 4 then
        some false
       else
        some true)
     else
      (if x1 = 118 then
        ib (h a0 0)
       else
        (if (h a0 6) < 4 then
          some false
         else
          some true))))

def fX5_isFigure (x0 : Int32) : Option Bool :=
  (if x0 < 48 then
    some false
   else
    (if 57 < x0 then
      some false
     else
      some true))

def fX5_readNumber_L21 (K : aH → Int32 → Option (Int32 × aH)) (x1 : Int32) (x2 : Int32) (x3 : Int32) : Nat → aH → Int32 → Option (Int32 × aH)
  | 0, _, _ => none
  | n + 1, h, x4 =>
    (if (h 1 1) ≤ (h 1 2) then
      K h x4
     else
      (bn (fX5_current h) (fun r6 =>
        (bn (fX5_isFigure r6) (fun r8 =>
          (if (bi r8) = 0 then
            K h x4
           else
            (if 3 ≤ ((h 1 2) - x3) then
              fX5_readNumber_L21 K x1 x2 x3 n (aU h 1 2 ((h 1 2) + 1)) x4
             else
              (bn (fX5_current h) (fun r12 =>
                fX5_readNumber_L21 K x1 x2 x3 n (aU h 1 2 ((h 1 2) + 1)) (((x4 * 10) + r12) - 48))))))))))

def fX5_readNumber (h : aH) (x1 : Int32) (x2 : Int32) : Option (Int32 × aH) :=
  (if (h 1 3) = 0 then
    (bn (fX5_skipBlanks h) (fun h3 =>
      (fX5_readNumber_L21   (fun h14 z13 =>
          (if (h14 1 2) = (h3 1 2) then
            (bn (fX5_fail h14 1 (h3 1 2)) (fun h17 =>
              some (z13, h17)))
           else
            (if 3 < ((h14 1 2) - (h3 1 2)) then
              (bn (fX5_fail h14 2 (h3 1 2)) (fun h20 =>
                some (z13, h20)))
             else
              (if z13 < x1 then
                (bn (fX5_fail h14 2 (h3 1 2)) (fun h23 =>
                  some (z13, h23)))
               else
                (if z13 ≤ x2 then
                  some (z13, h14)
                 else
                  (bn (fX5_fail h14 2 (h3 1 2)) (fun h26 =>
                    some (z13, h26))))))))
        x1 x2 (h3 1 2) 1000 h3 0)))
   else
    some (x1, h))

def fX5_readWeather (h : aH) (a1 : Nat) : Option aH :=
  (bn2 (fX5_readNumber h 0 7) (fun r3 h2 =>
    (bn2 (fX5_readNumber (aU h2 a1 1 r3) 0 9) (fun r6 h5 =>
      (bn2 (fX5_readNumber (aU h5 a1 2 r6) 0 12) (fun r9 h8 =>
        some (aU (aU h8 a1 3 r9) a1 0 1)))))))

def fX5_takeIf (h : aH) (x1 : Int32) : Option (Bool × aH) :=
  (if (h 1 3) = 0 then
    (bn (fX5_skipBlanks h) (fun h3 =>
      (bn (fX5_current h3) (fun r5 =>
        (if r5 = x1 then
          some (true, (aU h3 1 2 ((h3 1 2) + 1)))
         else
          some (false, h3))))))
   else
    some (false, h))

def fX5_readRains_L4 (K : aH → Int32 → Option aH) (a1 : Nat) : Nat → aH → Int32 → Int32 → Option aH
  | 0, _, _, _ => none
  | n + 1, h, x2, x3 =>
    (if x3 = 0 then
      K h x2
     else
      (if 8 ≤ x2 then
        K h x2
       else
        (bn2 (fX5_readNumber h 0 9) (fun r5 h4 =>
          (if ck x2 8 = true then
            (if 8 ≤ (x2 + 1) then
              fX5_readRains_L4 K a1 n (aU h4 (a1 + 1) (tn x2) r5) (x2 + 1) 0
             else
              (bn2 (fX5_takeIf (aU h4 (a1 + 1) (tn x2) r5) 44) (fun r10 h9 =>
                (if (bi r10) = 0 then
                  fX5_readRains_L4 K a1 n h9 (x2 + 1) 0
                 else
                  fX5_readRains_L4 K a1 n h9 (x2 + 1) 1))))
           else none)))))

def fX5_readRains (h : aH) (a1 : Nat) : Option aH :=
  (fX5_readRains_L4   (fun h13 z12 =>
      some (aU h13 a1 4 z12))
    a1 1000 h 0 1)

def fX5_readHand (h : aH) (a1 : Nat) : Option aH :=
  (if (h a1 5) < 0 then
    some h
   else
    (if (h a1 5) < 4 then
      (bn2 (fX5_readNumber h 0 8) (fun r5 h4 =>
        (if ck (h a1 5) 4 = true then
          (bn2 (fX5_readNumber (aU h4 (a1 + 2) (tn (h a1 5)) r5) 0 8) (fun r9 h8 =>
            (bn2 (fX5_readNumber (aU h8 (a1 + 3) (tn (h a1 5)) r9) 0 8) (fun r12 h11 =>
              some (aU (aU h11 (a1 + 4) (tn (h a1 5)) r12) a1 5 ((h a1 5) + 1))))))
         else none)))
     else
      some h))

def fX5_readPaper (h : aH) (a1 : Nat) : Option aH :=
  (if (h a1 6) < 0 then
    some h
   else
    (if (h a1 6) < 4 then
      (bn2 (fX5_readNumber h 0 ((h a1 5) - 1)) (fun r5 h4 =>
        (if ck (h a1 6) 4 = true then
          (bn2 (fX5_readNumber (aU h4 (a1 + 5) (tn (h a1 6)) r5) 0 95) (fun r9 h8 =>
            (bn2 (fX5_readNumber (aU h8 (a1 + 6) (tn (h a1 6)) r9) 1 12) (fun r12 h11 =>
              some (aU (aU h11 (a1 + 7) (tn (h a1 6)) r12) a1 6 ((h a1 6) + 1))))))
         else none)))
     else
      some h))

def fX5_readClause (h : aH) (a1 : Nat) : Option aH :=
  (bn (fX5_current h) (fun r2 =>
    (bn (fX5_mayStand h a1 r2) (fun r4 =>
      (if (bi r4) = 0 then
        (bn (fX5_fail h 1 (h 1 2)) (fun h7 =>
          some h7))
       else
        (bn (fX5_isTooMany h a1 r2) (fun r9 =>
          (if (bi r9) = 0 then
            (if r2 = 100 then
              (bn (fX5_readRains (aU h 1 2 ((h 1 2) + 1)) a1) (fun h13 =>
                (bn2 (fX5_takeIf h13 59) (fun r16 h15 =>
                  (if (bi r16) = 0 then
                    (bn (fX5_fail h15 1 (h15 1 2)) (fun h19 =>
                      some h19))
                   else
                    some h15)))))
             else
              (if r2 = 104 then
                (bn (fX5_readHand (aU h 1 2 ((h 1 2) + 1)) a1) (fun h22 =>
                  (bn2 (fX5_takeIf h22 59) (fun r25 h24 =>
                    (if (bi r25) = 0 then
                      (bn (fX5_fail h24 1 (h24 1 2)) (fun h28 =>
                        some h28))
                     else
                      some h24)))))
               else
                (if r2 = 118 then
                  (bn (fX5_readWeather (aU h 1 2 ((h 1 2) + 1)) a1) (fun h31 =>
                    (bn2 (fX5_takeIf h31 59) (fun r34 h33 =>
                      (if (bi r34) = 0 then
                        (bn (fX5_fail h33 1 (h33 1 2)) (fun h37 =>
                          some h37))
                       else
                        some h33)))))
                 else
                  (bn (fX5_readPaper (aU h 1 2 ((h 1 2) + 1)) a1) (fun h39 =>
                    (bn2 (fX5_takeIf h39 59) (fun r42 h41 =>
                      (if (bi r42) = 0 then
                        (bn (fX5_fail h41 1 (h41 1 2)) (fun h45 =>
                          some h45))
                       else
                        some h41))))))))
           else
            (bn (fX5_fail h 3 (h 1 2)) (fun h47 =>
              some h47))))))))))

def fX5_readInto_L21 (K : aH → Option (Int32 × aH)) (a1 : Nat) : Nat → aH → Int32 → Option (Int32 × aH)
  | 0, _, _ => none
  | n + 1, h, x2 =>
    (if 230 ≤ x2 then
      K h
     else
      (if (h 1 1) ≤ (h 1 2) then
        K h
       else
        (if (h 1 3) = 0 then
          (bn (fX5_readClause h a1) (fun h7 =>
            (bn (fX5_skipBlanks h7) (fun h9 =>
              fX5_readInto_L21 K a1 n h9 (x2 + 1)))))
         else
          K h)))

def fX5_readInto (h : aH) (a1 : Nat) : Option (Int32 × aH) :=
  (bn (fX5_skipBlanks (aU (aU (aU h 1 2 0) 1 3 0) 1 4 (-1))) (fun h2 =>
    (fX5_readInto_L21   (fun h10 =>
        some (h10 1 3, (aU h10 1 1 0)))
      a1 1000 h2 0)))

def fX6_clear (h : aH) (a0 : Nat) : Option aH :=
  some (aU (aU (aU (aU (aU (aU (aU h a0 0 0) a0 1 0) a0 2 0) a0 3 0) a0 4 0) a0 5 0) a0 6 0)

def fX6_rainOf (h : aH) (a0 : Nat) (x1 : Int32) : Option Int32 :=
  (if 1 ≤ (h a0 4) then
    (if ¬ (h a0 4) = 0 then
      (if ck (rmd x1 (h a0 4)) 8 = true then
        some (h (a0 + 1) (tn (rmd x1 (h a0 4))))
       else none)
     else none)
   else
    some 0)

def fX6_fillLooks_L12 (K : aH → Option aH) (a0 : Nat) (x1 : Int32) : Nat → aH → Int32 → Option aH
  | 0, _, _ => none
  | n + 1, h, x2 =>
    (if 96 ≤ x2 then
      K h
     else
      (bn (fX6_rainOf h a0 (x2 / 12)) (fun r4 =>
        (bn (fX6_makeLook h a0 x1 x2 r4) (fun r6 =>
          (if ck ((x1 * 96) + x2) 384 = true then
            fX6_fillLooks_L12 K a0 x1 n (aU h (a0 + 8) (tn ((x1 * 96) + x2)) r6) (x2 + 1)
           else none))))))

def fX6_fillLooks_L2 (K : aH → Option aH) (a0 : Nat) : Nat → aH → Int32 → Option aH
  | 0, _, _ => none
  | n + 1, h, x1 =>
    (if (h a0 5) ≤ x1 then
      K h
     else
      (fX6_fillLooks_L12   (fun h8 =>
          fX6_fillLooks_L2 K a0 n h8 (x1 + 1))
        a0 x1 1000 h 0))

def fX6_fillLooks (h : aH) (a0 : Nat) : Option aH :=
  (fX6_fillLooks_L2   (fun h9 =>
      some h9)
    a0 1000 h 0)

def fX6_firstHour_L3 (K : Unit → Option Int32) (h : aH) (a0 : Nat) (x1 : Int32) (x2 : Int32) : Nat → Int32 → Option Int32
  | 0, _ => none
  | n + 1, x4 =>
    (if 96 ≤ x4 then
      K ()
     else
      (bn (fX6_lookAt h a0 x1 x4) (fun r3 =>
        (if r3 = x2 then
          some x4
         else
          fX6_firstHour_L3 K h a0 x1 x2 n (x4 + 1)))))

def fX6_firstHour (h : aH) (a0 : Nat) (x1 : Int32) (x2 : Int32) (x3 : Int32) : Option Int32 :=
  (fX6_firstHour_L3   (fun (_ : Unit) =>
      some (-1))
    h a0 x1 x2 1000 x3)

def fX6_hoursOfLook_L6 (K : Int32 → Option Int32) (h : aH) (a0 : Nat) (x1 : Int32) (x2 : Int32) (x3 : Int32) : Nat → Int32 → Int32 → Option Int32
  | 0, _, _ => none
  | n + 1, x4, x5 =>
    (if 96 ≤ x5 then
      K x4
     else
      (bn (fX6_lookAt h a0 x1 x5) (fun r3 =>
        (if r3 = x2 then
          (if x4 = x3 then
            some x5
           else
            fX6_hoursOfLook_L6 K h a0 x1 x2 x3 n (x4 + 1) (x5 + 1))
         else
          fX6_hoursOfLook_L6 K h a0 x1 x2 x3 n x4 (x5 + 1)))))

def fX6_hoursOfLook (h : aH) (a0 : Nat) (x1 : Int32) (x2 : Int32) (x3 : Int32) : Option Int32 :=
  (fX6_hoursOfLook_L6   (fun z6 =>
      (if x3 = (-1) then
        some z6
       else
        some (-1)))
    h a0 x1 x2 x3 1000 0 0)

def fX7_feed (h : aH) (x1 : Int32) : Option (Int32 × aH) :=
  (if x1 < 0 then
    some ((-1000000002), h)
   else
    (if x1 ≤ 255 then
      (bn2 (fX5_take h x1) (fun r5 h4 =>
        some (r5, h4)))
     else
      some ((-1000000002), h)))

def fJ6_bitCount_0f7a4 (x0 : Int32) : Option Int32 :=
  some ((((((((x0 - ((ush x0 1) &&& 1431655765)) &&& 858993459) + ((ush (x0 - ((ush x0 1) &&& 1431655765)) 2) &&& 858993459)) + (ush (((x0 - ((ush x0 1) &&& 1431655765)) &&& 858993459) + ((ush (x0 - ((ush x0 1) &&& 1431655765)) 2) &&& 858993459)) 4)) &&& 252645135) + (ush (((((x0 - ((ush x0 1) &&& 1431655765)) &&& 858993459) + ((ush (x0 - ((ush x0 1) &&& 1431655765)) 2) &&& 858993459)) + (ush (((x0 - ((ush x0 1) &&& 1431655765)) &&& 858993459) + ((ush (x0 - ((ush x0 1) &&& 1431655765)) 2) &&& 858993459)) 4)) &&& 252645135) 8)) + (ush ((((((x0 - ((ush x0 1) &&& 1431655765)) &&& 858993459) + ((ush (x0 - ((ush x0 1) &&& 1431655765)) 2) &&& 858993459)) + (ush (((x0 - ((ush x0 1) &&& 1431655765)) &&& 858993459) + ((ush (x0 - ((ush x0 1) &&& 1431655765)) 2) &&& 858993459)) 4)) &&& 252645135) + (ush (((((x0 - ((ush x0 1) &&& 1431655765)) &&& 858993459) + ((ush (x0 - ((ush x0 1) &&& 1431655765)) 2) &&& 858993459)) + (ush (((x0 - ((ush x0 1) &&& 1431655765)) &&& 858993459) + ((ush (x0 - ((ush x0 1) &&& 1431655765)) 2) &&& 858993459)) 4)) &&& 252645135) 8)) 16)) &&& 63)

def fX7_dropMeasures_L4 (K : aH → Int32 → Option (Int32 × aH)) : Nat → aH → Int32 → Int32 → Option (Int32 × aH)
  | 0, _, _, _ => none
  | n + 1, h, x1, x2 =>
    (if 4 ≤ x2 then
      K h x1
     else
      (if ck x2 4 = true then
        (bn (fJ6_bitCount_0f7a4 (h 35 (tn x2))) (fun r4 =>
          fX7_dropMeasures_L4 K n (aU h 35 (tn x2) 0) (x1 + r4) (x2 + 1)))
       else none))

def fX7_dropMeasures (h : aH) : Option (Int32 × aH) :=
  (fX7_dropMeasures_L4   (fun h6 z5 =>
      some (z5, h6))
    1000 h 0 0)

def fX7_valley (h : aH) : Option (Int32 × aH) :=
  (bn (vl (h 0 10)) (fun v1 =>
    (bn (fX6_clear h v1) (fun h3 =>
      (bn (vl (h3 0 10)) (fun v4 =>
        (bn2 (fX5_readInto h3 v4) (fun r7 h6 =>
          (if r7 = 0 then
            (bn (vl (h6 0 9)) (fun v9 =>
              (bn (vl (h6 0 10)) (fun v10 =>
                (bn (fX6_fillLooks (aU (aU (aU h6 0 11 (h6 1 4)) 0 9 (nI v10)) 0 10 (nI v9)) v10) (fun h12 =>
                  (bn (vl (h12 0 9)) (fun v13 =>
                    (bn (fX0_beginAs h12 3 v13) (fun h15 =>
                      (bn (fX3_forget (aU (aU h15 8 6 0) 13 6 0)) (fun h17 =>
                        (bn2 (fX7_dropMeasures h17) (fun r20 h19 =>
                          (bn (vl (h19 0 9)) (fun v21 =>
                            some ((aU h19 24 3 0) v21 6, (aU h19 24 3 0))))))))))))))))))
           else
            some ((-10) - r7, (aU h6 0 11 (h6 1 4))))))))))))

def fX7_fault (h : aH) : Option Int32 :=
  some (h 0 11)

def fX7_told (h : aH) (x1 : Int32) : Option Int32 :=
  (if x1 = 0 then
    (bn (vl (h 0 9)) (fun v2 =>
      (if (h v2 0) = 0 then
        some 0
       else
        some 1)))
   else
    (if x1 = 1 then
      (bn (vl (h 0 9)) (fun v5 =>
        some (h v5 1)))
     else
      (if x1 = 2 then
        (bn (vl (h 0 9)) (fun v7 =>
          some (h v7 2)))
       else
        (if x1 = 3 then
          (bn (vl (h 0 9)) (fun v9 =>
            some (h v9 3)))
         else
          (if x1 = 4 then
            (bn (vl (h 0 9)) (fun v11 =>
              some (h v11 5)))
           else
            (if x1 = 5 then
              (bn (vl (h 0 9)) (fun v13 =>
                some (h v13 6)))
             else
              (if x1 = 6 then
                some (h 1 1)
               else
                (if x1 = 7 then
                  some (h 3 4)
                 else
                  (if x1 = 8 then
                    (bn (fX0_countAll h 3) (fun r18 =>
                      some r18))
                   else
                    (if x1 = 9 then
                      some (h 24 3)
                     else
                      (if x1 = 10 then
                        some (h 18 6)
                       else
                        some (-1000000002))))))))))))

def fX7_weather (h : aH) (x1 : Int32) (x2 : Int32) : Option Int32 :=
  (bn (fX7_isHour x1) (fun r2 =>
    (if (bi r2) = 0 then
      some (-1000000002)
     else
      (if x2 < 0 then
        some (-1000000002)
       else
        (if x2 ≤ 2 then
          (bn (vl (h 0 9)) (fun v6 =>
            (if (h v6 0) = 0 then
              some (-1000000003)
             else
              (if x2 = 0 then
                (bn (fX6_windAt h v6 x1) (fun r10 =>
                  some r10))
               else
                (if x2 = 1 then
                  (bn (fX6_rainOf h v6 (x1 / 12)) (fun r13 =>
                    (bn (fX6_dampAt h v6 x1 r13) (fun r15 =>
                      some r15))))
                 else
                  (bn (fX6_lightAt h v6 x1) (fun r17 =>
                    some r17)))))))
         else
          some (-1000000002))))))

def fX7_hand (h : aH) (x1 : Int32) (x2 : Int32) : Option Int32 :=
  (bn (vl (h 0 9)) (fun v1 =>
    (bn (fX6_hasHand h v1 x1) (fun r3 =>
      (if (bi r3) = 0 then
        some (-1000000001)
       else
        (if x2 = 0 then
          (if ck x1 4 = true then
            some (h (v1 + 2) (tn x1))
           else none)
         else
          (if x2 = 1 then
            (if ck x1 4 = true then
              some (h (v1 + 3) (tn x1))
             else none)
           else
            (if x2 = 2 then
              (if ck x1 4 = true then
                some (h (v1 + 4) (tn x1))
               else none)
             else
              some (-1000000002)))))))))

def fX7_ofAllLetters (h : aH) (x1 : Int32) (x2 : Int32) : Option Int32 :=
  (if x2 = 0 then
    (bn (fX0_countOf h 3 x1) (fun r3 =>
      some r3))
   else
    (if x2 = 1 then
      (bn (fX0_countForged h 3 x1) (fun r6 =>
        some r6))
     else
      some (-1000000002)))

def fX7_isMeasured (h : aH) (x1 : Int32) (x2 : Int32) : Option Bool :=
  (if ck x1 4 = true then
    (if (((h 35 (tn x1)) >>> (x2 &&& 31)) &&& 1) = 1 then
      some true
     else
      some false)
   else none)

def fX7_letter (h : aH) (x1 : Int32) (x2 : Int32) (x3 : Int32) : Option Int32 :=
  (bn (vl (h 0 9)) (fun v1 =>
    (bn (fX6_hasPaper h v1 x1) (fun r3 =>
      (if (bi r3) = 0 then
        some (-1000000001)
       else
        (if x2 = (-1) then
          (bn (fX7_ofAllLetters h x1 x3) (fun r7 =>
            some r7))
         else
          (bn (fX0_hasLetter h 3 x1 x2) (fun r9 =>
            (if (bi r9) = 0 then
              some (-1000000001)
             else
              (if x3 = 0 then
                (bn (fX0_lookOf h 3 v1 x1 x2) (fun r13 =>
                  some r13))
               else
                (if x3 = 1 then
                  (bn (fX0_hourOf h 3 x1 x2) (fun r16 =>
                    some r16))
                 else
                  (if x3 = 2 then
                    (bn (fX0_writerOf h 3 x1 x2) (fun r19 =>
                      some r19))
                   else
                    (if x3 = 3 then
                      (bn (fX7_isMeasured h x1 x2) (fun r22 =>
                        (if (bi r22) = 0 then
                          some 0
                         else
                          some 1)))
                     else
                      (if x3 = 4 then
                        (bn (fX0_isForged h 3 x1 x2) (fun r26 =>
                          (if (bi r26) = 0 then
                            some 0
                           else
                            some 1)))
                       else
                        some (-1000000002)))))))))))))))

def fX7_append (h : aH) (x1 : Int32) (x2 : Int32) (x3 : Int32) (x4 : Int32) : Option aH :=
  (bn (fX0_put h 3 x1 x2 x3 x4) (fun h2 =>
    (bn (fX3_noteAdded h2 x1) (fun h4 =>
      some h4))))

def fX7_add (h : aH) (x1 : Int32) (x2 : Int32) (x3 : Int32) (x4 : Int32) : Option (Int32 × aH) :=
  (bn (vl (h 0 9)) (fun v1 =>
    (bn (fX6_hasPaper h v1 x1) (fun r3 =>
      (if (bi r3) = 0 then
        some ((-1000000001), h)
       else
        (bn (fX6_hasHand h v1 x2) (fun r6 =>
          (if (bi r6) = 0 then
            some ((-1000000001), h)
           else
            (bn (fX7_isHour x3) (fun r9 =>
              (if (bi r9) = 0 then
                some ((-1000000002), h)
               else
                (if x4 = 0 then
                  (bn (fX0_isFull h 3 x1) (fun r13 =>
                    (if (bi r13) = 0 then
                      (bn (fX7_append h x1 x2 x3 (-1)) (fun h16 =>
                        (bn (fX0_countOf h16 3 x1) (fun r18 =>
                          some (r18, h16)))))
                     else
                      some ((-1000000004), h))))
                 else
                  (if (h 3 4) = (-1) then
                    some ((-1000000003), h)
                   else
                    (bn (fX0_isFull h 3 x1) (fun r21 =>
                      (if (bi r21) = 0 then
                        (bn (fX7_append h x1 x2 x3 (h 3 4)) (fun h24 =>
                          (bn (fX0_countOf h24 3 x1) (fun r26 =>
                            some (r26, h24)))))
                       else
                        some ((-1000000004), h)))))))))))))))))

def fX7_blot (h : aH) (x1 : Int32) : Option (Int32 × aH) :=
  (bn (vl (h 0 9)) (fun v1 =>
    (bn (fX6_hasPaper h v1 x1) (fun r3 =>
      (if (bi r3) = 0 then
        some ((-1000000001), h)
       else
        (bn (fX0_countOf h 3 x1) (fun r6 =>
          (if 0 ≤ (r6 - 1) then
            (bn (fX0_lookOf h 3 v1 x1 (r6 - 1)) (fun r9 =>
              (bn (fX0_writerOf h 3 x1 (r6 - 1)) (fun r11 =>
                (bn (fX0_hourOf h 3 x1 (r6 - 1)) (fun r13 =>
                  (bn (fX0_airOf h 3 x1 (r6 - 1)) (fun r15 =>
                    (bn (fX3_noteBlotted h x1 r11 r13 r15) (fun h17 =>
                      (bn (fX0_dropLast h17 3 x1) (fun h19 =>
                        some (r9, h19)))))))))))))
           else
            some ((-1000000003), h)))))))))

def fX7_bottle (h : aH) (x1 : Int32) : Option (Int32 × aH) :=
  (if x1 = (-1) then
    (bn (vl (h 0 9)) (fun v2 =>
      (if (h v2 0) = 0 then
        some ((-1000000003), h)
       else
        (bn (fX3_noteBottled h (h 3 4)) (fun h5 =>
          some (h 3 4, (aU h5 3 4 x1)))))))
   else
    (bn (fX7_isHour x1) (fun r7 =>
      (if (bi r7) = 0 then
        some ((-1000000002), h)
       else
        (bn (vl (h 0 9)) (fun v9 =>
          (if (h v9 0) = 0 then
            some ((-1000000003), h)
           else
            (bn (fX3_noteBottled h (h 3 4)) (fun h12 =>
              some (h 3 4, (aU h12 3 4 x1)))))))))))

def fX7_drift_L41 (K : aH → Option (Int32 × aH)) (x1 : Int32) : Nat → aH → Int32 → Option (Int32 × aH)
  | 0, _, _ => none
  | n + 1, h, x2 =>
    (if x1 ≤ x2 then
      K h
     else
      (bn (vl (h 0 9)) (fun v7 =>
        (bn2 (fX0_draw h 3 (h v7 6)) (fun r10 h9 =>
          (bn (vl (h9 0 9)) (fun v11 =>
            (bn2 (fX0_draw h9 3 (h9 v11 5)) (fun r14 h13 =>
              (bn2 (fX0_draw h13 3 96) (fun r17 h16 =>
                (bn (fX0_isFull h16 3 r10) (fun r19 =>
                  (if (bi r19) = 0 then
                    (bn (fX7_append h16 r10 r14 r17 (-1)) (fun h22 =>
                      fX7_drift_L41 K x1 n h22 (x2 + 1)))
                   else
                    fX7_drift_L41 K x1 n h16 (x2 + 1)))))))))))))))

def fX7_drift (h : aH) (x1 : Int32) : Option (Int32 × aH) :=
  (if x1 < 1 then
    some ((-1000000002), h)
   else
    (if x1 ≤ 30 then
      (bn (vl (h 0 9)) (fun v3 =>
        (if (h v3 5) < 1 then
          some ((-1000000003), h)
         else
          (if 1 ≤ (h v3 6) then
            (fX7_drift_L41   (fun h23 =>
                (bn (fX0_countAll h23 3) (fun r25 =>
                  some (r25, h23))))
              x1 1000 h 0)
           else
            some ((-1000000003), h)))))
     else
      some ((-1000000002), h)))

def fX7_undo_L30 (K : aH → Option (Int32 × aH)) (x1 : Int32) : Nat → aH → Int32 → Option (Int32 × aH)
  | 0, _, _ => none
  | n + 1, h, x2 =>
    (if x1 ≤ x2 then
      K h
     else
      (bn (fX3_takeBackLast h 3) (fun h6 =>
        fX7_undo_L30 K x1 n h6 (x2 + 1))))

def fX7_undo (h : aH) (x1 : Int32) : Option (Int32 × aH) :=
  (if x1 < 1 then
    some ((-1000000002), h)
   else
    (if x1 ≤ 30 then
      (if x1 ≤ (h 18 6) then
        (fX7_undo_L30   (fun h7 =>
            (bn (fX0_countAll h7 3) (fun r9 =>
              some (r9, h7))))
          x1 1000 h 0)
       else
        some ((-1000000003), h))
     else
      some ((-1000000002), h)))

def fX7_look (h : aH) (x1 : Int32) (x2 : Int32) : Option Int32 :=
  (bn (vl (h 0 9)) (fun v1 =>
    (bn (fX6_hasHand h v1 x1) (fun r3 =>
      (if (bi r3) = 0 then
        some (-1000000001)
       else
        (bn (fX7_isHour x2) (fun r6 =>
          (if (bi r6) = 0 then
            some (-1000000002)
           else
            (bn (fX6_lookAt h v1 x1 x2) (fun r9 =>
              some r9))))))))))

def fX7_written (h : aH) (x1 : Int32) (x2 : Int32) (x3 : Int32) (x4 : Int32) : Option Int32 :=
  (bn (vl (h 0 9)) (fun v1 =>
    (bn (fX6_hasPaper h v1 x1) (fun r3 =>
      (if (bi r3) = 0 then
        some (-1000000001)
       else
        (bn (fX0_hasLetter h 3 x1 x2) (fun r6 =>
          (if (bi r6) = 0 then
            some (-1000000001)
           else
            (bn (fX6_hasHand h v1 x3) (fun r9 =>
              (if (bi r9) = 0 then
                some (-1000000001)
               else
                (bn (fX0_lookOf h 3 v1 x1 x2) (fun r12 =>
                  (bn (fX6_hoursOfLook h v1 x3 r12 x4) (fun r14 =>
                    some r14)))))))))))))))

def fX7_who_L46 (K : Int32 → Option Int32) (h : aH) (x3 : Int32) : Nat → Int32 → Int32 → Option Int32
  | 0, _, _ => none
  | n + 1, x4, x5 =>
    (bn (vl (h 0 9)) (fun v10 =>
      (if (h v10 5) ≤ x5 then
        K x4
       else
        (bn (fX6_firstHour h v10 x5 x3 0) (fun r13 =>
          (if r13 = (-1) then
            fX7_who_L46 K h x3 n x4 (x5 + 1)
           else
            fX7_who_L46 K h x3 n (x4 ||| (1 <<< (x5 &&& 31))) (x5 + 1)))))))

def fX7_who (h : aH) (x1 : Int32) (x2 : Int32) : Option Int32 :=
  (bn (vl (h 0 9)) (fun v1 =>
    (bn (fX6_hasPaper h v1 x1) (fun r3 =>
      (if (bi r3) = 0 then
        some (-1000000001)
       else
        (bn (fX0_hasLetter h 3 x1 x2) (fun r6 =>
          (if (bi r6) = 0 then
            some (-1000000001)
           else
            (bn (fX0_lookOf h 3 v1 x1 x2) (fun r9 =>
              (fX7_who_L46   (fun z15 =>
                  some z15)
                h r9 1000 0 0)))))))))))

def fX7_dated_L59 (K : Int32 → Int32 → Int32 → Option Int32) (h : aH) (x1 : Int32) (x2 : Int32) (x3 : Int32) (x4 : Int32) : Nat → Int32 → Int32 → Int32 → Int32 → Option Int32
  | 0, _, _, _, _ => none
  | n + 1, x5, x6, x7, x8 =>
    (if 96 ≤ x8 then
      K x5 x6 x7
     else
      (if 96 < (x8 + x4) then
        K x5 x6 x7
       else
        (bn (vl (h 0 9)) (fun v14 =>
          (bn (fX0_rowFrom h 3 v14 x1 0 x2 x8) (fun r16 =>
            (if r16 = x4 then
              (if x6 = (-1) then
                fX7_dated_L59 K h x1 x2 x3 x4 n (x5 + 1) x8 x8 (x8 + 1)
               else
                fX7_dated_L59 K h x1 x2 x3 x4 n (x5 + 1) x6 x8 (x8 + 1))
             else
              fX7_dated_L59 K h x1 x2 x3 x4 n x5 x6 x7 (x8 + 1))))))))

def fX7_dated (h : aH) (x1 : Int32) (x2 : Int32) (x3 : Int32) : Option Int32 :=
  (bn (vl (h 0 9)) (fun v1 =>
    (bn (fX6_hasPaper h v1 x1) (fun r3 =>
      (if (bi r3) = 0 then
        some (-1000000001)
       else
        (bn (fX6_hasHand h v1 x2) (fun r6 =>
          (if (bi r6) = 0 then
            some (-1000000001)
           else
            (if x3 < 0 then
              some (-1000000002)
             else
              (if x3 ≤ 2 then
                (bn (fX0_countOf h 3 x1) (fun r11 =>
                  (fX7_dated_L59   (fun z19 z20 z21 =>
                      (if x3 = 0 then
                        some z19
                       else
                        (if x3 = 1 then
                          some z20
                         else
                          some z21)))
                    h x1 x2 x3 r11 1000 0 (-1) (-1) 0)))
               else
                some (-1000000002)))))))))))

def fX7_addedAt (h : aH) (x1 : Int32) (x2 : Int32) (x3 : Int32) : Option Int32 :=
  (bn (vl (h 0 9)) (fun v1 =>
    (bn (fX6_hasPaper h v1 x1) (fun r3 =>
      (if (bi r3) = 0 then
        some (-1000000001)
       else
        (bn (fX6_hasHand h v1 x2) (fun r6 =>
          (if (bi r6) = 0 then
            some (-1000000001)
           else
            (if x3 = 0 then
              (bn (fX0_longestRow h 3 v1 x1 0 x2) (fun r10 =>
                some r10))
             else
              (if x3 = 1 then
                (bn (fX0_fewestRows h 3 v1 x1 x2) (fun r13 =>
                  some r13))
               else
                some (-1000000002)))))))))))

def fX7_next (h : aH) (x1 : Int32) (x2 : Int32) : Option (Int32 × aH) :=
  (bn (vl (h 0 9)) (fun v1 =>
    (bn (fX6_hasPaper h v1 x1) (fun r3 =>
      (if (bi r3) = 0 then
        some ((-1000000001), h)
       else
        (if x2 < 0 then
          some ((-1000000002), h)
         else
          (if x2 ≤ 1 then
            (if ck x1 4 = true then
              (bn (fX1_gather h v1 3 x1 (h 35 (tn x1))) (fun h9 =>
                (if x2 = 0 then
                  some (h9 28 4, h9)
                 else
                  (bn (vl (h9 0 9)) (fun v11 =>
                    (bn (fX0_countOf h9 3 x1) (fun r13 =>
                      (bn2 (fX1_bestLetter h9 v11 r13) (fun r16 h15 =>
                        some (r16, h15))))))))))
             else none)
           else
            some ((-1000000002), h))))))))

def fX7_isLook (x0 : Int32) : Option Bool :=
  (if x0 < 0 then
    some false
   else
    (if 9999 < x0 then
      some false
     else
      some true))

def fX7_soonest (h : aH) (x1 : Int32) (x2 : Int32) (x3 : Int32) : Option Int32 :=
  (bn (vl (h 0 9)) (fun v1 =>
    (bn (fX6_hasHand h v1 x1) (fun r3 =>
      (if (bi r3) = 0 then
        some (-1000000001)
       else
        (bn (fX7_isLook x2) (fun r6 =>
          (if (bi r6) = 0 then
            some (-1000000002)
           else
            (bn (fX7_isHour x3) (fun r9 =>
              (if (bi r9) = 0 then
                some (-1000000002)
               else
                (bn (fX6_firstHour h v1 x1 x2 x3) (fun r12 =>
                  some r12)))))))))))))

def fX7_likely (h : aH) (x1 : Int32) (x2 : Int32) : Option Int32 :=
  (bn (vl (h 0 9)) (fun v1 =>
    (bn (fX6_hasHand h v1 x1) (fun r3 =>
      (if (bi r3) = 0 then
        some (-1000000001)
       else
        (bn (fX7_isLook x2) (fun r6 =>
          (if (bi r6) = 0 then
            some (-1000000002)
           else
            (bn (fX6_hoursOfLook h v1 x1 x2 (-1)) (fun r9 =>
              some ((r9 * 1000000) / 96)))))))))))

def fX7_hands (h : aH) (x1 : Int32) : Option (Int32 × aH) :=
  (if x1 = (-1) then
    (bn (vl (h 0 9)) (fun v2 =>
      (if (h v2 6) ≤ (h v2 5) then
        (bn (fX4_compare h v2 3) (fun h5 =>
          (bn (vl (h5 0 9)) (fun v6 =>
            (bn (fX4_search h5 (h5 v6 6) (h5 v6 5)) (fun h8 =>
              some (h8 33 1, h8)))))))
       else
        some ((-1), h))))
   else
    (bn (vl (h 0 9)) (fun v9 =>
      (bn (fX6_hasPaper h v9 x1) (fun r11 =>
        (if (bi r11) = 0 then
          some ((-1000000001), h)
         else
          (if (h v9 6) ≤ (h v9 5) then
            (bn (fX4_compare h v9 3) (fun h15 =>
              (bn (vl (h15 0 9)) (fun v16 =>
                (bn (fX4_search h15 (h15 v16 6) (h15 v16 5)) (fun h18 =>
                  (bn (vl (h18 0 9)) (fun v19 =>
                    (bn (fX4_handOf h18 x1 (h18 v19 6)) (fun r21 =>
                      some (r21, h18)))))))))))
           else
            some ((-1), h))))))))

def fX7_forged_L44 (K : Int32 → Int32 → Option Int32) (h : aH) (x1 : Int32) (x2 : Int32) (x3 : Int32) : Nat → Int32 → Int32 → Int32 → Option Int32
  | 0, _, _, _ => none
  | n + 1, x4, x5, x6 =>
    (if x3 ≤ x6 then
      K x4 x5
     else
      (bn (fX0_isForged h 3 x1 x6) (fun r11 =>
        (if (bi r11) = 0 then
          fX7_forged_L44 K h x1 x2 x3 n x4 x5 (x6 + 1)
         else
          (bn (vl (h 0 9)) (fun v13 =>
            (bn (fX0_writerOf h 3 x1 x6) (fun r15 =>
              (bn (fX0_looksAsBy h 3 v13 x1 x6 r15) (fun r17 =>
                (if (bi r17) = 0 then
                  fX7_forged_L44 K h x1 x2 x3 n x4 (x5 ||| (1 <<< (x6 &&& 31))) (x6 + 1)
                 else
                  fX7_forged_L44 K h x1 x2 x3 n (x4 + 1) x5 (x6 + 1))))))))))))

def fX7_forged (h : aH) (x1 : Int32) (x2 : Int32) : Option Int32 :=
  (bn (vl (h 0 9)) (fun v1 =>
    (bn (fX6_hasPaper h v1 x1) (fun r3 =>
      (if (bi r3) = 0 then
        some (-1000000001)
       else
        (if x2 < 0 then
          some (-1000000002)
         else
          (if x2 ≤ 1 then
            (bn (fX0_countOf h 3 x1) (fun r8 =>
              (fX7_forged_L44   (fun z19 z20 =>
                  (if x2 = 0 then
                    some z19
                   else
                    some z20))
                h x1 x2 r8 1000 0 0 0)))
           else
            some (-1000000002))))))))

def fX7_air (h : aH) (x1 : Int32) (x2 : Int32) (x3 : Int32) : Option Int32 :=
  (bn (vl (h 0 9)) (fun v1 =>
    (bn (fX6_hasHand h v1 x1) (fun r3 =>
      (if (bi r3) = 0 then
        some (-1000000001)
       else
        (bn (fX7_isHour x2) (fun r6 =>
          (if (bi r6) = 0 then
            some (-1000000002)
           else
            (bn (fX6_lookAt h v1 x1 x2) (fun r9 =>
              (bn (fX6_hoursOfLook h v1 x1 r9 x3) (fun r11 =>
                some r11))))))))))))

def fX7_rain_L30 (K : Int32 → Option Int32) (h : aH) (x1 : Int32) : Nat → Int32 → Int32 → Option Int32
  | 0, _, _ => none
  | n + 1, x2, x3 =>
    (if 10 ≤ x3 then
      K x2
     else
      (bn (vl (h 0 9)) (fun v6 =>
        (bn (fX0_fitsRain h 3 v6 x1 x3) (fun r8 =>
          (if (bi r8) = 0 then
            fX7_rain_L30 K h x1 n x2 (x3 + 1)
           else
            fX7_rain_L30 K h x1 n (x2 ||| (1 <<< (x3 &&& 31))) (x3 + 1)))))))

def fX7_rain (h : aH) (x1 : Int32) : Option Int32 :=
  (if x1 < 0 then
    some (-1000000002)
   else
    (if x1 < 8 then
      (bn (vl (h 0 9)) (fun v3 =>
        (if (h v3 0) = 0 then
          some (-1000000003)
         else
          (fX7_rain_L30   (fun z10 =>
              some z10)
            h x1 1000 0 0))))
     else
      some (-1000000002)))

def fX7_measure (h : aH) (x1 : Int32) (x2 : Int32) : Option (Int32 × aH) :=
  (bn (vl (h 0 9)) (fun v1 =>
    (bn (fX6_hasPaper h v1 x1) (fun r3 =>
      (if (bi r3) = 0 then
        some ((-1000000001), h)
       else
        (bn (fX0_hasLetter h 3 x1 x2) (fun r6 =>
          (if (bi r6) = 0 then
            some ((-1000000001), h)
           else
            (if ck x1 4 = true then
              (bn (fJ6_bitCount_0f7a4 ((h 35 (tn x1)) ||| (1 <<< (x2 &&& 31)))) (fun r10 =>
                some (r10, (aU h 35 (tn x1) ((h 35 (tn x1)) ||| (1 <<< (x2 &&& 31)))))))
             else none)))))))))

def fX7_write (h : aH) (x1 : Int32) (x2 : Int32) (x3 : Int32) : Option (Int32 × aH) :=
  (bn (vl (h 0 9)) (fun v1 =>
    (bn (fX6_hasPaper h v1 x1) (fun r3 =>
      (if (bi r3) = 0 then
        some ((-1000000001), h)
       else
        (if x2 < 0 then
          some ((-1000000001), h)
         else
          (if x2 < 12 then
            (bn (fX7_isLook x3) (fun r8 =>
              (if (bi r8) = 0 then
                some ((-1000000002), h)
               else
                (bn2 (fX2_enter h x1 x2 x3) (fun r12 h11 =>
                  some (r12, h11))))))
           else
            some ((-1000000001), h))))))))

def fX7_judge (h : aH) : Option Int32 :=
  (bn (vl (h 0 9)) (fun v1 =>
    (bn (fX2_firstWrong h v1 3) (fun r3 =>
      some r3))))

def fX7_tear (h : aH) : Option (Int32 × aH) :=
  (bn2 (fX7_dropMeasures h) (fun r3 h2 =>
    some ((h 24 3) + r3, (aU h2 24 3 0))))

def fX7_seed (h : aH) (x1 : Int32) : Option (Int32 × aH) :=
  (if 0 ≤ x1 then
    some (h 3 5, (aU h 3 5 x1))
   else
    some ((-1000000002), h))

def fX7_isImage (x0 : Int32) : Option Bool :=
  (if x0 = 0 then
    some true
   else
    (if x0 = 1 then
      some true
     else
      some false))

def fX7_imageOf (h : aH) (x1 : Int32) : Option Nat :=
  (if x1 = 0 then
    some 8
   else
    some 13)

def fX7_keep (h : aH) (x1 : Int32) : Option (Int32 × aH) :=
  (bn (fX7_isImage x1) (fun r2 =>
    (if (bi r2) = 0 then
      some ((-1000000001), h)
     else
      (bn (fX7_imageOf h x1) (fun r5 =>
        (if kC r5 = 0 then
          (bn (fX0_copyFrom h r5 3) (fun h8 =>
            (bn (fX3_forget (aU h8 r5 6 1)) (fun h10 =>
              some (1, h10)))))
         else none))))))

def fX7_goBack (h : aH) (x1 : Int32) : Option (Int32 × aH) :=
  (bn (fX7_isImage x1) (fun r2 =>
    (if (bi r2) = 0 then
      some ((-1000000001), h)
     else
      (bn (fX7_imageOf h x1) (fun r5 =>
        (if kC r5 = 0 then
          (if (h r5 6) = 0 then
            some ((-1000000003), h)
           else
            (bn (fX0_copyFrom h 3 r5) (fun h9 =>
              (bn (fX3_forget h9) (fun h11 =>
                some (1, h11))))))
         else none))))))

def fX8_in (x0 : Int64) (x2 : Int64) (x4 : Int64) : Option Bool :=
  (if (lg_cmp x0 x2) < 0 then
    some false
   else
    (if 0 < (lg_cmp x0 x4) then
      some false
     else
      some true))

def fX8_one (x0 : Int32) : Option Int32 :=
  (if x0 = 0 then
    some 0
   else
    some 1)

def fX8_has (x0 : Int32) (x1 : Int32) : Option Bool :=
  (if ((x0 >>> (x1 &&& 31)) &&& 1) = 1 then
    some true
   else
    some false)

def fX8_ones_L4 (K : Int32 → Option Int32) (x0 : Int32) : Nat → Int32 → Int32 → Option Int32
  | 0, _, _ => none
  | n + 1, x1, x2 =>
    (if 12 ≤ x2 then
      K x1
     else
      fX8_ones_L4 K x0 n (x1 + ((x0 >>> (x2 &&& 31)) &&& 1)) (x2 + 1))

def fX8_ones (x0 : Int32) : Option Int32 :=
  (fX8_ones_L4   (fun z2 =>
      some z2)
    x0 1000 0 0)

def fX8_feed (h : aH) (x1 : Int32) : Option (Int32 × aH) :=
  (bn (fX8_in (Int32.toInt64 x1) 0 255) (fun r2 =>
    (if (bi r2) = 0 then
      some ((-1000000002), h)
     else
      (if (h 54 19) = 230 then
        some ((-1000000004), h)
       else
        (if ck (h 54 19) 230 = true then
          some ((h 54 19) + 1, (aU (aU h 65 (tn (h 54 19)) x1) 54 19 ((h 54 19) + 1)))
         else none)))))

def fX8_here_L0 (K : aH → Option (Int32 × aH)) : Nat → aH → Option (Int32 × aH)
  | 0, _ => none
  | n + 1, h =>
    (if (h 54 19) ≤ (h 54 20) then
      K h
     else
      (if ck (h 54 20) 230 = true then
        (if (h 65 (tn (h 54 20))) = 32 then
          fX8_here_L0 K n (aU h 54 20 ((h 54 20) + 1))
         else
          K h)
       else none))

def fX8_here (h : aH) : Option (Int32 × aH) :=
  (fX8_here_L0   (fun h4 =>
      (if (h4 54 19) ≤ (h4 54 20) then
        some ((-1), h4)
       else
        (if ck (h4 54 20) 230 = true then
          some (h4 65 (tn (h4 54 20)), h4)
         else none)))
    1000 h)

def fX8_want (h : aH) (x1 : Int32) (x2 : Int32) (x3 : Int32) : Option (Bool × aH) :=
  (if x1 = 0 then
    (if (h 54 22) = 0 then
      (if x2 = 0 then
        some (true, (aU (aU h 54 22 x2) 54 23 x3))
       else
        some (false, (aU (aU h 54 22 x2) 54 23 x3)))
     else
      some (false, h))
   else
    (if (h 54 22) = 0 then
      some (true, h)
     else
      some (false, h)))

def fX8_takeNumber_L49 (K : aH → Int32 → Option (Int32 × aH)) : Nat → aH → Int32 → Option (Int32 × aH)
  | 0, _, _ => none
  | n + 1, h, x2 =>
    (if (h 54 19) ≤ (h 54 20) then
      K h x2
     else
      (if ck (h 54 20) 230 = true then
        (bn (fX8_in (Int32.toInt64 (h 65 (tn (h 54 20)))) 48 57) (fun r14 =>
          (if (bi r14) = 0 then
            K h x2
           else
            (if x2 ≤ 99999 then
              fX8_takeNumber_L49 K n (aU h 54 20 ((h 54 20) + 1)) (((10 * x2) + (h 65 (tn (h 54 20)))) - 48)
             else
              fX8_takeNumber_L49 K n (aU h 54 20 ((h 54 20) + 1)) x2))))
       else none))

def fX8_takeNumber (h : aH) : Option (Int32 × aH) :=
  (if (h 54 22) ≤ 0 then
    (bn2 (fX8_here h) (fun r4 h3 =>
      (bn (fX8_in (Int32.toInt64 r4) 48 57) (fun r6 =>
        (bn2 (fX8_want (aU h3 54 21 (h3 54 20)) (bi r6) 1 (h3 54 20)) (fun r9 h8 =>
          (if (bi r9) = 0 then
            some (0, h8)
           else
            (fX8_takeNumber_L49   (fun h18 z17 =>
                (if 4 ≤ ((h18 54 20) - (h18 54 21)) then
                  (bn2 (fX8_want h18 0 2 (h18 54 21)) (fun r22 h21 =>
                    some (z17, h21)))
                 else
                  (bn2 (fX8_want h18 1 2 (h18 54 21)) (fun r25 h24 =>
                    some (z17, h24)))))
              1000 h8 0))))))))
   else
    some (0, h))

def fX8_takeIn (h : aH) (x1 : Int32) (x2 : Int32) : Option (Int32 × aH) :=
  (bn2 (fX8_takeNumber h) (fun r3 h2 =>
    (if 0 < (h2 54 22) then
      (bn2 (fX8_want h2 1 2 (h2 54 21)) (fun r7 h6 =>
        some (r3, h6)))
     else
      (bn (fX8_in (Int32.toInt64 r3) (Int32.toInt64 x1) (Int32.toInt64 x2)) (fun r9 =>
        (if (bi r9) = 0 then
          (bn2 (fX8_want h2 0 2 (h2 54 21)) (fun r13 h12 =>
            some (r3, h12)))
         else
          (bn2 (fX8_want h2 1 2 (h2 54 21)) (fun r16 h15 =>
            some (r3, h15)))))))))

def fX8_takeValley (h : aH) (x1 : Int32) : Option aH :=
  (if (h 54 3) = 0 then
    (bn2 (fX8_want h 1 3 x1) (fun r4 h3 =>
      (if (bi r4) = 0 then
        some h3
       else
        (bn2 (fX8_takeIn h3 0 7) (fun r8 h7 =>
          (bn2 (fX8_takeIn (aU h7 57 3 r8) 0 9) (fun r11 h10 =>
            (bn2 (fX8_takeIn (aU h10 57 4 r11) 0 12) (fun r14 h13 =>
              some (aU (aU h13 57 5 r14) 54 3 1))))))))))
   else
    (bn2 (fX8_want h 0 3 x1) (fun r17 h16 =>
      (if (bi r17) = 0 then
        some h16
       else
        (bn2 (fX8_takeIn h16 0 7) (fun r21 h20 =>
          (bn2 (fX8_takeIn (aU h20 57 3 r21) 0 9) (fun r24 h23 =>
            (bn2 (fX8_takeIn (aU h23 57 4 r24) 0 12) (fun r27 h26 =>
              some (aU (aU h26 57 5 r27) 54 3 1)))))))))))

def fX8_takeRains_L19 (K : aH → Option aH) : Nat → aH → Int32 → Option aH
  | 0, _, _ => none
  | n + 1, h, x2 =>
    (if x2 = 0 then
      K h
     else
      (bn2 (fX8_takeIn h 0 9) (fun r8 h7 =>
        (if ck (8 + (h 54 7)) 16 = true then
          (if (h7 54 22) = 0 then
            (bn2 (fX8_here (aU (aU h7 58 (tn (8 + (h 54 7))) r8) 54 7 ((h7 54 7) + 1))) (fun r13 h12 =>
              (if r13 = 44 then
                (if 8 ≤ (h12 54 7) then
                  (bn2 (fX8_want h12 0 1 (h12 54 20)) (fun r18 h17 =>
                    (if (bi r18) = 0 then
                      (if (h17 54 22) = 0 then
                        fX8_takeRains_L19 K n h17 1
                       else
                        fX8_takeRains_L19 K n h17 0)
                     else
                      (if (h17 54 22) = 0 then
                        fX8_takeRains_L19 K n (aU h17 54 20 ((h17 54 20) + 1)) 1
                       else
                        fX8_takeRains_L19 K n (aU h17 54 20 ((h17 54 20) + 1)) 0))))
                 else
                  (bn2 (fX8_want h12 1 1 (h12 54 20)) (fun r24 h23 =>
                    (if (bi r24) = 0 then
                      (if (h23 54 22) = 0 then
                        fX8_takeRains_L19 K n h23 1
                       else
                        fX8_takeRains_L19 K n h23 0)
                     else
                      (if (h23 54 22) = 0 then
                        fX8_takeRains_L19 K n (aU h23 54 20 ((h23 54 20) + 1)) 1
                       else
                        fX8_takeRains_L19 K n (aU h23 54 20 ((h23 54 20) + 1)) 0)))))
               else
                fX8_takeRains_L19 K n h12 0)))
           else
            fX8_takeRains_L19 K n (aU (aU h7 58 (tn (8 + (h 54 7))) r8) 54 7 ((h7 54 7) + 1)) 0)
         else none))))

def fX8_takeRains (h : aH) (x1 : Int32) : Option aH :=
  (if (h 54 7) = 0 then
    (bn2 (fX8_want h 1 3 x1) (fun r4 h3 =>
      (fX8_takeRains_L19   (fun h28 =>
          some h28)
        1000 h3 (bi r4))))
   else
    (bn2 (fX8_want h 0 3 x1) (fun r31 h30 =>
      (fX8_takeRains_L19   (fun h32 =>
          some h32)
        1000 h30 (bi r31)))))

def fX8_takeHand (h : aH) (x1 : Int32) : Option aH :=
  (if 4 ≤ (h 54 12) then
    (bn2 (fX8_want h 0 3 x1) (fun r4 h3 =>
      (if (bi r4) = 0 then
        some h3
       else
        (bn2 (fX8_takeIn h3 0 8) (fun r8 h7 =>
          (if ck (4 + (h3 54 12)) 8 = true then
            (bn2 (fX8_takeIn (aU h7 59 (tn (4 + (h3 54 12))) r8) 0 8) (fun r12 h11 =>
              (if ck (4 + (h7 54 12)) 8 = true then
                (bn2 (fX8_takeIn (aU h11 60 (tn (4 + (h7 54 12))) r12) 0 8) (fun r16 h15 =>
                  (if ck (4 + (h11 54 12)) 8 = true then
                    some (aU (aU h15 61 (tn (4 + (h11 54 12))) r16) 54 12 ((h15 54 12) + 1))
                   else none)))
               else none)))
           else none))))))
   else
    (bn2 (fX8_want h 1 3 x1) (fun r20 h19 =>
      (if (bi r20) = 0 then
        some h19
       else
        (bn2 (fX8_takeIn h19 0 8) (fun r24 h23 =>
          (if ck (4 + (h19 54 12)) 8 = true then
            (bn2 (fX8_takeIn (aU h23 59 (tn (4 + (h19 54 12))) r24) 0 8) (fun r28 h27 =>
              (if ck (4 + (h23 54 12)) 8 = true then
                (bn2 (fX8_takeIn (aU h27 60 (tn (4 + (h23 54 12))) r28) 0 8) (fun r32 h31 =>
                  (if ck (4 + (h27 54 12)) 8 = true then
                    some (aU (aU h31 61 (tn (4 + (h27 54 12))) r32) 54 12 ((h31 54 12) + 1))
                   else none)))
               else none)))
           else none)))))))

def fX8_takePaper (h : aH) (x1 : Int32) : Option aH :=
  (if 4 ≤ (h 54 17) then
    (bn2 (fX8_want h 0 3 x1) (fun r4 h3 =>
      (if (bi r4) = 0 then
        some h3
       else
        (bn2 (fX8_takeIn h3 0 ((h3 54 12) - 1)) (fun r8 h7 =>
          (if ck (4 + (h3 54 17)) 8 = true then
            (bn2 (fX8_takeIn (aU h7 62 (tn (4 + (h3 54 17))) r8) 0 95) (fun r12 h11 =>
              (if ck (4 + (h7 54 17)) 8 = true then
                (bn2 (fX8_takeIn (aU h11 63 (tn (4 + (h7 54 17))) r12) 1 12) (fun r16 h15 =>
                  (if ck (4 + (h11 54 17)) 8 = true then
                    some (aU (aU h15 64 (tn (4 + (h11 54 17))) r16) 54 17 ((h15 54 17) + 1))
                   else none)))
               else none)))
           else none))))))
   else
    (bn2 (fX8_want h 1 3 x1) (fun r20 h19 =>
      (if (bi r20) = 0 then
        some h19
       else
        (bn2 (fX8_takeIn h19 0 ((h19 54 12) - 1)) (fun r24 h23 =>
          (if ck (4 + (h19 54 17)) 8 = true then
            (bn2 (fX8_takeIn (aU h23 62 (tn (4 + (h19 54 17))) r24) 0 95) (fun r28 h27 =>
              (if ck (4 + (h23 54 17)) 8 = true then
                (bn2 (fX8_takeIn (aU h27 63 (tn (4 + (h23 54 17))) r28) 1 12) (fun r32 h31 =>
                  (if ck (4 + (h27 54 17)) 8 = true then
                    some (aU (aU h31 64 (tn (4 + (h27 54 17))) r32) 54 17 ((h31 54 17) + 1))
                   else none)))
               else none)))
           else none)))))))

def fX8_takeClause (h : aH) : Option aH :=
  (bn2 (fX8_here h) (fun r3 h2 =>
    (if r3 = 118 then
      (bn2 (fX8_want (aU h2 54 20 ((h2 54 20) + 1)) 1 1 (h2 54 20)) (fun r7 h6 =>
        (if (bi r7) = 0 then
          some h6
         else
          (bn (fX8_takeValley h6 (h2 54 20)) (fun h10 =>
            some h10)))))
     else
      (if (h2 54 3) = 0 then
        (bn2 (fX8_want (aU h2 54 20 ((h2 54 20) + 1)) 0 1 (h2 54 20)) (fun r14 h13 =>
          (if (bi r14) = 0 then
            some h13
           else
            (if r3 = 100 then
              (bn (fX8_takeRains h13 (h2 54 20)) (fun h18 =>
                some h18))
             else
              (if r3 = 104 then
                (bn (fX8_takeHand h13 (h2 54 20)) (fun h21 =>
                  some h21))
               else
                (if r3 = 112 then
                  (bn2 (fX8_want h13 1 1 (h2 54 20)) (fun r25 h24 =>
                    (if (bi r25) = 0 then
                      some h24
                     else
                      (bn (fX8_takePaper h24 (h2 54 20)) (fun h28 =>
                        some h28)))))
                 else
                  (bn2 (fX8_want h13 0 1 (h2 54 20)) (fun r31 h30 =>
                    (if (bi r31) = 0 then
                      some h30
                     else
                      (bn (fX8_takePaper h30 (h2 54 20)) (fun h34 =>
                        some h34)))))))))))
       else
        (bn2 (fX8_want (aU h2 54 20 ((h2 54 20) + 1)) 1 1 (h2 54 20)) (fun r37 h36 =>
          (if (bi r37) = 0 then
            some h36
           else
            (if r3 = 100 then
              (bn (fX8_takeRains h36 (h2 54 20)) (fun h41 =>
                some h41))
             else
              (if r3 = 104 then
                (bn (fX8_takeHand h36 (h2 54 20)) (fun h44 =>
                  some h44))
               else
                (if r3 = 112 then
                  (bn2 (fX8_want h36 1 1 (h2 54 20)) (fun r48 h47 =>
                    (if (bi r48) = 0 then
                      some h47
                     else
                      (bn (fX8_takePaper h47 (h2 54 20)) (fun h51 =>
                        some h51)))))
                 else
                  (bn2 (fX8_want h36 0 1 (h2 54 20)) (fun r54 h53 =>
                    (if (bi r54) = 0 then
                      some h53
                     else
                      (bn (fX8_takePaper h53 (h2 54 20)) (fun h57 =>
                        some h57)))))))))))))))

def fX8_takeHands_L2 (K : aH → Option aH) : Nat → aH → Int32 → Option aH
  | 0, _, _ => none
  | n + 1, h, x1 =>
    (if 4 ≤ x1 then
      K h
     else
      (if ck (4 + x1) 8 = true then
        (if ck x1 8 = true then
          fX8_takeHands_L2 K n (aU (aU (aU h 59 (tn x1) (h 59 (tn (4 + x1)))) 60 (tn x1) (h 60 (tn (4 + x1)))) 61 (tn x1) (h 61 (tn (4 + x1)))) (x1 + 1)
         else none)
       else none))

def fX8_takeHands_L57 (K : aH → Option aH) : Nat → aH → Int32 → Option aH
  | 0, _, _ => none
  | n + 1, h, x1 =>
    (if 8 ≤ x1 then
      K h
     else
      (if ck (8 + x1) 16 = true then
        (if ck x1 16 = true then
          fX8_takeHands_L57 K n (aU h 58 (tn x1) (h 58 (tn (8 + x1)))) (x1 + 1)
         else none)
       else none))

def fX8_takeHands (h : aH) : Option aH :=
  (fX8_takeHands_L2   (fun h4 =>
      (fX8_takeHands_L57   (fun h8 =>
          some h8)
        1000 h4 0))
    1000 h 0)

def fX8_put (h : aH) (x1 : Int32) (x2 : Int32) (x3 : Int32) (x4 : Int32) : Option aH :=
  (if ck (48 + x1) 1782 = true then
    (if ck ((12 * x1) + (h 55 (tn (48 + x1)))) 1782 = true then
      some (aU (aU h 55 (tn ((12 * x1) + (h 55 (tn (48 + x1))))) ((x2 + (96 * x3)) + (384 * (x4 + 1)))) 55 (tn (48 + x1)) (((aU h 55 (tn ((12 * x1) + (h 55 (tn (48 + x1))))) ((x2 + (96 * x3)) + (384 * (x4 + 1)))) 55 (tn (48 + x1))) + 1))
     else none)
   else none)

def fX8_take_L10 (K : aH → Option aH) : Nat → aH → Int32 → Option aH
  | 0, _, _ => none
  | n + 1, h, x1 =>
    (if 3 ≤ x1 then
      K h
     else
      (if ck (3 + x1) 6 = true then
        (if ck x1 6 = true then
          fX8_take_L10 K n (aU h 57 (tn x1) (h 57 (tn (3 + x1)))) (x1 + 1)
         else none)
       else none))

def fX8_take_L124 (K : aH → Option aH) (x1 : Int32) : Nat → aH → Int32 → Option aH
  | 0, _, _ => none
  | n + 1, h, x2 =>
    (if (h 54 16) ≤ x1 then
      K h
     else
      (if ck x1 8 = true then
        (if (h 64 (tn x1)) ≤ x2 then
          K h
         else
          (if 96 ≤ ((h 63 (tn x1)) + x2) then
            K h
           else
            (bn (fX8_put h x1 ((h 63 (tn x1)) + x2) (h 62 (tn x1)) (-1)) (fun h17 =>
              fX8_take_L124 K x1 n h17 (x2 + 1)))))
       else none))

def fX8_take_L65 (K : aH → Option aH) : Nat → aH → Int32 → Option aH
  | 0, _, _ => none
  | n + 1, h, x1 =>
    (if 4 ≤ x1 then
      K h
     else
      (if ck (4 + x1) 8 = true then
        (if ck x1 8 = true then
          (if ck (48 + x1) 1782 = true then
            (fX8_take_L124   (fun h18 =>
                (if ck x1 4 = true then
                  fX8_take_L65 K n (aU h18 66 (tn x1) 0) (x1 + 1)
                 else none))
              x1 1000 (aU (aU (aU (aU h 62 (tn x1) (h 62 (tn (4 + x1)))) 63 (tn x1) (h 63 (tn (4 + x1)))) 64 (tn x1) (h 64 (tn (4 + x1)))) 55 (tn (48 + x1)) 0) 0)
           else none)
         else none)
       else none))

def fX8_take (h : aH) : Option aH :=
  (if (h 54 3) = 0 ∨ (h 54 3) = 1 then
    (fX8_take_L10   (fun h5 =>
        (bn (fX8_takeHands (aU (aU (aU h5 54 6 (h5 54 7)) 54 11 (h5 54 12)) 54 16 (h5 54 17))) (fun h7 =>
          (fX8_take_L65   (fun h20 =>
              some (aU (aU (aU (aU (aU h20 55 52 (-1)) 54 32 0) 54 25 0) 56 0 0) 56 1 0))
            1000 h7 0))))
      1000 (aU h 54 2 (h 54 3)) 0)
   else none)

def fX8_valley_L37 (K : aH → Option (Int32 × aH)) : Nat → aH → Int32 → Option (Int32 × aH)
  | 0, _, _ => none
  | n + 1, h, x1 =>
    (if 6 ≤ x1 then
      K h
     else
      (if ck x1 6 = true then
        fX8_valley_L37 K n (aU h 57 (tn x1) 0) (x1 + 1)
       else none))

def fX8_valley_L56 (K : aH → Option (Int32 × aH)) : Nat → aH → Option (Int32 × aH)
  | 0, _ => none
  | n + 1, h =>
    (if (h 54 22) = 0 then
      (bn2 (fX8_here h) (fun r7 h6 =>
        (if r7 < 0 then
          K h6
         else
          (bn (fX8_takeClause h6) (fun h10 =>
            (if (h10 54 22) = 0 then
              (bn2 (fX8_here h10) (fun r14 h13 =>
                (if r14 = 59 then
                  (bn2 (fX8_want h13 1 1 (h13 54 20)) (fun r18 h17 =>
                    (if (bi r18) = 0 then
                      fX8_valley_L56 K n h17
                     else
                      fX8_valley_L56 K n (aU h17 54 20 ((h17 54 20) + 1)))))
                 else
                  (bn2 (fX8_want h13 0 1 (h13 54 20)) (fun r22 h21 =>
                    (if (bi r22) = 0 then
                      fX8_valley_L56 K n h21
                     else
                      fX8_valley_L56 K n (aU h21 54 20 ((h21 54 20) + 1))))))))
             else
              fX8_valley_L56 K n h10))))))
     else
      K h)

def fX8_valley (h : aH) : Option (Int32 × aH) :=
  (fX8_valley_L37   (fun h3 =>
      (fX8_valley_L56   (fun h24 =>
          (if (h24 54 22) ≤ 0 then
            (bn (fX8_take (aU h24 54 19 0)) (fun h27 =>
              some (h27 54 16, h27)))
           else
            some ((-10) - (h24 54 22), (aU h24 54 19 0))))
        1000 h3))
    1000 (aU (aU (aU (aU (aU (aU (aU h 54 20 0) 54 22 0) 54 23 (-1)) 54 3 0) 54 7 0) 54 12 0) 54 17 0) 3)

def fX8_fault (h : aH) : Option Int32 :=
  some (h 54 23)

def fX8_isHand (h : aH) (x1 : Int32) : Option Bool :=
  (bn (fX8_in (Int32.toInt64 x1) 0 (Int32.toInt64 ((h 54 11) - 1))) (fun r2 =>
    some r2))

def fX8_isPaper (h : aH) (x1 : Int32) : Option Bool :=
  (bn (fX8_in (Int32.toInt64 x1) 0 (Int32.toInt64 ((h 54 16) - 1))) (fun r2 =>
    some r2))

def fX8_isLetter (h : aH) (x1 : Int32) (x2 : Int32) : Option Bool :=
  (bn (fX8_isPaper h x1) (fun r2 =>
    (if (bi r2) = 0 then
      some false
     else
      (if ck (48 + x1) 1782 = true then
        (bn (fX8_in (Int32.toInt64 x2) 0 (Int32.toInt64 ((h 55 (tn (48 + x1))) - 1))) (fun r6 =>
          (if (bi r6) = 0 then
            some false
           else
            some true)))
       else none))))

def fX8_isHour (x0 : Int32) : Option Bool :=
  (bn (fX8_in (Int32.toInt64 x0) 0 95) (fun r2 =>
    some r2))

def fX8_allLetters_L4 (K : Int32 → Option Int32) (h : aH) : Nat → Int32 → Int32 → Option Int32
  | 0, _, _ => none
  | n + 1, x1, x2 =>
    (if (h 54 16) ≤ x2 then
      K x1
     else
      (if ck (48 + x2) 1782 = true then
        fX8_allLetters_L4 K h n (x1 + (h 55 (tn (48 + x2)))) (x2 + 1)
       else none))

def fX8_allLetters (h : aH) : Option Int32 :=
  (fX8_allLetters_L4   (fun z3 =>
      some z3)
    h 1000 0 0)

def fX8_told (h : aH) (x1 : Int32) : Option Int32 :=
  (if x1 = 0 then
    (bn (fX8_one (h 54 2)) (fun r3 =>
      some r3))
   else
    (if x1 = 1 then
      some (h 57 0)
     else
      (if x1 = 2 then
        some (h 57 1)
       else
        (if x1 = 3 then
          some (h 57 2)
         else
          (if x1 = 4 then
            some (h 54 11)
           else
            (if x1 = 5 then
              some (h 54 16)
             else
              (if x1 = 6 then
                some (h 54 19)
               else
                (if x1 = 7 then
                  some (h 55 52)
                 else
                  (if x1 = 8 then
                    (bn (fX8_allLetters h) (fun r13 =>
                      some r13))
                   else
                    (if x1 = 9 then
                      some (h 54 32)
                     else
                      (if x1 = 10 then
                        some (h 54 25)
                       else
                        some (-1000000002))))))))))))

def fX8_rainOf (h : aH) (x1 : Int32) : Option Int32 :=
  (if (h 54 6) = 0 then
    some 0
   else
    (if ¬ (h 54 6) = 0 then
      (if ck (rmd x1 (h 54 6)) 16 = true then
        some (h 58 (tn (rmd x1 (h 54 6))))
       else none)
     else none))

def fX8_dampBy (h : aH) (x1 : Int32) (x2 : Int32) : Option Int32 :=
  (if (((rmd x1 12) - (h 57 2)) + 1) ≤ 0 then
    (if (((h 57 1) + x2) + 0) ≤ 19 then
      some (((h 57 1) + x2) + 0)
     else
      some 19)
   else
    (if (((h 57 1) + x2) + (((rmd x1 12) - (h 57 2)) + 1)) ≤ 19 then
      some (((h 57 1) + x2) + (((rmd x1 12) - (h 57 2)) + 1))
     else
      some 19))

def fX8_lightAt (h : aH) (x1 : Int32) : Option Int32 :=
  (if (h 57 2) ≤ (rmd x1 12) then
    (bn (fX8_one 0) (fun r3 =>
      some r3))
   else
    (bn (fX8_one 1) (fun r5 =>
      some r5)))

def fX8_weather (h : aH) (x1 : Int32) (x2 : Int32) : Option Int32 :=
  (bn (fX8_isHour x1) (fun r2 =>
    (if (bi r2) = 0 then
      some (-1000000002)
     else
      (bn (fX8_in (Int32.toInt64 x2) 0 2) (fun r5 =>
        (if (bi r5) = 0 then
          some (-1000000002)
         else
          (if (h 54 2) = 0 then
            some (-1000000003)
           else
            (if x2 = 0 then
              some (rmd ((h 57 0) * x1) 8)
             else
              (if x2 = 1 then
                (bn (fX8_rainOf h (x1 / 12)) (fun r11 =>
                  (bn (fX8_dampBy h x1 r11) (fun r13 =>
                    some r13))))
               else
                (bn (fX8_lightAt h x1) (fun r15 =>
                  some r15)))))))))))

def fX8_hand (h : aH) (x1 : Int32) (x2 : Int32) : Option Int32 :=
  (bn (fX8_isHand h x1) (fun r2 =>
    (if (bi r2) = 0 then
      some (-1000000001)
     else
      (if x2 = 0 then
        (if ck x1 8 = true then
          some (h 59 (tn x1))
         else none)
       else
        (if x2 = 1 then
          (if ck x1 8 = true then
            some (h 60 (tn x1))
           else none)
         else
          (if x2 = 2 then
            (if ck x1 8 = true then
              some (h 61 (tn x1))
             else none)
           else
            some (-1000000002)))))))

def fX8_lookBy (h : aH) (x1 : Int32) (x2 : Int32) (x3 : Int32) : Option Int32 :=
  (if ck x1 8 = true then
    (bn (fX8_dampBy h x2 x3) (fun r3 =>
      (bn (fX8_lightAt h x2) (fun r5 =>
        (if r5 = 1 then
          (if ((h 60 (tn x1)) + (r3 / 2)) ≤ 15 then
            (if ((h 61 (tn x1)) + 0) ≤ 9 then
              some (((1000 * (rmd ((h 59 (tn x1)) + (rmd ((h 57 0) * x2) 8)) 9)) + (10 * ((h 60 (tn x1)) + (r3 / 2)))) + ((h 61 (tn x1)) + 0))
             else
              some (((1000 * (rmd ((h 59 (tn x1)) + (rmd ((h 57 0) * x2) 8)) 9)) + (10 * ((h 60 (tn x1)) + (r3 / 2)))) + 9))
           else
            (if ((h 61 (tn x1)) + 0) ≤ 9 then
              some (((1000 * (rmd ((h 59 (tn x1)) + (rmd ((h 57 0) * x2) 8)) 9)) + (10 * 15)) + ((h 61 (tn x1)) + 0))
             else
              some (((1000 * (rmd ((h 59 (tn x1)) + (rmd ((h 57 0) * x2) 8)) 9)) + (10 * 15)) + 9)))
         else
          (if ((h 60 (tn x1)) + (r3 / 2)) ≤ 15 then
            (if ((h 61 (tn x1)) + 2) ≤ 9 then
              some (((1000 * (rmd ((h 59 (tn x1)) + (rmd ((h 57 0) * x2) 8)) 9)) + (10 * ((h 60 (tn x1)) + (r3 / 2)))) + ((h 61 (tn x1)) + 2))
             else
              some (((1000 * (rmd ((h 59 (tn x1)) + (rmd ((h 57 0) * x2) 8)) 9)) + (10 * ((h 60 (tn x1)) + (r3 / 2)))) + 9))
           else
            (if ((h 61 (tn x1)) + 2) ≤ 9 then
              some (((1000 * (rmd ((h 59 (tn x1)) + (rmd ((h 57 0) * x2) 8)) 9)) + (10 * 15)) + ((h 61 (tn x1)) + 2))
             else
              some (((1000 * (rmd ((h 59 (tn x1)) + (rmd ((h 57 0) * x2) 8)) 9)) + (10 * 15)) + 9))))))))
   else none)

def fX8_lookAt (h : aH) (x1 : Int32) (x2 : Int32) : Option Int32 :=
  (bn (fX8_rainOf h (x2 / 12)) (fun r2 =>
    (bn (fX8_lookBy h x1 x2 r2) (fun r4 =>
      some r4))))

def fX8_hourOf (h : aH) (x1 : Int32) (x2 : Int32) : Option Int32 :=
  (if ck ((12 * x1) + x2) 1782 = true then
    some (rmd (h 55 (tn ((12 * x1) + x2))) 96)
   else none)

def fX8_handOf (h : aH) (x1 : Int32) (x2 : Int32) : Option Int32 :=
  (if ck ((12 * x1) + x2) 1782 = true then
    some (rmd ((h 55 (tn ((12 * x1) + x2))) / 96) 4)
   else none)

def fX8_airOf (h : aH) (x1 : Int32) (x2 : Int32) : Option Int32 :=
  (if ck ((12 * x1) + x2) 1782 = true then
    some (((h 55 (tn ((12 * x1) + x2))) / 384) - 1)
   else none)

def fX8_lookOf (h : aH) (x1 : Int32) (x2 : Int32) : Option Int32 :=
  (bn (fX8_airOf h x1 x2) (fun r2 =>
    (bn (fX8_handOf h x1 x2) (fun r4 =>
      (if 0 ≤ r2 then
        (bn (fX8_lookAt h r4 r2) (fun r7 =>
          some r7))
       else
        (bn (fX8_hourOf h x1 x2) (fun r9 =>
          (bn (fX8_lookAt h r4 r9) (fun r11 =>
            some r11)))))))))

def fX8_forgedIn_L4 (K : Int32 → Option Int32) (h : aH) (x1 : Int32) : Nat → Int32 → Int32 → Option Int32
  | 0, _, _ => none
  | n + 1, x2, x3 =>
    (if ck (48 + x1) 1782 = true then
      (if (h 55 (tn (48 + x1))) ≤ x3 then
        K x2
       else
        (bn (fX8_airOf h x1 x3) (fun r4 =>
          (if r4 < 0 then
            (bn (fX8_one 0) (fun r7 =>
              fX8_forgedIn_L4 K h x1 n (x2 + r7) (x3 + 1)))
           else
            (bn (fX8_one 1) (fun r9 =>
              fX8_forgedIn_L4 K h x1 n (x2 + r9) (x3 + 1)))))))
     else none)

def fX8_forgedIn (h : aH) (x1 : Int32) : Option Int32 :=
  (fX8_forgedIn_L4   (fun z10 =>
      some z10)
    h x1 1000 0 0)

def fX8_letter (h : aH) (x1 : Int32) (x2 : Int32) (x3 : Int32) : Option Int32 :=
  (bn (fX8_isPaper h x1) (fun r2 =>
    (if (bi r2) = 0 then
      some (-1000000001)
     else
      (if x2 = (-1) then
        (if x3 = 0 then
          (if ck (48 + x1) 1782 = true then
            some (h 55 (tn (48 + x1)))
           else none)
         else
          (if x3 = 1 then
            (bn (fX8_forgedIn h x1) (fun r9 =>
              some r9))
           else
            some (-1000000002)))
       else
        (bn (fX8_isLetter h x1 x2) (fun r11 =>
          (if (bi r11) = 0 then
            some (-1000000001)
           else
            (if x3 = 0 then
              (bn (fX8_lookOf h x1 x2) (fun r15 =>
                some r15))
             else
              (if x3 = 1 then
                (bn (fX8_hourOf h x1 x2) (fun r18 =>
                  some r18))
               else
                (if x3 = 2 then
                  (bn (fX8_handOf h x1 x2) (fun r21 =>
                    some r21))
                 else
                  (if x3 = 3 then
                    (if ck x1 4 = true then
                      some (((h 66 (tn x1)) >>> (x2 &&& 31)) &&& 1)
                     else none)
                   else
                    (if x3 = 4 then
                      (bn (fX8_airOf h x1 x2) (fun r26 =>
                        (if r26 < 0 then
                          (bn (fX8_one 0) (fun r29 =>
                            some r29))
                         else
                          (bn (fX8_one 1) (fun r31 =>
                            some r31)))))
                     else
                      some (-1000000002)))))))))))))

def fX8_copy_L2 (K : aH → Option aH) (x1 : Int32) (x2 : Int32) : Nat → aH → Int32 → Option aH
  | 0, _, _ => none
  | n + 1, h, x3 =>
    (if 54 ≤ x3 then
      K h
     else
      (if ck (x1 + x3) 1782 = true then
        (if ck (x2 + x3) 1782 = true then
          fX8_copy_L2 K x1 x2 n (aU h 55 (tn (x2 + x3)) (h 55 (tn (x1 + x3)))) (x3 + 1)
         else none)
       else none))

def fX8_copy (h : aH) (x1 : Int32) (x2 : Int32) : Option aH :=
  (fX8_copy_L2   (fun h4 =>
      some h4)
    x1 x2 1000 h 0)

def fX8_remember_L11 (K : aH → Option aH) : Nat → aH → Int32 → Option aH
  | 0, _, _ => none
  | n + 1, h, x1 =>
    (if 30 ≤ x1 then
      K h
     else
      (bn (fX8_copy h (162 + (54 * x1)) (162 + (54 * (x1 - 1)))) (fun h4 =>
        fX8_remember_L11 K n h4 (x1 + 1))))

def fX8_remember (h : aH) : Option aH :=
  (if (h 54 25) = 30 then
    (fX8_remember_L11   (fun h5 =>
        (bn (fX8_copy (aU h5 54 25 ((h5 54 25) - 1)) 0 (162 + (54 * ((h5 54 25) - 1)))) (fun h7 =>
          some (aU h7 54 25 ((h7 54 25) + 1)))))
      1000 h 1)
   else
    (bn (fX8_copy h 0 (162 + (54 * (h 54 25)))) (fun h9 =>
      some (aU h9 54 25 ((h9 54 25) + 1)))))

def fX8_add (h : aH) (x1 : Int32) (x2 : Int32) (x3 : Int32) (x4 : Int32) : Option (Int32 × aH) :=
  (bn (fX8_isPaper h x1) (fun r2 =>
    (if (bi r2) = 0 then
      some ((-1000000001), h)
     else
      (bn (fX8_isHand h x2) (fun r5 =>
        (if (bi r5) = 0 then
          some ((-1000000001), h)
         else
          (bn (fX8_isHour x3) (fun r8 =>
            (if (bi r8) = 0 then
              some ((-1000000002), h)
             else
              (if x4 = 0 then
                (if ck (48 + x1) 1782 = true then
                  (if (h 55 (tn (48 + x1))) = 12 then
                    some ((-1000000004), h)
                   else
                    (bn (fX8_remember h) (fun h14 =>
                      (bn (fX8_put h14 x1 x3 x2 (-1)) (fun h16 =>
                        some (h16 55 (tn (48 + x1)), h16))))))
                 else none)
               else
                (if 0 ≤ (h 55 52) then
                  (if ck (48 + x1) 1782 = true then
                    (if (h 55 (tn (48 + x1))) = 12 then
                      some ((-1000000004), h)
                     else
                      (bn (fX8_remember h) (fun h21 =>
                        (bn (fX8_put h21 x1 x3 x2 (h21 55 52)) (fun h23 =>
                          some (h23 55 (tn (48 + x1)), h23))))))
                   else none)
                 else
                  some ((-1000000003), h))))))))))))

def fX8_blot (h : aH) (x1 : Int32) : Option (Int32 × aH) :=
  (bn (fX8_isPaper h x1) (fun r2 =>
    (if (bi r2) = 0 then
      some ((-1000000001), h)
     else
      (if ck (48 + x1) 1782 = true then
        (if (h 55 (tn (48 + x1))) = 0 then
          some ((-1000000003), h)
         else
          (bn (fX8_remember h) (fun h7 =>
            (bn (fX8_lookOf (aU h7 55 (tn (48 + x1)) ((h7 55 (tn (48 + x1))) - 1)) x1 ((h7 55 (tn (48 + x1))) - 1)) (fun r9 =>
              some (r9, (aU h7 55 (tn (48 + x1)) ((h7 55 (tn (48 + x1))) - 1))))))))
       else none))))

def fX8_bottle (h : aH) (x1 : Int32) : Option (Int32 × aH) :=
  (if x1 = (-1) then
    (if (h 54 2) = 0 then
      some ((-1000000003), h)
     else
      (bn (fX8_remember h) (fun h4 =>
        some (h4 55 52, (aU h4 55 52 x1)))))
   else
    (bn (fX8_isHour x1) (fun r6 =>
      (if (bi r6) = 0 then
        some ((-1000000002), h)
       else
        (if (h 54 2) = 0 then
          some ((-1000000003), h)
         else
          (bn (fX8_remember h) (fun h10 =>
            some (h10 55 52, (aU h10 55 52 x1)))))))))

def fX8_draw (h : aH) (x1 : Int32) : Option (Int32 × aH) :=
  (if ¬ x1 = 0 then
    some (rmd ((Int64.toInt32 (rmdL (((Int32.toInt64 (h 55 53)) * 1103515245) + 12345) 2147483648)) / 65536) x1, (aU h 55 53 (Int64.toInt32 (rmdL (((Int32.toInt64 (h 55 53)) * 1103515245) + 12345) 2147483648))))
   else none)

def fX8_drift_L34 (K : aH → Option (Int32 × aH)) (x1 : Int32) : Nat → aH → Int32 → Option (Int32 × aH)
  | 0, _, _ => none
  | n + 1, h, x2 =>
    (if x1 ≤ x2 then
      K h
     else
      (bn2 (fX8_draw h (h 54 16)) (fun r9 h8 =>
        (bn2 (fX8_draw h8 (h8 54 11)) (fun r12 h11 =>
          (bn2 (fX8_draw h11 96) (fun r15 h14 =>
            (if ck (48 + r9) 1782 = true then
              (if 12 ≤ (h14 55 (tn (48 + r9))) then
                fX8_drift_L34 K x1 n h14 (x2 + 1)
               else
                (bn (fX8_remember h14) (fun h19 =>
                  (bn (fX8_put h19 r9 r15 r12 (-1)) (fun h21 =>
                    fX8_drift_L34 K x1 n h21 (x2 + 1))))))
             else none))))))))

def fX8_drift (h : aH) (x1 : Int32) : Option (Int32 × aH) :=
  (bn (fX8_in (Int32.toInt64 x1) 1 30) (fun r2 =>
    (if (bi r2) = 0 then
      some ((-1000000002), h)
     else
      (if (h 54 11) = 0 then
        some ((-1000000003), h)
       else
        (if (h 54 16) = 0 then
          some ((-1000000003), h)
         else
          (fX8_drift_L34   (fun h22 =>
              (bn (fX8_allLetters h22) (fun r24 =>
                some (r24, h22))))
            x1 1000 h 0))))))

def fX8_undo (h : aH) (x1 : Int32) : Option (Int32 × aH) :=
  (bn (fX8_in (Int32.toInt64 x1) 1 30) (fun r2 =>
    (if (bi r2) = 0 then
      some ((-1000000002), h)
     else
      (if x1 ≤ (h 54 25) then
        (bn (fX8_copy (aU h 54 25 ((h 54 25) - x1)) (162 + (54 * ((h 54 25) - x1))) 0) (fun h6 =>
          (bn (fX8_allLetters (aU h6 55 53 (h 55 53))) (fun r8 =>
            some (r8, (aU h6 55 53 (h 55 53)))))))
       else
        some ((-1000000003), h)))))

def fX8_look (h : aH) (x1 : Int32) (x2 : Int32) : Option Int32 :=
  (bn (fX8_isHand h x1) (fun r2 =>
    (if (bi r2) = 0 then
      some (-1000000001)
     else
      (bn (fX8_isHour x2) (fun r5 =>
        (if (bi r5) = 0 then
          some (-1000000002)
         else
          (bn (fX8_lookAt h x1 x2) (fun r8 =>
            some r8))))))))

def fX8_hoursOf_L9 (K : Int32 → Int32 → Option Int32) (h : aH) (x1 : Int32) (x2 : Int32) (x3 : Int32) : Nat → Int32 → Int32 → Int32 → Option Int32
  | 0, _, _, _ => none
  | n + 1, x4, x5, x6 =>
    (if 96 ≤ x6 then
      K x4 x5
     else
      (bn (fX8_lookAt h x1 x6) (fun r3 =>
        (if r3 = x2 then
          (if x4 = x3 then
            fX8_hoursOf_L9 K h x1 x2 x3 n (x4 + 1) x6 (x6 + 1)
           else
            fX8_hoursOf_L9 K h x1 x2 x3 n (x4 + 1) x5 (x6 + 1))
         else
          fX8_hoursOf_L9 K h x1 x2 x3 n x4 x5 (x6 + 1)))))

def fX8_hoursOf (h : aH) (x1 : Int32) (x2 : Int32) (x3 : Int32) : Option Int32 :=
  (fX8_hoursOf_L9   (fun z6 z7 =>
      (if x3 = (-1) then
        some z6
       else
        some z7))
    h x1 x2 x3 1000 0 (-1) 0)

def fX8_written (h : aH) (x1 : Int32) (x2 : Int32) (x3 : Int32) (x4 : Int32) : Option Int32 :=
  (bn (fX8_isLetter h x1 x2) (fun r2 =>
    (if (bi r2) = 0 then
      some (-1000000001)
     else
      (bn (fX8_isHand h x3) (fun r5 =>
        (if (bi r5) = 0 then
          some (-1000000001)
         else
          (bn (fX8_lookOf h x1 x2) (fun r8 =>
            (bn (fX8_hoursOf h x3 r8 x4) (fun r10 =>
              some r10))))))))))

def fX8_who_L17 (K : Int32 → Option Int32) (h : aH) (x1 : Int32) (x2 : Int32) : Nat → Int32 → Int32 → Option Int32
  | 0, _, _ => none
  | n + 1, x3, x4 =>
    (if (h 54 11) ≤ x4 then
      K x3
     else
      (bn (fX8_lookOf h x1 x2) (fun r6 =>
        (bn (fX8_hoursOf h x4 r6 (-1)) (fun r8 =>
          (if r8 ≤ 0 then
            (bn (fX8_one 0) (fun r11 =>
              fX8_who_L17 K h x1 x2 n (x3 ||| (r11 <<< (x4 &&& 31))) (x4 + 1)))
           else
            (bn (fX8_one 1) (fun r13 =>
              fX8_who_L17 K h x1 x2 n (x3 ||| (r13 <<< (x4 &&& 31))) (x4 + 1)))))))))

def fX8_who (h : aH) (x1 : Int32) (x2 : Int32) : Option Int32 :=
  (bn (fX8_isLetter h x1 x2) (fun r2 =>
    (if (bi r2) = 0 then
      some (-1000000001)
     else
      (fX8_who_L17   (fun z14 =>
          some z14)
        h x1 x2 1000 0 0))))

def fX8_runFrom_L3 (K : Int32 → Option Int32) (h : aH) (x1 : Int32) (x2 : Int32) (x3 : Int32) (x4 : Int32) : Nat → Int32 → Option Int32
  | 0, _ => none
  | n + 1, x5 =>
    (if ck (48 + x1) 1782 = true then
      (if (h 55 (tn (48 + x1))) ≤ (x2 + x5) then
        K x5
       else
        (if 96 ≤ (x4 + x5) then
          K x5
         else
          (bn (fX8_lookAt h x3 (x4 + x5)) (fun r5 =>
            (bn (fX8_lookOf h x1 (x2 + x5)) (fun r7 =>
              (if r5 = r7 then
                fX8_runFrom_L3 K h x1 x2 x3 x4 n (x5 + 1)
               else
                K x5)))))))
     else none)

def fX8_runFrom (h : aH) (x1 : Int32) (x2 : Int32) (x3 : Int32) (x4 : Int32) : Option Int32 :=
  (fX8_runFrom_L3   (fun z9 =>
      some z9)
    h x1 x2 x3 x4 1000 0)

def fX8_dated_L46 (K : Int32 → Int32 → Int32 → Option Int32) (h : aH) (x1 : Int32) (x2 : Int32) (x3 : Int32) : Nat → Int32 → Int32 → Int32 → Int32 → Option Int32
  | 0, _, _, _, _ => none
  | n + 1, x4, x5, x6, x7 =>
    (if 96 ≤ x7 then
      K x4 x5 x6
     else
      (bn (fX8_runFrom h x1 0 x2 x7) (fun r12 =>
        (if ck (48 + x1) 1782 = true then
          (if r12 = (h 55 (tn (48 + x1))) then
            (if x4 = 0 then
              fX8_dated_L46 K h x1 x2 x3 n (x4 + 1) x7 x7 (x7 + 1)
             else
              fX8_dated_L46 K h x1 x2 x3 n (x4 + 1) x5 x7 (x7 + 1))
           else
            fX8_dated_L46 K h x1 x2 x3 n x4 x5 x6 (x7 + 1))
         else none))))

def fX8_dated (h : aH) (x1 : Int32) (x2 : Int32) (x3 : Int32) : Option Int32 :=
  (bn (fX8_isPaper h x1) (fun r2 =>
    (if (bi r2) = 0 then
      some (-1000000001)
     else
      (bn (fX8_isHand h x2) (fun r5 =>
        (if (bi r5) = 0 then
          some (-1000000001)
         else
          (bn (fX8_in (Int32.toInt64 x3) 0 2) (fun r8 =>
            (if (bi r8) = 0 then
              some (-1000000002)
             else
              (fX8_dated_L46   (fun z16 z17 z18 =>
                  (if x3 = 0 then
                    some z16
                   else
                    (if x3 = 1 then
                      some z17
                     else
                      some z18)))
                h x1 x2 x3 1000 0 (-1) (-1) 0))))))))))

def fX8_longestRun_L6 (K : Int32 → Option Int32) (h : aH) (x1 : Int32) (x2 : Int32) (x3 : Int32) : Nat → Int32 → Int32 → Option Int32
  | 0, _, _ => none
  | n + 1, x4, x5 =>
    (if 96 ≤ x5 then
      K x4
     else
      (bn (fX8_runFrom h x1 x2 x3 x5) (fun r3 =>
        (if r3 ≤ x4 then
          fX8_longestRun_L6 K h x1 x2 x3 n x4 (x5 + 1)
         else
          fX8_longestRun_L6 K h x1 x2 x3 n r3 (x5 + 1)))))

def fX8_longestRun (h : aH) (x1 : Int32) (x2 : Int32) (x3 : Int32) : Option Int32 :=
  (fX8_longestRun_L6   (fun z5 =>
      some z5)
    h x1 x2 x3 1000 0 0)

def fX8_addedAt_L50 (K : Int32 → Option Int32) (h : aH) (x1 : Int32) (x2 : Int32) : Nat → Int32 → Int32 → Option Int32
  | 0, _, _ => none
  | n + 1, x4, x5 =>
    (if ck (48 + x1) 1782 = true then
      (if (h 55 (tn (48 + x1))) ≤ x5 then
        K x4
       else
        (bn (fX8_longestRun h x1 x5 x2) (fun r16 =>
          (if r16 = 0 then
            some (-1)
           else
            fX8_addedAt_L50 K h x1 x2 n (x4 + 1) (x5 + r16)))))
     else none)

def fX8_addedAt (h : aH) (x1 : Int32) (x2 : Int32) (x3 : Int32) : Option Int32 :=
  (bn (fX8_isPaper h x1) (fun r2 =>
    (if (bi r2) = 0 then
      some (-1000000001)
     else
      (bn (fX8_isHand h x2) (fun r5 =>
        (if (bi r5) = 0 then
          some (-1000000001)
         else
          (bn (fX8_in (Int32.toInt64 x3) 0 1) (fun r8 =>
            (if (bi r8) = 0 then
              some (-1000000002)
             else
              (if x3 = 0 then
                (bn (fX8_longestRun h x1 0 x2) (fun r12 =>
                  some r12))
               else
                (fX8_addedAt_L50   (fun z18 =>
                    some z18)
                  h x1 x2 1000 0 0)))))))))))

def fX8_couldBegin_L26 (K : Int32 → Option Bool) (h : aH) (x1 : Int32) (x2 : Int32) (x3 : Int32) : Nat → Int32 → Int32 → Option Bool
  | 0, _, _ => none
  | n + 1, x4, x5 =>
    (if ck (48 + x1) 1782 = true then
      (if (h 55 (tn (48 + x1))) ≤ x5 then
        K x4
       else
        (if x4 = 0 then
          K x4
         else
          (if ck x1 4 = true then
            (bn (fX8_has (h 66 (tn x1)) x5) (fun r8 =>
              (if (bi r8) = 0 then
                fX8_couldBegin_L26 K h x1 x2 x3 n 1 (x5 + 1)
               else
                (bn (fX8_lookAt h x2 (x3 + x5)) (fun r11 =>
                  (bn (fX8_lookOf h x1 x5) (fun r13 =>
                    (if r11 = r13 then
                      fX8_couldBegin_L26 K h x1 x2 x3 n 1 (x5 + 1)
                     else
                      fX8_couldBegin_L26 K h x1 x2 x3 n 0 (x5 + 1)))))))))
           else none)))
     else none)

def fX8_couldBegin (h : aH) (x1 : Int32) (x2 : Int32) (x3 : Int32) : Option Bool :=
  (if ck (48 + x1) 1782 = true then
    (if 96 < (x3 + (h 55 (tn (48 + x1)))) then
      (fX8_couldBegin_L26   (fun z15 =>
          ib z15)
        h x1 x2 x3 1000 0 0)
     else
      (fX8_couldBegin_L26   (fun z16 =>
          ib z16)
        h x1 x2 x3 1000 1 0))
   else none)

def fX8_findBegins_L15 (K : aH → Int32 → Option (Int32 × aH)) (x1 : Int32) (x3 : Int32) : Nat → aH → Int32 → Int32 → Option (Int32 × aH)
  | 0, _, _, _ => none
  | n + 1, h, x2, x4 =>
    (if 96 ≤ x4 then
      K h x2
     else
      (bn (fX8_couldBegin h x1 x3 x4) (fun r4 =>
        (if ck ((96 * x3) + x4) 384 = true then
          (bn (fX8_one (bi r4)) (fun r7 =>
            fX8_findBegins_L15 K x1 x3 n (aU h 67 (tn ((96 * x3) + x4)) (bi r4)) (x2 + r7) (x4 + 1)))
         else none))))

def fX8_findBegins_L4 (K : aH → Int32 → Option (Int32 × aH)) (x1 : Int32) : Nat → aH → Int32 → Int32 → Option (Int32 × aH)
  | 0, _, _, _ => none
  | n + 1, h, x2, x3 =>
    (if (h 54 11) ≤ x3 then
      K h x2
     else
      (fX8_findBegins_L15   (fun h9 z8 =>
          fX8_findBegins_L4 K x1 n h9 z8 (x3 + 1))
        x1 x3 1000 h x2 0))

def fX8_findBegins (h : aH) (x1 : Int32) : Option (Int32 × aH) :=
  (fX8_findBegins_L4   (fun h11 z10 =>
      some (z10, h11))
    x1 1000 h 0 0)

def fX8_greatestPart_L4 (K : aH → Int32 → Option (Int32 × aH)) (x1 : Int32) : Nat → aH → Int32 → Int32 → Option (Int32 × aH)
  | 0, _, _, _ => none
  | n + 1, h, x2, x3 =>
    (if (96 * (h 54 11)) ≤ x3 then
      K h x2
     else
      (if ck x3 384 = true then
        (if (h 67 (tn x3)) = 0 then
          fX8_greatestPart_L4 K x1 n h x2 (x3 + 1)
         else
          (bn (fX8_lookAt h (x3 / 96) ((rmd x3 96) + x1)) (fun r5 =>
            (if ck r5 10000 = true then
              (if ((h 68 (tn r5)) + 1) ≤ x2 then
                fX8_greatestPart_L4 K x1 n (aU h 68 (tn r5) ((h 68 (tn r5)) + 1)) x2 (x3 + 1)
               else
                fX8_greatestPart_L4 K x1 n (aU h 68 (tn r5) ((h 68 (tn r5)) + 1)) ((h 68 (tn r5)) + 1) (x3 + 1))
             else none))))
       else none))

def fX8_greatestPart_L82 (K : aH → Option (Int32 × aH)) (x1 : Int32) (x2 : Int32) : Nat → aH → Int32 → Option (Int32 × aH)
  | 0, _, _ => none
  | n + 1, h, x3 =>
    (if (96 * (h 54 11)) ≤ x3 then
      K h
     else
      (if ck x3 384 = true then
        (if (h 67 (tn x3)) = 0 then
          fX8_greatestPart_L82 K x1 x2 n h (x3 + 1)
         else
          (bn (fX8_lookAt h (x3 / 96) ((rmd x3 96) + x1)) (fun r14 =>
            (if ck r14 10000 = true then
              fX8_greatestPart_L82 K x1 x2 n (aU h 68 (tn r14) 0) (x3 + 1)
             else none))))
       else none))

def fX8_greatestPart (h : aH) (x1 : Int32) : Option (Int32 × aH) :=
  (fX8_greatestPart_L4   (fun h9 z8 =>
      (fX8_greatestPart_L82   (fun h16 =>
          some (z8, h16))
        x1 z8 1000 h9 0))
    x1 1000 h 0 0)

def fX8_next_L39 (K : aH → Int32 → Option (Int32 × aH)) (x1 : Int32) (x2 : Int32) (x3 : Int32) : Nat → aH → Int32 → Int32 → Int32 → Option (Int32 × aH)
  | 0, _, _, _, _ => none
  | n + 1, h, x4, x5, x6 =>
    (if ck (48 + x1) 1782 = true then
      (if (h 55 (tn (48 + x1))) ≤ x6 then
        K h x4
       else
        (if x2 = 1 then
          (bn2 (fX8_greatestPart h x6) (fun r15 h14 =>
            (if x5 ≤ r15 then
              fX8_next_L39 K x1 x2 x3 n h14 x4 x5 (x6 + 1)
             else
              fX8_next_L39 K x1 x2 x3 n h14 x6 r15 (x6 + 1))))
         else
          K h x4))
     else none)

def fX8_next (h : aH) (x1 : Int32) (x2 : Int32) : Option (Int32 × aH) :=
  (bn (fX8_isPaper h x1) (fun r2 =>
    (if (bi r2) = 0 then
      some ((-1000000001), h)
     else
      (bn (fX8_in (Int32.toInt64 x2) 0 1) (fun r5 =>
        (if (bi r5) = 0 then
          some ((-1000000002), h)
         else
          (bn2 (fX8_findBegins h x1) (fun r9 h8 =>
            (fX8_next_L39   (fun h18 z17 =>
                (if x2 = 0 then
                  some (r9, h18)
                 else
                  some (z17, h18)))
              x1 x2 r9 1000 h8 (-1) r9 0)))))))))

def fX8_soonest_L36 (K : Unit → Option Int32) (h : aH) (x1 : Int32) (x2 : Int32) : Nat → Int32 → Option Int32
  | 0, _ => none
  | n + 1, x4 =>
    (if 96 ≤ x4 then
      K ()
     else
      (bn (fX8_lookAt h x1 x4) (fun r12 =>
        (if r12 = x2 then
          some x4
         else
          fX8_soonest_L36 K h x1 x2 n (x4 + 1)))))

def fX8_soonest (h : aH) (x1 : Int32) (x2 : Int32) (x3 : Int32) : Option Int32 :=
  (bn (fX8_isHand h x1) (fun r2 =>
    (if (bi r2) = 0 then
      some (-1000000001)
     else
      (bn (fX8_in (Int32.toInt64 x2) 0 9999) (fun r5 =>
        (if (bi r5) = 0 then
          some (-1000000002)
         else
          (bn (fX8_isHour x3) (fun r8 =>
            (if (bi r8) = 0 then
              some (-1000000002)
             else
              (fX8_soonest_L36   (fun (_ : Unit) =>
                  some (-1))
                h x1 x2 1000 x3))))))))))

def fX8_likely (h : aH) (x1 : Int32) (x2 : Int32) : Option Int32 :=
  (bn (fX8_isHand h x1) (fun r2 =>
    (if (bi r2) = 0 then
      some (-1000000001)
     else
      (bn (fX8_in (Int32.toInt64 x2) 0 9999) (fun r5 =>
        (if (bi r5) = 0 then
          some (-1000000002)
         else
          (bn (fX8_hoursOf h x1 x2 (-1)) (fun r8 =>
            some ((1000000 * r8) / 96)))))))))

def fX8_figure_L7 (K : Int32 → Option Int32) (x2 : Int32) : Nat → Int32 → Int32 → Option Int32
  | 0, _, _ => none
  | n + 1, x3, x4 =>
    (if x4 ≤ x2 then
      K x3
     else
      fX8_figure_L7 K x2 n (x3 / 4) (x4 + (-1)))

def fX8_figure (x0 : Int32) (x1 : Int32) (x2 : Int32) : Option Int32 :=
  (fX8_figure_L7   (fun z2 =>
      some (rmd z2 4))
    x2 1000 x0 (x1 - 1))

def fX8_layFits_L25 (K : Int32 → Option aH) (h : aH) (x1 : Int32) (x2 : Int32) : Nat → Int32 → Int32 → Option aH
  | 0, _, _ => none
  | n + 1, x3, x4 =>
    (if ck (48 + x1) 1782 = true then
      (if (h 55 (tn (48 + x1))) ≤ x4 then
        K x3
       else
        (bn (fX8_lookOf h x1 x4) (fun r6 =>
          (bn (fX8_hourOf h x1 x4) (fun r8 =>
            (bn (fX8_lookAt h x2 r8) (fun r10 =>
              (if r6 = r10 then
                (bn (fX8_one 1) (fun r13 =>
                  fX8_layFits_L25 K h x1 x2 n (x3 + r13) (x4 + 1)))
               else
                (bn (fX8_one 0) (fun r15 =>
                  fX8_layFits_L25 K h x1 x2 n (x3 + r15) (x4 + 1)))))))))))
     else none)

def fX8_layFits_L12 (K : aH → Option aH) (x1 : Int32) : Nat → aH → Int32 → Option aH
  | 0, _, _ => none
  | n + 1, h, x2 =>
    (if (h 54 11) ≤ x2 then
      K h
     else
      (fX8_layFits_L25   (fun z16 =>
          (if ck ((4 * x1) + x2) 16 = true then
            fX8_layFits_L12 K x1 n (aU h 69 (tn ((4 * x1) + x2)) z16) (x2 + 1)
           else none))
        h x1 x2 1000 0 0))

def fX8_layFits_L2 (K : aH → Option aH) : Nat → aH → Int32 → Option aH
  | 0, _, _ => none
  | n + 1, h, x1 =>
    (if (h 54 16) ≤ x1 then
      K h
     else
      (fX8_layFits_L12   (fun h18 =>
          fX8_layFits_L2 K n h18 (x1 + 1))
        x1 1000 h 0))

def fX8_layFits (h : aH) : Option aH :=
  (fX8_layFits_L2   (fun h19 =>
      some h19)
    1000 h 0)

def fX8_fitsBy_L7 (K : Int32 → Option Int32) (h : aH) (x1 : Int32) : Nat → Int32 → Int32 → Int32 → Option Int32
  | 0, _, _, _ => none
  | n + 1, x2, x3, x4 =>
    (if (h 54 16) ≤ x4 then
      K x3
     else
      (bn (fX8_figure x1 (h 54 16) x4) (fun r3 =>
        (if (h 54 11) ≤ r3 then
          some (-1)
         else
          (bn (fX8_has x2 r3) (fun r6 =>
            (if (bi r6) = 0 then
              (if ck ((4 * x4) + r3) 16 = true then
                fX8_fitsBy_L7 K h x1 n (x2 ||| (1 <<< (r3 &&& 31))) (x3 + (h 69 (tn ((4 * x4) + r3)))) (x4 + 1)
               else none)
             else
              some (-1))))))))

def fX8_fitsBy (h : aH) (x1 : Int32) : Option Int32 :=
  (fX8_fitsBy_L7   (fun z9 =>
      some z9)
    h x1 1000 0 0 0)

def fX8_hands_L27 (K : Int32 → Int32 → Option (Int32 × aH)) (h : aH) (x1 : Int32) : Nat → Int32 → Int32 → Int32 → Option (Int32 × aH)
  | 0, _, _, _ => none
  | n + 1, x2, x3, x4 =>
    (if (1 <<< ((2 * (h 54 16)) &&& 31)) ≤ x4 then
      K x2 x3
     else
      (bn (fX8_fitsBy h x4) (fun r6 =>
        (if r6 ≤ x3 then
          fX8_hands_L27 K h x1 n x2 x3 (x4 + 1)
         else
          fX8_hands_L27 K h x1 n x4 r6 (x4 + 1)))))

def fX8_hands (h : aH) (x1 : Int32) : Option (Int32 × aH) :=
  (if x1 = (-1) then
    (bn (fX8_layFits h) (fun h3 =>
      (fX8_hands_L27   (fun z8 z9 =>
          some (z9, h3))
        h3 x1 1000 (-1) (-1) 0)))
   else
    (bn (fX8_isPaper h x1) (fun r11 =>
      (if (bi r11) = 0 then
        some ((-1000000001), h)
       else
        (bn (fX8_layFits h) (fun h14 =>
          (fX8_hands_L27   (fun z15 z16 =>
              (if 0 ≤ z15 then
                (bn (fX8_figure z15 (h14 54 16) x1) (fun r19 =>
                  some (r19, h14)))
               else
                some (z16, h14)))
            h14 x1 1000 (-1) (-1) 0)))))))

def fX8_forged_L32 (K : Int32 → Int32 → Option Int32) (h : aH) (x1 : Int32) (x2 : Int32) : Nat → Int32 → Int32 → Int32 → Option Int32
  | 0, _, _, _ => none
  | n + 1, x3, x4, x5 =>
    (if ck (48 + x1) 1782 = true then
      (if (h 55 (tn (48 + x1))) ≤ x5 then
        K x3 x4
       else
        (bn (fX8_airOf h x1 x5) (fun r10 =>
          (if r10 < 0 then
            fX8_forged_L32 K h x1 x2 n x3 x4 (x5 + 1)
           else
            (bn (fX8_lookOf h x1 x5) (fun r13 =>
              (bn (fX8_handOf h x1 x5) (fun r15 =>
                (bn (fX8_hourOf h x1 x5) (fun r17 =>
                  (bn (fX8_lookAt h r15 r17) (fun r19 =>
                    (if r13 = r19 then
                      (bn (fX8_one 1) (fun r22 =>
                        (bn (fX8_one 0) (fun r24 =>
                          fX8_forged_L32 K h x1 x2 n (x3 + r22) (x4 ||| (r24 <<< (x5 &&& 31))) (x5 + 1)))))
                     else
                      (bn (fX8_one 0) (fun r26 =>
                        (bn (fX8_one 1) (fun r28 =>
                          fX8_forged_L32 K h x1 x2 n (x3 + r26) (x4 ||| (r28 <<< (x5 &&& 31))) (x5 + 1))))))))))))))))))
     else none)

def fX8_forged (h : aH) (x1 : Int32) (x2 : Int32) : Option Int32 :=
  (bn (fX8_isPaper h x1) (fun r2 =>
    (if (bi r2) = 0 then
      some (-1000000001)
     else
      (bn (fX8_in (Int32.toInt64 x2) 0 1) (fun r5 =>
        (if (bi r5) = 0 then
          some (-1000000002)
         else
          (fX8_forged_L32   (fun z29 z30 =>
              (if x2 = 0 then
                some z29
               else
                some z30))
            h x1 x2 1000 0 0 0)))))))

def fX8_air (h : aH) (x1 : Int32) (x2 : Int32) (x3 : Int32) : Option Int32 :=
  (bn (fX8_isHand h x1) (fun r2 =>
    (if (bi r2) = 0 then
      some (-1000000001)
     else
      (bn (fX8_isHour x2) (fun r5 =>
        (if (bi r5) = 0 then
          some (-1000000002)
         else
          (bn (fX8_lookAt h x1 x2) (fun r8 =>
            (bn (fX8_hoursOf h x1 r8 x3) (fun r10 =>
              some r10))))))))))

def fX8_rained_L17 (K : Int32 → Option Bool) (h : aH) (x1 : Int32) (x2 : Int32) (x4 : Int32) : Nat → Int32 → Int32 → Option Bool
  | 0, _, _ => none
  | n + 1, x3, x5 =>
    (if ck (48 + x4) 1782 = true then
      (if (h 55 (tn (48 + x4))) ≤ x5 then
        K x3
       else
        (if x3 = 0 then
          K x3
         else
          (bn (fX8_hourOf h x4 x5) (fun r6 =>
            (if (r6 / 12) = x1 then
              (bn (fX8_airOf h x4 x5) (fun r9 =>
                (if 0 ≤ r9 then
                  fX8_rained_L17 K h x1 x2 x4 n 1 (x5 + 1)
                 else
                  (bn (fX8_handOf h x4 x5) (fun r12 =>
                    (bn (fX8_hourOf h x4 x5) (fun r14 =>
                      (bn (fX8_lookBy h r12 r14 x2) (fun r16 =>
                        (bn (fX8_lookOf h x4 x5) (fun r18 =>
                          (if r16 = r18 then
                            fX8_rained_L17 K h x1 x2 x4 n 1 (x5 + 1)
                           else
                            fX8_rained_L17 K h x1 x2 x4 n 0 (x5 + 1)))))))))))))
             else
              fX8_rained_L17 K h x1 x2 x4 n 1 (x5 + 1))))))
     else none)

def fX8_rained_L5 (K : Int32 → Option Bool) (h : aH) (x1 : Int32) (x2 : Int32) : Nat → Int32 → Int32 → Option Bool
  | 0, _, _ => none
  | n + 1, x3, x4 =>
    (if (h 54 16) ≤ x4 then
      K x3
     else
      (fX8_rained_L17   (fun z20 =>
          fX8_rained_L5 K h x1 x2 n z20 (x4 + 1))
        h x1 x2 x4 1000 x3 0))

def fX8_rained (h : aH) (x1 : Int32) (x2 : Int32) : Option Bool :=
  (fX8_rained_L5   (fun z21 =>
      ib z21)
    h x1 x2 1000 1 0)

def fX8_rain_L29 (K : Int32 → Option Int32) (h : aH) (x1 : Int32) : Nat → Int32 → Int32 → Option Int32
  | 0, _, _ => none
  | n + 1, x2, x3 =>
    (if 10 ≤ x3 then
      K x2
     else
      (bn (fX8_rained h x1 x3) (fun r7 =>
        (bn (fX8_one (bi r7)) (fun r9 =>
          fX8_rain_L29 K h x1 n (x2 ||| (r9 <<< (x3 &&& 31))) (x3 + 1))))))

def fX8_rain (h : aH) (x1 : Int32) : Option Int32 :=
  (bn (fX8_in (Int32.toInt64 x1) 0 7) (fun r2 =>
    (if (bi r2) = 0 then
      some (-1000000002)
     else
      (if (h 54 2) = 0 then
        some (-1000000003)
       else
        (fX8_rain_L29   (fun z10 =>
            some z10)
          h x1 1000 0 0)))))

def fX8_measure (h : aH) (x1 : Int32) (x2 : Int32) : Option (Int32 × aH) :=
  (bn (fX8_isLetter h x1 x2) (fun r2 =>
    (if (bi r2) = 0 then
      some ((-1000000001), h)
     else
      (if ck x1 4 = true then
        (bn (fX8_ones ((h 66 (tn x1)) ||| (1 <<< (x2 &&& 31)))) (fun r6 =>
          some (r6, (aU h 66 (tn x1) ((h 66 (tn x1)) ||| (1 <<< (x2 &&& 31)))))))
       else none))))

def fX8_write (h : aH) (x1 : Int32) (x2 : Int32) (x3 : Int32) : Option (Int32 × aH) :=
  (bn (fX8_isPaper h x1) (fun r2 =>
    (if (bi r2) = 0 then
      some ((-1000000001), h)
     else
      (bn (fX8_in (Int32.toInt64 x2) 0 11) (fun r5 =>
        (if (bi r5) = 0 then
          some ((-1000000001), h)
         else
          (bn (fX8_in (Int32.toInt64 x3) 0 9999) (fun r8 =>
            (if (bi r8) = 0 then
              some ((-1000000002), h)
             else
              (if (h 54 32) = 20 then
                some ((-1000000004), h)
               else
                (if ck (h 54 32) 20 = true then
                  some ((h 54 32) + 1, (aU (aU (aU (aU h 70 (tn (h 54 32)) x1) 71 (tn (h 54 32)) x2) 72 (tn (h 54 32)) x3) 54 32 ((h 54 32) + 1)))
                 else none)))))))))))

def fX8_judge_L2 (K : Unit → Option Int32) (h : aH) : Nat → Int32 → Option Int32
  | 0, _ => none
  | n + 1, x1 =>
    (if (h 54 32) ≤ x1 then
      K ()
     else
      (if ck x1 20 = true then
        (bn (fX8_isLetter h (h 70 (tn x1)) (h 71 (tn x1))) (fun r4 =>
          (if (bi r4) = 0 then
            some x1
           else
            (bn (fX8_lookOf h (h 70 (tn x1)) (h 71 (tn x1))) (fun r7 =>
              (if r7 = (h 72 (tn x1)) then
                fX8_judge_L2 K h n (x1 + 1)
               else
                some x1))))))
       else none))

def fX8_judge (h : aH) : Option Int32 :=
  (fX8_judge_L2   (fun (_ : Unit) =>
      some (-1))
    h 1000 0)

def fX8_tear_L7 (K : aH → Int32 → Option (Int32 × aH)) : Nat → aH → Int32 → Int32 → Option (Int32 × aH)
  | 0, _, _, _ => none
  | n + 1, h, x1, x2 =>
    (if 4 ≤ x2 then
      K h x1
     else
      (if ck x2 4 = true then
        (bn (fX8_ones (h 66 (tn x2))) (fun r4 =>
          fX8_tear_L7 K n (aU h 66 (tn x2) 0) (x1 + r4) (x2 + 1)))
       else none))

def fX8_tear (h : aH) : Option (Int32 × aH) :=
  (fX8_tear_L7   (fun h6 z5 =>
      some (z5, (aU h6 54 32 0)))
    1000 h (h 54 32) 0)

def fX8_seed (h : aH) (x1 : Int32) : Option (Int32 × aH) :=
  (if 0 ≤ x1 then
    some (h 55 53, (aU h 55 53 x1))
   else
    some ((-1000000002), h))

def fX8_keep (h : aH) (x1 : Int32) : Option (Int32 × aH) :=
  (bn (fX8_in (Int32.toInt64 x1) 0 1) (fun r2 =>
    (if (bi r2) = 0 then
      some ((-1000000001), h)
     else
      (bn (fX8_copy h 0 (54 + (54 * x1))) (fun h5 =>
        (if ck x1 2 = true then
          some (1, (aU (aU h5 56 (tn x1) 1) 54 25 0))
         else none))))))

def fX8_goBack (h : aH) (x1 : Int32) : Option (Int32 × aH) :=
  (bn (fX8_in (Int32.toInt64 x1) 0 1) (fun r2 =>
    (if (bi r2) = 0 then
      some ((-1000000001), h)
     else
      (if ck x1 2 = true then
        (if (h 56 (tn x1)) = 0 then
          some ((-1000000003), h)
         else
          (bn (fX8_copy h (54 + (54 * x1)) 0) (fun h7 =>
            some (1, (aU h7 54 25 0)))))
       else none))))

def fL_law_L18 (sp : Nat × (Nat → Int32)) (K : aH → Option (Bool × aH)) : Nat → aH → Int32 → Option (Bool × aH)
  | 0, _, _ => none
  | n + 1, h, x3 =>
    (if ((nI sp.1) - 5) < x3 then
      K h
     else
      (if ck x3 sp.1 = true then
        (if ((sp.2 (tn x3)) &&& 31) = 0 then
          (if ck (x3 + 1) sp.1 = true then
            (bn2 (fX7_feed h (sp.2 (tn (x3 + 1)))) (fun r7 h6 =>
              (bn2 (fX8_feed h6 (sp.2 (tn (x3 + 1)))) (fun r10 h9 =>
                (if r7 = r10 then
                  fL_law_L18 sp K n h9 (x3 + 5)
                 else
                  some (false, h9))))))
           else none)
         else
          (if ((sp.2 (tn x3)) &&& 31) = 1 then
            (bn2 (fX7_valley h) (fun r15 h14 =>
              (bn2 (fX8_valley h14) (fun r18 h17 =>
                (if r15 = r18 then
                  fL_law_L18 sp K n h17 (x3 + 5)
                 else
                  some (false, h17))))))
           else
            (if ((sp.2 (tn x3)) &&& 31) = 2 then
              (bn (fX7_fault h) (fun r22 =>
                (bn (fX8_fault h) (fun r24 =>
                  (if r22 = r24 then
                    fL_law_L18 sp K n h (x3 + 5)
                   else
                    some (false, h))))))
             else
              (if ((sp.2 (tn x3)) &&& 31) = 3 then
                (if ck (x3 + 1) sp.1 = true then
                  (bn (fX7_told h (sp.2 (tn (x3 + 1)))) (fun r29 =>
                    (bn (fX8_told h (sp.2 (tn (x3 + 1)))) (fun r31 =>
                      (if r29 = r31 then
                        fL_law_L18 sp K n h (x3 + 5)
                       else
                        some (false, h))))))
                 else none)
               else
                (if ((sp.2 (tn x3)) &&& 31) = 4 then
                  (if ck (x3 + 1) sp.1 = true then
                    (if ck (x3 + 2) sp.1 = true then
                      (bn (fX7_weather h (sp.2 (tn (x3 + 1))) (sp.2 (tn (x3 + 2)))) (fun r37 =>
                        (bn (fX8_weather h (sp.2 (tn (x3 + 1))) (sp.2 (tn (x3 + 2)))) (fun r39 =>
                          (if r37 = r39 then
                            fL_law_L18 sp K n h (x3 + 5)
                           else
                            some (false, h))))))
                     else none)
                   else none)
                 else
                  (if ((sp.2 (tn x3)) &&& 31) = 5 then
                    (if ck (x3 + 1) sp.1 = true then
                      (if ck (x3 + 2) sp.1 = true then
                        (bn (fX7_hand h (sp.2 (tn (x3 + 1))) (sp.2 (tn (x3 + 2)))) (fun r45 =>
                          (bn (fX8_hand h (sp.2 (tn (x3 + 1))) (sp.2 (tn (x3 + 2)))) (fun r47 =>
                            (if r45 = r47 then
                              fL_law_L18 sp K n h (x3 + 5)
                             else
                              some (false, h))))))
                       else none)
                     else none)
                   else
                    (if ((sp.2 (tn x3)) &&& 31) = 6 then
                      (if ck (x3 + 1) sp.1 = true then
                        (if ck (x3 + 2) sp.1 = true then
                          (if ck (x3 + 3) sp.1 = true then
                            (bn (fX7_letter h (sp.2 (tn (x3 + 1))) (sp.2 (tn (x3 + 2))) (sp.2 (tn (x3 + 3)))) (fun r54 =>
                              (bn (fX8_letter h (sp.2 (tn (x3 + 1))) (sp.2 (tn (x3 + 2))) (sp.2 (tn (x3 + 3)))) (fun r56 =>
                                (if r54 = r56 then
                                  fL_law_L18 sp K n h (x3 + 5)
                                 else
                                  some (false, h))))))
                           else none)
                         else none)
                       else none)
                     else
                      (if ((sp.2 (tn x3)) &&& 31) = 7 then
                        (if ck (x3 + 1) sp.1 = true then
                          (if ck (x3 + 2) sp.1 = true then
                            (if ck (x3 + 3) sp.1 = true then
                              (if ck (x3 + 4) sp.1 = true then
                                (if (sp.2 (tn (x3 + 4))) = 0 then
                                  (bn2 (fX7_add h (sp.2 (tn (x3 + 1))) (sp.2 (tn (x3 + 2))) (sp.2 (tn (x3 + 3))) 0) (fun r66 h65 =>
                                    (bn2 (fX8_add h65 (sp.2 (tn (x3 + 1))) (sp.2 (tn (x3 + 2))) (sp.2 (tn (x3 + 3))) 0) (fun r69 h68 =>
                                      (if r66 = r69 then
                                        fL_law_L18 sp K n h68 (x3 + 5)
                                       else
                                        some (false, h68))))))
                                 else
                                  (bn2 (fX7_add h (sp.2 (tn (x3 + 1))) (sp.2 (tn (x3 + 2))) (sp.2 (tn (x3 + 3))) 1) (fun r73 h72 =>
                                    (bn2 (fX8_add h72 (sp.2 (tn (x3 + 1))) (sp.2 (tn (x3 + 2))) (sp.2 (tn (x3 + 3))) 1) (fun r76 h75 =>
                                      (if r73 = r76 then
                                        fL_law_L18 sp K n h75 (x3 + 5)
                                       else
                                        some (false, h75)))))))
                               else none)
                             else none)
                           else none)
                         else none)
                       else
                        (if ((sp.2 (tn x3)) &&& 31) = 8 then
                          (if ck (x3 + 1) sp.1 = true then
                            (bn2 (fX7_blot h (sp.2 (tn (x3 + 1)))) (fun r82 h81 =>
                              (bn2 (fX8_blot h81 (sp.2 (tn (x3 + 1)))) (fun r85 h84 =>
                                (if r82 = r85 then
                                  fL_law_L18 sp K n h84 (x3 + 5)
                                 else
                                  some (false, h84))))))
                           else none)
                         else
                          (if ((sp.2 (tn x3)) &&& 31) = 9 then
                            (if ck (x3 + 1) sp.1 = true then
                              (bn2 (fX7_bottle h (sp.2 (tn (x3 + 1)))) (fun r91 h90 =>
                                (bn2 (fX8_bottle h90 (sp.2 (tn (x3 + 1)))) (fun r94 h93 =>
                                  (if r91 = r94 then
                                    fL_law_L18 sp K n h93 (x3 + 5)
                                   else
                                    some (false, h93))))))
                             else none)
                           else
                            (if ((sp.2 (tn x3)) &&& 31) = 10 then
                              (if ck (x3 + 1) sp.1 = true then
                                (bn2 (fX7_drift h (sp.2 (tn (x3 + 1)))) (fun r100 h99 =>
                                  (bn2 (fX8_drift h99 (sp.2 (tn (x3 + 1)))) (fun r103 h102 =>
                                    (if r100 = r103 then
                                      fL_law_L18 sp K n h102 (x3 + 5)
                                     else
                                      some (false, h102))))))
                               else none)
                             else
                              (if ((sp.2 (tn x3)) &&& 31) = 11 then
                                (if ck (x3 + 1) sp.1 = true then
                                  (bn2 (fX7_undo h (sp.2 (tn (x3 + 1)))) (fun r109 h108 =>
                                    (bn2 (fX8_undo h108 (sp.2 (tn (x3 + 1)))) (fun r112 h111 =>
                                      (if r109 = r112 then
                                        fL_law_L18 sp K n h111 (x3 + 5)
                                       else
                                        some (false, h111))))))
                                 else none)
                               else
                                (if ((sp.2 (tn x3)) &&& 31) = 12 then
                                  (if ck (x3 + 1) sp.1 = true then
                                    (if ck (x3 + 2) sp.1 = true then
                                      (bn (fX7_look h (sp.2 (tn (x3 + 1))) (sp.2 (tn (x3 + 2)))) (fun r118 =>
                                        (bn (fX8_look h (sp.2 (tn (x3 + 1))) (sp.2 (tn (x3 + 2)))) (fun r120 =>
                                          (if r118 = r120 then
                                            fL_law_L18 sp K n h (x3 + 5)
                                           else
                                            some (false, h))))))
                                     else none)
                                   else none)
                                 else
                                  (if ((sp.2 (tn x3)) &&& 31) = 13 then
                                    (if ck (x3 + 1) sp.1 = true then
                                      (if ck (x3 + 2) sp.1 = true then
                                        (if ck (x3 + 3) sp.1 = true then
                                          (if ck (x3 + 4) sp.1 = true then
                                            (bn (fX7_written h (sp.2 (tn (x3 + 1))) (sp.2 (tn (x3 + 2))) (sp.2 (tn (x3 + 3))) (sp.2 (tn (x3 + 4)))) (fun r128 =>
                                              (bn (fX8_written h (sp.2 (tn (x3 + 1))) (sp.2 (tn (x3 + 2))) (sp.2 (tn (x3 + 3))) (sp.2 (tn (x3 + 4)))) (fun r130 =>
                                                (if r128 = r130 then
                                                  fL_law_L18 sp K n h (x3 + 5)
                                                 else
                                                  some (false, h))))))
                                           else none)
                                         else none)
                                       else none)
                                     else none)
                                   else
                                    (if ((sp.2 (tn x3)) &&& 31) = 14 then
                                      (if ck (x3 + 1) sp.1 = true then
                                        (if ck (x3 + 2) sp.1 = true then
                                          (bn (fX7_who h (sp.2 (tn (x3 + 1))) (sp.2 (tn (x3 + 2)))) (fun r136 =>
                                            (bn (fX8_who h (sp.2 (tn (x3 + 1))) (sp.2 (tn (x3 + 2)))) (fun r138 =>
                                              (if r136 = r138 then
                                                fL_law_L18 sp K n h (x3 + 5)
                                               else
                                                some (false, h))))))
                                         else none)
                                       else none)
                                     else
                                      (if ((sp.2 (tn x3)) &&& 31) = 15 then
                                        (if ck (x3 + 1) sp.1 = true then
                                          (if ck (x3 + 2) sp.1 = true then
                                            (if ck (x3 + 3) sp.1 = true then
                                              (bn (fX7_dated h (sp.2 (tn (x3 + 1))) (sp.2 (tn (x3 + 2))) (sp.2 (tn (x3 + 3)))) (fun r145 =>
                                                (bn (fX8_dated h (sp.2 (tn (x3 + 1))) (sp.2 (tn (x3 + 2))) (sp.2 (tn (x3 + 3)))) (fun r147 =>
                                                  (if r145 = r147 then
                                                    fL_law_L18 sp K n h (x3 + 5)
                                                   else
                                                    some (false, h))))))
                                             else none)
                                           else none)
                                         else none)
                                       else
                                        (if ((sp.2 (tn x3)) &&& 31) = 16 then
                                          (if ck (x3 + 1) sp.1 = true then
                                            (if ck (x3 + 2) sp.1 = true then
                                              (if ck (x3 + 3) sp.1 = true then
                                                (bn (fX7_addedAt h (sp.2 (tn (x3 + 1))) (sp.2 (tn (x3 + 2))) (sp.2 (tn (x3 + 3)))) (fun r154 =>
                                                  (bn (fX8_addedAt h (sp.2 (tn (x3 + 1))) (sp.2 (tn (x3 + 2))) (sp.2 (tn (x3 + 3)))) (fun r156 =>
                                                    (if r154 = r156 then
                                                      fL_law_L18 sp K n h (x3 + 5)
                                                     else
                                                      some (false, h))))))
                                               else none)
                                             else none)
                                           else none)
                                         else
                                          (if ((sp.2 (tn x3)) &&& 31) = 17 then
                                            (if ck (x3 + 1) sp.1 = true then
                                              (if ck (x3 + 2) sp.1 = true then
                                                (bn2 (fX7_next h (sp.2 (tn (x3 + 1))) (sp.2 (tn (x3 + 2)))) (fun r163 h162 =>
                                                  (bn2 (fX8_next h162 (sp.2 (tn (x3 + 1))) (sp.2 (tn (x3 + 2)))) (fun r166 h165 =>
                                                    (if r163 = r166 then
                                                      fL_law_L18 sp K n h165 (x3 + 5)
                                                     else
                                                      some (false, h165))))))
                                               else none)
                                             else none)
                                           else
                                            (if ((sp.2 (tn x3)) &&& 31) = 18 then
                                              (if ck (x3 + 1) sp.1 = true then
                                                (if ck (x3 + 2) sp.1 = true then
                                                  (if ck (x3 + 3) sp.1 = true then
                                                    (bn (fX7_soonest h (sp.2 (tn (x3 + 1))) (sp.2 (tn (x3 + 2))) (sp.2 (tn (x3 + 3)))) (fun r173 =>
                                                      (bn (fX8_soonest h (sp.2 (tn (x3 + 1))) (sp.2 (tn (x3 + 2))) (sp.2 (tn (x3 + 3)))) (fun r175 =>
                                                        (if r173 = r175 then
                                                          fL_law_L18 sp K n h (x3 + 5)
                                                         else
                                                          some (false, h))))))
                                                   else none)
                                                 else none)
                                               else none)
                                             else
                                              (if ((sp.2 (tn x3)) &&& 31) = 19 then
                                                (if ck (x3 + 1) sp.1 = true then
                                                  (if ck (x3 + 2) sp.1 = true then
                                                    (bn (fX7_likely h (sp.2 (tn (x3 + 1))) (sp.2 (tn (x3 + 2)))) (fun r181 =>
                                                      (bn (fX8_likely h (sp.2 (tn (x3 + 1))) (sp.2 (tn (x3 + 2)))) (fun r183 =>
                                                        (if r181 = r183 then
                                                          fL_law_L18 sp K n h (x3 + 5)
                                                         else
                                                          some (false, h))))))
                                                   else none)
                                                 else none)
                                               else
                                                (if ((sp.2 (tn x3)) &&& 31) = 20 then
                                                  (if ck (x3 + 1) sp.1 = true then
                                                    (bn2 (fX7_hands h (sp.2 (tn (x3 + 1)))) (fun r189 h188 =>
                                                      (bn2 (fX8_hands h188 (sp.2 (tn (x3 + 1)))) (fun r192 h191 =>
                                                        (if r189 = r192 then
                                                          fL_law_L18 sp K n h191 (x3 + 5)
                                                         else
                                                          some (false, h191))))))
                                                   else none)
                                                 else
                                                  (if ((sp.2 (tn x3)) &&& 31) = 21 then
                                                    (if ck (x3 + 1) sp.1 = true then
                                                      (if ck (x3 + 2) sp.1 = true then
                                                        (bn (fX7_forged h (sp.2 (tn (x3 + 1))) (sp.2 (tn (x3 + 2)))) (fun r198 =>
                                                          (bn (fX8_forged h (sp.2 (tn (x3 + 1))) (sp.2 (tn (x3 + 2)))) (fun r200 =>
                                                            (if r198 = r200 then
                                                              fL_law_L18 sp K n h (x3 + 5)
                                                             else
                                                              some (false, h))))))
                                                       else none)
                                                     else none)
                                                   else
                                                    (if ((sp.2 (tn x3)) &&& 31) = 22 then
                                                      (if ck (x3 + 1) sp.1 = true then
                                                        (if ck (x3 + 2) sp.1 = true then
                                                          (if ck (x3 + 3) sp.1 = true then
                                                            (bn (fX7_air h (sp.2 (tn (x3 + 1))) (sp.2 (tn (x3 + 2))) (sp.2 (tn (x3 + 3)))) (fun r207 =>
                                                              (bn (fX8_air h (sp.2 (tn (x3 + 1))) (sp.2 (tn (x3 + 2))) (sp.2 (tn (x3 + 3)))) (fun r209 =>
                                                                (if r207 = r209 then
                                                                  fL_law_L18 sp K n h (x3 + 5)
                                                                 else
                                                                  some (false, h))))))
                                                           else none)
                                                         else none)
                                                       else none)
                                                     else
                                                      (if ((sp.2 (tn x3)) &&& 31) = 23 then
                                                        (if ck (x3 + 1) sp.1 = true then
                                                          (bn (fX7_rain h (sp.2 (tn (x3 + 1)))) (fun r214 =>
                                                            (bn (fX8_rain h (sp.2 (tn (x3 + 1)))) (fun r216 =>
                                                              (if r214 = r216 then
                                                                fL_law_L18 sp K n h (x3 + 5)
                                                               else
                                                                some (false, h))))))
                                                         else none)
                                                       else
                                                        (if ((sp.2 (tn x3)) &&& 31) = 24 then
                                                          (if ck (x3 + 1) sp.1 = true then
                                                            (if ck (x3 + 2) sp.1 = true then
                                                              (bn2 (fX7_measure h (sp.2 (tn (x3 + 1))) (sp.2 (tn (x3 + 2)))) (fun r223 h222 =>
                                                                (bn2 (fX8_measure h222 (sp.2 (tn (x3 + 1))) (sp.2 (tn (x3 + 2)))) (fun r226 h225 =>
                                                                  (if r223 = r226 then
                                                                    fL_law_L18 sp K n h225 (x3 + 5)
                                                                   else
                                                                    some (false, h225))))))
                                                             else none)
                                                           else none)
                                                         else
                                                          (if ((sp.2 (tn x3)) &&& 31) = 25 then
                                                            (if ck (x3 + 1) sp.1 = true then
                                                              (if ck (x3 + 2) sp.1 = true then
                                                                (if ck (x3 + 3) sp.1 = true then
                                                                  (bn2 (fX7_write h (sp.2 (tn (x3 + 1))) (sp.2 (tn (x3 + 2))) (sp.2 (tn (x3 + 3)))) (fun r234 h233 =>
                                                                    (bn2 (fX8_write h233 (sp.2 (tn (x3 + 1))) (sp.2 (tn (x3 + 2))) (sp.2 (tn (x3 + 3)))) (fun r237 h236 =>
                                                                      (if r234 = r237 then
                                                                        fL_law_L18 sp K n h236 (x3 + 5)
                                                                       else
                                                                        some (false, h236))))))
                                                                 else none)
                                                               else none)
                                                             else none)
                                                           else
                                                            (if ((sp.2 (tn x3)) &&& 31) = 26 then
                                                              (bn (fX7_judge h) (fun r241 =>
                                                                (bn (fX8_judge h) (fun r243 =>
                                                                  (if r241 = r243 then
                                                                    fL_law_L18 sp K n h (x3 + 5)
                                                                   else
                                                                    some (false, h))))))
                                                             else
                                                              (if ((sp.2 (tn x3)) &&& 31) = 27 then
                                                                (bn2 (fX7_tear h) (fun r248 h247 =>
                                                                  (bn2 (fX8_tear h247) (fun r251 h250 =>
                                                                    (if r248 = r251 then
                                                                      fL_law_L18 sp K n h250 (x3 + 5)
                                                                     else
                                                                      some (false, h250))))))
                                                               else
                                                                (if ((sp.2 (tn x3)) &&& 31) = 28 then
                                                                  (if ck (x3 + 1) sp.1 = true then
                                                                    (bn2 (fX7_seed h (sp.2 (tn (x3 + 1)))) (fun r257 h256 =>
                                                                      (bn2 (fX8_seed h256 (sp.2 (tn (x3 + 1)))) (fun r260 h259 =>
                                                                        (if r257 = r260 then
                                                                          fL_law_L18 sp K n h259 (x3 + 5)
                                                                         else
                                                                          some (false, h259))))))
                                                                   else none)
                                                                 else
                                                                  (if ((sp.2 (tn x3)) &&& 31) = 29 then
                                                                    (if ck (x3 + 1) sp.1 = true then
                                                                      (bn2 (fX7_keep h (sp.2 (tn (x3 + 1)))) (fun r266 h265 =>
                                                                        (bn2 (fX8_keep h265 (sp.2 (tn (x3 + 1)))) (fun r269 h268 =>
                                                                          (if r266 = r269 then
                                                                            fL_law_L18 sp K n h268 (x3 + 5)
                                                                           else
                                                                            some (false, h268))))))
                                                                     else none)
                                                                   else
                                                                    (if ((sp.2 (tn x3)) &&& 31) = 30 then
                                                                      (if ck (x3 + 1) sp.1 = true then
                                                                        (bn2 (fX7_goBack h (sp.2 (tn (x3 + 1)))) (fun r275 h274 =>
                                                                          (bn2 (fX8_goBack h274 (sp.2 (tn (x3 + 1)))) (fun r278 h277 =>
                                                                            (if r275 = r278 then
                                                                              fL_law_L18 sp K n h277 (x3 + 5)
                                                                             else
                                                                              some (false, h277))))))
                                                                       else none)
                                                                     else
                                                                      fL_law_L18 sp K n h (x3 + 5))))))))))))))))))))))))))))))))
       else none))

def fL_law (sp : Nat × (Nat → Int32)) (h : aH) : Option (Bool × aH) :=
  (fL_law_L18 sp   (fun h280 =>
      some (true, h280))
    1000 h 0)
