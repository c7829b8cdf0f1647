/-! printed by wip/gen/dec.py: what each method does, as a function with faults -/
def fJ6_bitCount (a0 : Int32) (σ : Sto) : Option (Int32 × Sto) := (some ((((((((a0 - (((a0.toUInt32 >>> ((1 : Int32).toUInt32 &&& Int32.toUInt32 31)).toInt32) &&& 1431655765)) &&& 858993459) + ((((a0 - (((a0.toUInt32 >>> ((1 : Int32).toUInt32 &&& Int32.toUInt32 31)).toInt32) &&& 1431655765)).toUInt32 >>> ((2 : Int32).toUInt32 &&& Int32.toUInt32 31)).toInt32) &&& 858993459)) + (((((a0 - (((a0.toUInt32 >>> ((1 : Int32).toUInt32 &&& Int32.toUInt32 31)).toInt32) &&& 1431655765)) &&& 858993459) + ((((a0 - (((a0.toUInt32 >>> ((1 : Int32).toUInt32 &&& Int32.toUInt32 31)).toInt32) &&& 1431655765)).toUInt32 >>> ((2 : Int32).toUInt32 &&& Int32.toUInt32 31)).toInt32) &&& 858993459)).toUInt32 >>> ((4 : Int32).toUInt32 &&& Int32.toUInt32 31)).toInt32)) &&& 252645135) + (((((((a0 - (((a0.toUInt32 >>> ((1 : Int32).toUInt32 &&& Int32.toUInt32 31)).toInt32) &&& 1431655765)) &&& 858993459) + ((((a0 - (((a0.toUInt32 >>> ((1 : Int32).toUInt32 &&& Int32.toUInt32 31)).toInt32) &&& 1431655765)).toUInt32 >>> ((2 : Int32).toUInt32 &&& Int32.toUInt32 31)).toInt32) &&& 858993459)) + (((((a0 - (((a0.toUInt32 >>> ((1 : Int32).toUInt32 &&& Int32.toUInt32 31)).toInt32) &&& 1431655765)) &&& 858993459) + ((((a0 - (((a0.toUInt32 >>> ((1 : Int32).toUInt32 &&& Int32.toUInt32 31)).toInt32) &&& 1431655765)).toUInt32 >>> ((2 : Int32).toUInt32 &&& Int32.toUInt32 31)).toInt32) &&& 858993459)).toUInt32 >>> ((4 : Int32).toUInt32 &&& Int32.toUInt32 31)).toInt32)) &&& 252645135).toUInt32 >>> ((8 : Int32).toUInt32 &&& Int32.toUInt32 31)).toInt32)) + ((((((((a0 - (((a0.toUInt32 >>> ((1 : Int32).toUInt32 &&& Int32.toUInt32 31)).toInt32) &&& 1431655765)) &&& 858993459) + ((((a0 - (((a0.toUInt32 >>> ((1 : Int32).toUInt32 &&& Int32.toUInt32 31)).toInt32) &&& 1431655765)).toUInt32 >>> ((2 : Int32).toUInt32 &&& Int32.toUInt32 31)).toInt32) &&& 858993459)) + (((((a0 - (((a0.toUInt32 >>> ((1 : Int32).toUInt32 &&& Int32.toUInt32 31)).toInt32) &&& 1431655765)) &&& 858993459) + ((((a0 - (((a0.toUInt32 >>> ((1 : Int32).toUInt32 &&& Int32.toUInt32 31)).toInt32) &&& 1431655765)).toUInt32 >>> ((2 : Int32).toUInt32 &&& Int32.toUInt32 31)).toInt32) &&& 858993459)).toUInt32 >>> ((4 : Int32).toUInt32 &&& Int32.toUInt32 31)).toInt32)) &&& 252645135) + (((((((a0 - (((a0.toUInt32 >>> ((1 : Int32).toUInt32 &&& Int32.toUInt32 31)).toInt32) &&& 1431655765)) &&& 858993459) + ((((a0 - (((a0.toUInt32 >>> ((1 : Int32).toUInt32 &&& Int32.toUInt32 31)).toInt32) &&& 1431655765)).toUInt32 >>> ((2 : Int32).toUInt32 &&& Int32.toUInt32 31)).toInt32) &&& 858993459)) + (((((a0 - (((a0.toUInt32 >>> ((1 : Int32).toUInt32 &&& Int32.toUInt32 31)).toInt32) &&& 1431655765)) &&& 858993459) + ((((a0 - (((a0.toUInt32 >>> ((1 : Int32).toUInt32 &&& Int32.toUInt32 31)).toInt32) &&& 1431655765)).toUInt32 >>> ((2 : Int32).toUInt32 &&& Int32.toUInt32 31)).toInt32) &&& 858993459)).toUInt32 >>> ((4 : Int32).toUInt32 &&& Int32.toUInt32 31)).toInt32)) &&& 252645135).toUInt32 >>> ((8 : Int32).toUInt32 &&& Int32.toUInt32 31)).toInt32)).toUInt32 >>> ((16 : Int32).toUInt32 &&& Int32.toUInt32 31)).toInt32)) &&& 63, σ))

def lJ7_fill_5 (i0 : Nat) (a1 : Int32) : Nat → Int32 → Sto → Option (Sto)
  | 0, _, _ => none
  | n + 1, a2, σ => (if 60 ≤ a2 then (some σ) else (if Ix a2 60 then (lJ7_fill_5 i0 a1 n (a2 + 1) (sI σ 19 i0 a2.toNatClampNeg a1)) else none))
def fJ7_fill (i0 : Nat) (a1 : Int32) (σ : Sto) : Option (Sto) := (lJ7_fill_5 i0 a1 300 0 σ)

def f7_leave (a1 : Int32) (σ : Sto) : Option (Sto) := (some (sI σ 7 0 0 ((31 * (gI σ 7 0 0)) + a1)))

def f0_forkTelling_0 (i0 : Nat) (σ : Sto) : Option (Int32 × Sto) := (bV (f7_leave 1 σ) (fun s1 => (some (gI s1 0 i0 1, s1))))

def f0_forkTelling_1 (i0 : Nat) (σ : Sto) : Option (Int32 × Sto) := (bV (f7_leave 1 σ) (fun s1 => (some (gI s1 1 i0 1, s1))))

def f0_forkTelling_5 (i0 : Nat) (σ : Sto) : Option (Int32 × Sto) := (bV (f7_leave 1 σ) (fun s1 => (some (gI s1 5 i0 1, s1))))

def f0_kindNumber_0 (i0 : Nat) (σ : Sto) : Option (Int32 × Sto) := (some (0, σ))

def f0_polished_0 (i0 : Nat) (σ : Sto) : Option (Int32 × Sto) := (bV (f7_leave 4 σ) (fun s1 => (some (gI s1 0 i0 0, s1))))

def f0_polished_1 (i0 : Nat) (σ : Sto) : Option (Int32 × Sto) := (bV (f7_leave 4 σ) (fun s1 => (some (gI s1 1 i0 0, s1))))

def f0_pushForce_0 (i0 : Nat) (σ : Sto) : Option (Int32 × Sto) := (some (gI σ 0 i0 1, σ))

def f0_telling_0 (i0 : Nat) (σ : Sto) : Option (Int32 × Sto) := (bI (f0_forkTelling_0 i0 σ) (fun v1 s2 => (some (v1, s2))))

def f0_telling_1 (i0 : Nat) (σ : Sto) : Option (Int32 × Sto) := (bI (f0_forkTelling_1 i0 σ) (fun v1 s2 => (some (v1, s2))))

def f0_telling_5 (i0 : Nat) (σ : Sto) : Option (Int32 × Sto) := (bI (f0_forkTelling_5 i0 σ) (fun v1 s2 => (some (v1, s2))))

def f1_kindNumber_1 (i0 : Nat) (σ : Sto) : Option (Int32 × Sto) := (some (1, σ))

def f1_pushForce_1 (i0 : Nat) (σ : Sto) : Option (Int32 × Sto) := (some ((gI σ 1 i0 1) + 1, σ))

def f1_pushForce_5 (i0 : Nat) (σ : Sto) : Option (Int32 × Sto) := (some ((gI σ 5 i0 1) + 1, σ))

def f1_telling_1 (i0 : Nat) (σ : Sto) : Option (Int32 × Sto) := (bV (f7_leave 2 σ) (fun s1 => (bI (f0_telling_1 i0 s1) (fun v2 s3 => (some (v2 + 100, s3))))))

def f1_telling_5 (i0 : Nat) (σ : Sto) : Option (Int32 × Sto) := (bV (f7_leave 2 σ) (fun s1 => (bI (f0_telling_5 i0 s1) (fun v2 s3 => (some (v2 + 100, s3))))))

def f8_isBelow (a0 : Int32) (a1 : Int32) (σ : Sto) : Option (Int32 × Sto) := (if a0 < 0 then (some (0, σ)) else (if a1 ≤ a0 then (some (0, σ)) else (some (1, σ))))

def f2_hasSquare (i0 : Nat) (a1 : Int32) (σ : Sto) : Option (Int32 × Sto) := (bI (f8_isBelow a1 (gI σ 2 i0 11) σ) (fun v1 s2 => (if v1 = 0 ∨ v1 = 1 then some (v1, s2) else none)))

def f2_changeSign (i0 : Nat) (a1 : Int32) (a2 : Int32) (σ : Sto) : Option (Sto) := (bI (f2_hasSquare i0 a1 σ) (fun v1 s2 => (if v1 = 0 then (some s2) else (if Ix a1 30 then (some (sI s2 11 i0 a1.toNatClampNeg a2)) else none))))

def f2_eaterAt (i0 : Nat) (a1 : Int32) (σ : Sto) : Option (Option MA × Sto) := (bI (f8_isBelow a1 (gI σ 2 i0 3) σ) (fun v1 s2 => (if v1 = 0 then (some (none, s2)) else (if Ix a1 2 then (some (gR s2 13 i0 a1.toNatClampNeg, s2)) else none))))

def f2_hasPea (i0 : Nat) (a1 : Int32) (σ : Sto) : Option (Int32 × Sto) := (bI (f8_isBelow a1 (gI σ 2 i0 2) σ) (fun v1 s2 => (if v1 = 0 ∨ v1 = 1 then some (v1, s2) else none)))

def f8_peaOf (a0 : Int32) (σ : Sto) : Option (Int32 × Sto) := (some ((a0 / 10) - (a0 / 10) / 10 * 10, σ))

def f2_isCode (i0 : Nat) (a1 : Int32) (σ : Sto) : Option (Int32 × Sto) := (if a1 < 0 then (some (0, σ)) else (bI (f8_isBelow (a1 / 100) (gI σ 2 i0 3) σ) (fun v1 s2 => (if v1 = 0 then (some (0, s2)) else (bI (f8_peaOf a1 s2) (fun v3 s4 => (bI (f2_hasPea i0 v3 s4) (fun v5 s6 => (if v5 = 0 then (some (0, s6)) else (bI (f8_isBelow (a1 - a1 / 10 * 10) 4 s6) (fun v7 s8 => (if v7 = 0 then (some (0, s8)) else (some (1, s8))))))))))))))

def f2_isLaid (i0 : Nat) (σ : Sto) : Option (Int32 × Sto) := (if (gI σ 2 i0 3) ≤ 0 then (some (0, σ)) else (some (1, σ)))

def f8_codeOf (a0 : Int32) (a1 : Int32) (a2 : Int32) (σ : Sto) : Option (Int32 × Sto) := (some (((100 * a0) + (10 * a1)) + a2, σ))

def l2_listCodes_22 (k : Int32 → Sto → Option (Sto)) (i0 : Nat) (a1 : Int32) (a2 : Int32) : Nat → Int32 → Sto → Option (Sto)
  | 0, _, _ => none
  | n + 1, a3, σ => (if 4 ≤ a3 then (k a3 σ) else (if 40 ≤ (gI σ 2 i0 4) then (k a3 σ) else (bI (f8_codeOf a1 a2 a3 σ) (fun v1 s2 => (if Ix (gI σ 2 i0 4) 40 then (l2_listCodes_22 k i0 a1 a2 n (a3 + 1) (sI (sI s2 10 i0 (gI σ 2 i0 4).toNatClampNeg v1) 2 i0 4 ((gI (sI s2 10 i0 (gI σ 2 i0 4).toNatClampNeg v1) 2 i0 4) + 1))) else none)))))
def l2_listCodes_12 (k : Int32 → Sto → Option (Sto)) (i0 : Nat) (a1 : Int32) : Nat → Int32 → Sto → Option (Sto)
  | 0, _, _ => none
  | n + 1, a2, σ => (if (gI σ 2 i0 2) ≤ a2 then (k a2 σ) else (l2_listCodes_22 (fun v3 s4 => (l2_listCodes_12 k i0 a1 n (a2 + 1) s4)) i0 a1 a2 300 0 σ))
def l2_listCodes_2 (i0 : Nat) : Nat → Int32 → Sto → Option (Sto)
  | 0, _, _ => none
  | n + 1, a1, σ => (if (gI σ 2 i0 3) ≤ a1 then (some σ) else (l2_listCodes_12 (fun v5 s6 => (l2_listCodes_2 i0 n (a1 + 1) s6)) i0 a1 300 0 σ))
def f2_listCodes (i0 : Nat) (σ : Sto) : Option (Sto) := (l2_listCodes_2 i0 300 0 σ)

def f2_nextTo (i0 : Nat) (a1 : Int32) (a2 : Int32) (σ : Sto) : Option (Int32 × Sto) := (if (gI σ 2 i0 1) ≤ 0 then (some ((-1), σ)) else (if a1 < 0 then (some ((-1), σ)) else (if (gI σ 2 i0 11) ≤ a1 then (some ((-1), σ)) else (if a2 < 0 then (some ((-1), σ)) else (if a2 < 4 then (if ¬ (gI σ 2 i0 1) = 0 then (if Ix a2 4 then (if ¬ (gI σ 2 i0 1) = 0 then (if Ix a2 4 then (if ((a1 / (gI σ 2 i0 1)) + (gI σ 42 0 a2.toNatClampNeg)) < 0 then (some ((-1), σ)) else (if (gI σ 2 i0 0) ≤ ((a1 / (gI σ 2 i0 1)) + (gI σ 42 0 a2.toNatClampNeg)) then (some ((-1), σ)) else (if ((a1 - a1 / (gI σ 2 i0 1) * (gI σ 2 i0 1)) + (gI σ 43 0 a2.toNatClampNeg)) < 0 then (some ((-1), σ)) else (if ((a1 - a1 / (gI σ 2 i0 1) * (gI σ 2 i0 1)) + (gI σ 43 0 a2.toNatClampNeg)) < (gI σ 2 i0 1) then (some ((((a1 / (gI σ 2 i0 1)) + (gI σ 42 0 a2.toNatClampNeg)) * (gI σ 2 i0 1)) + ((a1 - a1 / (gI σ 2 i0 1) * (gI σ 2 i0 1)) + (gI σ 43 0 a2.toNatClampNeg)), σ)) else (some ((-1), σ)))))) else none) else none) else none) else none) else (some ((-1), σ)))))))

def f2_rowCodes (i0 : Nat) (σ : Sto) : Option (Int32 × Sto) := (some ((gI σ 2 i0 0) * ((gI σ 2 i0 1) + 1), σ))

def f2_signAt (i0 : Nat) (a1 : Int32) (σ : Sto) : Option (Int32 × Sto) := (if a1 < 0 then (some (0, σ)) else (if a1 < (gI σ 2 i0 11) then (if Ix a1 30 then (some (gI σ 11 i0 a1.toNatClampNeg, σ)) else none) else (some (0, σ))))

def f2_signOf (a0 : Int32) (σ : Sto) : Option (Int32 × Sto) := (if a0 = 46 then (some (0, σ)) else (if a0 = 103 then (some (1, σ)) else (if a0 = 109 then (some (2, σ)) else (if a0 = 111 then (some (0, σ)) else (some ((-9), σ))))))

def f2_startOf (i0 : Nat) (a1 : Int32) (σ : Sto) : Option (Int32 × Sto) := (bI (f2_hasPea i0 a1 σ) (fun v1 s2 => (if v1 = 0 then (some ((-9), s2)) else (if Ix a1 5 then (some (gI s2 12 i0 a1.toNatClampNeg, s2)) else none))))

def l2_startsOn_2 (i0 : Nat) (a1 : Int32) : Nat → Int32 → Sto → Option (Int32 × Sto)
  | 0, _, _ => none
  | n + 1, a2, σ => (if (gI σ 2 i0 2) ≤ a2 then (some (0, σ)) else (if Ix a2 5 then (if (gI σ 12 i0 a2.toNatClampNeg) = a1 then (some (1, σ)) else (l2_startsOn_2 i0 a1 n (a2 + 1) σ)) else none))
def f2_startsOn (i0 : Nat) (a1 : Int32) (σ : Sto) : Option (Int32 × Sto) := (l2_startsOn_2 i0 a1 300 0 σ)

def f2_takesStrength (i0 : Nat) (a1 : Int32) (σ : Sto) : Option (Int32 × Sto) := (if 2 ≤ (gI σ 2 i0 3) then (some (0, σ)) else (if a1 < 1 then (some (0, σ)) else (if a1 ≤ 4 then (if Ix (gI σ 2 i0 3) 2 then (some (1, (sI (sI σ 15 i0 (gI σ 2 i0 3).toNatClampNeg a1) 2 i0 3 ((gI (sI σ 15 i0 (gI σ 2 i0 3).toNatClampNeg a1) 2 i0 3) + 1)))) else none) else (some (0, σ)))))

def f2_takesEater (i0 : Nat) (a1 : Int32) (a2 : Int32) (σ : Sto) : Option (Int32 × Sto) := (if (gI σ 2 i0 3) < 2 then (if (a1 - a1 / 3 * 3) = 0 then (if a2 = 59 then (some (1, σ)) else (some (0, σ))) else (if (a1 - a1 / 3 * 3) = 1 then (if Ix (gI σ 2 i0 3) 2 then (if a2 = 102 then (some (1, (sI σ 14 i0 (gI σ 2 i0 3).toNatClampNeg a2))) else (if a2 = 107 then (some (1, (sI σ 14 i0 (gI σ 2 i0 3).toNatClampNeg a2))) else (if a2 = 115 then (some (1, (sI σ 14 i0 (gI σ 2 i0 3).toNatClampNeg a2))) else (some (0, (sI σ 14 i0 (gI σ 2 i0 3).toNatClampNeg a2)))))) else none) else (bI (f2_takesStrength i0 (a2 - 48) σ) (fun v1 s2 => (if v1 = 0 ∨ v1 = 1 then some (v1, s2) else none))))) else (some (0, σ)))

def f2_takesInRow (i0 : Nat) (a1 : Int32) (a2 : Int32) (σ : Sto) : Option (Int32 × Sto) := (if (gI σ 2 i0 1) < 0 then (if a2 = 59 then (some (1, σ)) else (some (0, σ))) else (if ¬ ((gI σ 2 i0 1) + 1) = 0 then (if (a1 - a1 / ((gI σ 2 i0 1) + 1) * ((gI σ 2 i0 1) + 1)) = 0 then (if a2 = 59 then (some (1, σ)) else (some (0, σ))) else (bI (f2_signOf a2 σ) (fun v1 s2 => (if v1 = (-9) then (some (0, s2)) else (if (gI s2 2 i0 11) < 30 then (if a2 = 111 then (if (gI s2 2 i0 2) < 5 then (if Ix (gI s2 2 i0 2) 5 then (if Ix (gI (sI (sI s2 12 i0 (gI s2 2 i0 2).toNatClampNeg (gI s2 2 i0 11)) 2 i0 2 ((gI (sI s2 12 i0 (gI s2 2 i0 2).toNatClampNeg (gI s2 2 i0 11)) 2 i0 2) + 1)) 2 i0 11) 30 then (some (1, (sI (sI (sI (sI s2 12 i0 (gI s2 2 i0 2).toNatClampNeg (gI s2 2 i0 11)) 2 i0 2 ((gI (sI s2 12 i0 (gI s2 2 i0 2).toNatClampNeg (gI s2 2 i0 11)) 2 i0 2) + 1)) 11 i0 (gI (sI (sI s2 12 i0 (gI s2 2 i0 2).toNatClampNeg (gI s2 2 i0 11)) 2 i0 2 ((gI (sI s2 12 i0 (gI s2 2 i0 2).toNatClampNeg (gI s2 2 i0 11)) 2 i0 2) + 1)) 2 i0 11).toNatClampNeg v1) 2 i0 11 ((gI (sI (sI (sI s2 12 i0 (gI s2 2 i0 2).toNatClampNeg (gI s2 2 i0 11)) 2 i0 2 ((gI (sI s2 12 i0 (gI s2 2 i0 2).toNatClampNeg (gI s2 2 i0 11)) 2 i0 2) + 1)) 11 i0 (gI (sI (sI s2 12 i0 (gI s2 2 i0 2).toNatClampNeg (gI s2 2 i0 11)) 2 i0 2 ((gI (sI s2 12 i0 (gI s2 2 i0 2).toNatClampNeg (gI s2 2 i0 11)) 2 i0 2) + 1)) 2 i0 11).toNatClampNeg v1) 2 i0 11) + 1)))) else none) else none) else (some (0, s2))) else (if Ix (gI s2 2 i0 11) 30 then (some (1, (sI (sI s2 11 i0 (gI s2 2 i0 11).toNatClampNeg v1) 2 i0 11 ((gI (sI s2 11 i0 (gI s2 2 i0 11).toNatClampNeg v1) 2 i0 11) + 1)))) else none)) else (some (0, s2))))))) else none))

def f2_takesBehindHead (i0 : Nat) (a1 : Int32) (a2 : Int32) (σ : Sto) : Option (Int32 × Sto) := (bI (f2_rowCodes i0 σ) (fun v1 s2 => (if v1 ≤ a1 then (bI (f2_takesEater i0 (a1 - v1) a2 s2) (fun v3 s4 => (if v3 = 0 ∨ v3 = 1 then some (v3, s4) else none))) else (bI (f2_takesInRow i0 a1 a2 s2) (fun v5 s6 => (if v5 = 0 ∨ v5 = 1 then some (v5, s6) else none))))))

def f2_takes (i0 : Nat) (a1 : Int32) (a2 : Int32) (σ : Sto) : Option (Int32 × Sto) := (if a1 = 0 then (if a2 = 112 then (some (1, σ)) else (some (0, σ))) else (if a1 = 1 then (if (gI (sI σ 2 i0 0 (a2 - 48)) 2 i0 0) < 2 then (some (0, (sI σ 2 i0 0 (a2 - 48)))) else (if 5 < (gI (sI σ 2 i0 0 (a2 - 48)) 2 i0 0) then (some (0, (sI σ 2 i0 0 (a2 - 48)))) else (some (1, (sI σ 2 i0 0 (a2 - 48)))))) else (if a1 = 2 then (if (gI (sI σ 2 i0 1 (a2 - 48)) 2 i0 1) < 2 then (some (0, (sI σ 2 i0 1 (a2 - 48)))) else (if 6 < (gI (sI σ 2 i0 1 (a2 - 48)) 2 i0 1) then (some (0, (sI σ 2 i0 1 (a2 - 48)))) else (some (1, (sI σ 2 i0 1 (a2 - 48)))))) else (bI (f2_takesBehindHead i0 (a1 - 3) a2 σ) (fun v1 s2 => (if v1 = 0 ∨ v1 = 1 then some (v1, s2) else none))))))

def f2_wipe (i0 : Nat) (σ : Sto) : Option (Sto) := (some (sI (sI (sI (sI (sI (sI σ 2 i0 0 0) 2 i0 1 0) 2 i0 11 0) 2 i0 2 0) 2 i0 3 0) 2 i0 4 0))

def l6_copyFrom_34 (i0 : Nat) (i1 : Nat) : Nat → Int32 → Sto → Option (Sto)
  | 0, _, _ => none
  | n + 1, a2, σ => (if 5 ≤ a2 then (some σ) else (if Ix a2 5 then (if Ix a2 5 then (l6_copyFrom_34 i0 i1 n (a2 + 1) (sI σ 16 i0 a2.toNatClampNeg (gI σ 16 i1 a2.toNatClampNeg))) else none) else none))
def f6_copyFrom (i0 : Nat) (i1 : Nat) (σ : Sto) : Option (Sto) := (l6_copyFrom_34 i0 i1 300 0 (sI (sI (sI (sR σ 6 i0 0 (gR σ 6 i1 0)) 6 i0 3 (gI (sR σ 6 i0 0 (gR σ 6 i1 0)) 6 i1 3)) 6 i0 1 (gI (sI (sR σ 6 i0 0 (gR σ 6 i1 0)) 6 i0 3 (gI (sR σ 6 i0 0 (gR σ 6 i1 0)) 6 i1 3)) 6 i1 1)) 6 i0 2 (gI (sI (sI (sR σ 6 i0 0 (gR σ 6 i1 0)) 6 i0 3 (gI (sR σ 6 i0 0 (gR σ 6 i1 0)) 6 i1 3)) 6 i0 1 (gI (sI (sR σ 6 i0 0 (gR σ 6 i1 0)) 6 i0 3 (gI (sR σ 6 i0 0 (gR σ 6 i1 0)) 6 i1 3)) 6 i1 1)) 6 i1 2)))

def f6_spotOf (i0 : Nat) (a1 : Int32) (σ : Sto) : Option (Int32 × Sto) := (if a1 < 0 then (some ((-9), σ)) else (if a1 < 5 then (if Ix a1 5 then (some (gI σ 16 i0 a1.toNatClampNeg, σ)) else none) else (some ((-9), σ))))

def f6_isOn (i0 : Nat) (a1 : Int32) (σ : Sto) : Option (Int32 × Sto) := (bI (f6_spotOf i0 a1 σ) (fun v1 s2 => (if v1 = (-9) then (some (0, s2)) else (some (1, s2)))))

def f5_pushForce_5 (i0 : Nat) (σ : Sto) : Option (Int32 × Sto) := (bI (f1_pushForce_5 i0 σ) (fun v1 s2 => (some (2 * v1, s2))))

def l6_peaOn_2 (i0 : Nat) (a1 : Int32) : Nat → Int32 → Sto → Option (Int32 × Sto)
  | 0, _, _ => none
  | n + 1, a2, σ => (if 5 ≤ a2 then (some ((-9), σ)) else (if Ix a2 5 then (if (gI σ 16 i0 a2.toNatClampNeg) = a1 then (some (a2, σ)) else (l6_peaOn_2 i0 a1 n (a2 + 1) σ)) else none))
def f6_peaOn (i0 : Nat) (a1 : Int32) (σ : Sto) : Option (Int32 × Sto) := (l6_peaOn_2 i0 a1 300 0 σ)

def l6_behindLine_17 (i0 : Nat) (a2 : Int32) : Nat → Int32 → Int32 → Sto → Option (Int32 × Sto)
  | 0, _, _, _ => none
  | n + 1, a3, a4, σ => (if 5 ≤ a4 then (some (a3, σ)) else (if a3 = (-1) then (some (a3, σ)) else (bI (f6_peaOn i0 a3 σ) (fun v6 s7 => (if v6 = (-9) then (some (a3, s7)) else (dr 2 (gR s7 6 i0 0) (fun i8 => (bI (f2_nextTo i8 a3 a2 s7) (fun v9 s10 => (l6_behindLine_17 i0 a2 n v9 (a4 + 1) s10))))))))))
def f6_behindLine (i0 : Nat) (a1 : Int32) (a2 : Int32) (σ : Sto) : Option (Int32 × Sto) := (bI (f6_spotOf i0 a1 σ) (fun v1 s2 => (dr 2 (gR σ 6 i0 0) (fun i3 => (bI (f2_nextTo i3 v1 a2 s2) (fun v4 s5 => (l6_behindLine_17 i0 a2 300 v4 0 s5)))))))

def f6_isHeld (i0 : Nat) (a1 : Int32) (a2 : Int32) (σ : Sto) : Option (Int32 × Sto) := (bI (f6_isOn i0 a1 σ) (fun v1 s2 => (if v1 = 0 then (some (0, s2)) else (bI (f6_behindLine i0 a1 a2 s2) (fun v3 s4 => (if v3 = (-1) then (if (gI s4 6 i0 3) = 2 then (some (1, s4)) else (some (0, s4))) else (dr 2 (gR s4 6 i0 0) (fun i5 => (bI (f2_signAt i5 v3 s4) (fun v6 s7 => (if v6 = 2 then (some (1, s7)) else (some (0, s7)))))))))))))

def f6_comeToRim (i0 : Nat) (a1 : Int32) (σ : Sto) : Option (Sto) := (if (gI σ 6 i0 3) = 1 then (if Ix a1 5 then (some (sI (sI σ 6 i0 2 ((gI σ 6 i0 2) ||| (1 <<< (a1 &&& 31)))) 16 i0 a1.toNatClampNeg (-9))) else none) else (some σ))

def l6_roll_9 (i0 : Nat) : Nat → Int32 → Int32 → Int32 → Sto → Option (Sto)
  | 0, _, _, _, _ => none
  | n + 1, a4, a5, a6, σ => (if a6 ≤ 0 then (some σ) else (if Ix a4 5 then (dr 2 (gR σ 6 i0 0) (fun i1 => (bI (f2_nextTo i1 (gI σ 16 i0 a4.toNatClampNeg) a5 σ) (fun v2 s3 => (if v2 = (-1) then (if (gI s3 6 i0 3) = 0 then (l6_roll_9 i0 n a4 ((a5 + 2) - (a5 + 2) / 4 * 4) (a6 + (-1)) s3) else (bV (f6_comeToRim i0 a4 s3) (fun s14 => (some s14)))) else (dr 2 (gR s3 6 i0 0) (fun i4 => (bI (f2_signAt i4 v2 s3) (fun v5 s6 => (if v5 = 2 then (some s6) else (bI (f6_peaOn i0 v2 s6) (fun v7 s8 => (if v7 = (-9) then (if Ix a4 5 then (dr 2 (gR (sI s8 16 i0 a4.toNatClampNeg v2) 6 i0 0) (fun i9 => (bI (f2_signAt i9 v2 (sI s8 16 i0 a4.toNatClampNeg v2)) (fun v10 s11 => (if v10 = 1 then (some s11) else (l6_roll_9 i0 n a4 a5 (a6 + (-1)) s11)))))) else none) else (bI (f6_peaOn i0 v2 s8) (fun v12 s13 => (l6_roll_9 i0 n v12 a5 (a6 + (-1)) s13)))))))))))))))) else none))
def f6_roll (i0 : Nat) (a1 : Int32) (a2 : Int32) (a3 : Int32) (σ : Sto) : Option (Sto) := (l6_roll_9 i0 300 a1 a2 a3 σ)

def f6_pushByCode (i0 : Nat) (a1 : Int32) (σ : Sto) : Option (Sto) := (dr 2 (gR σ 6 i0 0) (fun i1 => (bI (f2_eaterAt i1 (a1 / 100) σ) (fun v2 s3 => (bI (f8_peaOf a1 s3) (fun v4 s5 => (rcs v2 (some s5) (fun k6 i7 => (bI (f6_isOn i0 v4 s5) (fun v8 s9 => (if v8 = 0 then (some s9) else (bI (f6_isHeld i0 v4 (a1 - a1 / 10 * 10) s9) (fun v10 s11 => (if v10 = 0 then (fk k6 (bI (f0_pushForce_0 i7 s11) (fun v12 s13 => (bV (f6_roll i0 v4 (a1 - a1 / 10 * 10) v12 s13) (fun s14 => (some s14))))) (bI (f1_pushForce_1 i7 s11) (fun v15 s16 => (bV (f6_roll i0 v4 (a1 - a1 / 10 * 10) v15 s16) (fun s17 => (some s17))))) (bI (f5_pushForce_5 i7 s11) (fun v18 s19 => (bV (f6_roll i0 v4 (a1 - a1 / 10 * 10) v18 s19) (fun s20 => (some s20)))))) else (if Ix v4 5 then (some (sI (sI s11 6 i0 1 ((gI s11 6 i0 1) ||| (1 <<< (v4 &&& 31)))) 16 i0 v4.toNatClampNeg (-9))) else none)))))))))))))))

def f3_stepsOn (a1 : Int32) (a2 : Int32) (σ : Sto) : Option (Int32 × Sto) := (bI (f8_isBelow a1 2 σ) (fun v1 s2 => (if v1 = 0 then (some (0, s2)) else (if Ix a1 3 then (bI (f8_peaOf a2 s2) (fun v3 s4 => (bI (f6_isOn (a1.toNatClampNeg + 2) v3 s4) (fun v5 s6 => (if v5 = 0 then (some (0, s6)) else (if Ix (a1 + 1) 3 then (if Ix a1 3 then (bV (f6_copyFrom ((a1 + 1).toNatClampNeg + 2) (a1.toNatClampNeg + 2) s6) (fun s7 => (if Ix (a1 + 1) 3 then (bV (f6_pushByCode ((a1 + 1).toNatClampNeg + 2) a2 s7) (fun s8 => (some (1, s8)))) else none))) else none) else none)))))) else none))))

def f4_begin (i0 : Nat) (a1 : Int32) (a2 : Int32) (σ : Sto) : Option (Sto) := (bV (fJ7_fill i0 0 (sI (sI σ 4 i0 1 a1) 4 i0 2 (if 60 < a2 then 60 else a2))) (fun s1 => (some s1)))

def f4_cut (i0 : Nat) (a1 : Int32) (σ : Sto) : Option (Int32 × Sto) := (if (gI σ 4 i0 1) = 0 then (some (a1.toInt8.toInt32, σ)) else (if (gI σ 4 i0 1) = 1 then (some (a1.toInt16.toInt32, σ)) else (some (a1, σ))))

def f4_drop (i0 : Nat) (σ : Sto) : Option (Sto) := (some (sI σ 4 i0 2 (-1)))

def f4_isNothing (i0 : Nat) (σ : Sto) : Option (Int32 × Sto) := (if (gI σ 4 i0 2) = (-1) then (some (1, σ)) else (some (0, σ)))

def f4_faultOfLane (i0 : Nat) (a1 : Int32) (σ : Sto) : Option (Int32 × Sto) := (bI (f4_isNothing i0 σ) (fun v1 s2 => (if v1 = 0 then (if (gI s2 4 i0 1) = a1 then (some (0, s2)) else (some (2, s2))) else (some (1, s2)))))

def f4_hasCell (i0 : Nat) (a1 : Int32) (σ : Sto) : Option (Int32 × Sto) := (bI (f8_isBelow a1 (gI σ 4 i0 2) σ) (fun v1 s2 => (if v1 = 0 ∨ v1 = 1 then some (v1, s2) else none)))

def f4_faultOfCell (i0 : Nat) (a1 : Int32) (a2 : Int32) (σ : Sto) : Option (Int32 × Sto) := (bI (f4_faultOfLane i0 a1 σ) (fun v1 s2 => (if v1 = 0 then (bI (f4_hasCell i0 a2 s2) (fun v3 s4 => (if v3 = 0 then (some (3, s4)) else (some (0, s4))))) else (some (v1, s2)))))

def f4_hasCells (i0 : Nat) (a1 : Int32) (a2 : Int32) (σ : Sto) : Option (Int32 × Sto) := (if a1 < 0 then (some (0, σ)) else (if a2 < 0 then (some (0, σ)) else (if (gI σ 4 i0 2) < a1 then (some (0, σ)) else (if ((gI σ 4 i0 2) - a1) < a2 then (some (0, σ)) else (some (1, σ))))))

def f4_faultOfCells (i0 : Nat) (a1 : Int32) (a2 : Int32) (a3 : Int32) (σ : Sto) : Option (Int32 × Sto) := (bI (f4_faultOfLane i0 a1 σ) (fun v1 s2 => (if v1 = 0 then (if 0 ≤ a3 then (bI (f4_hasCells i0 a2 a3 s2) (fun v3 s4 => (if v3 = 0 then (some (3, s4)) else (some (0, s4))))) else (some (4, s2))) else (some (v1, s2)))))

def f4_read (i0 : Nat) (a1 : Int32) (σ : Sto) : Option (Int32 × Sto) := (bI (f4_hasCell i0 a1 σ) (fun v1 s2 => (if v1 = 0 then (some (0, s2)) else (if Ix a1 60 then (some (gI s2 19 i0 a1.toNatClampNeg, s2)) else none))))

def f4_write (i0 : Nat) (a1 : Int32) (a2 : Int32) (σ : Sto) : Option (Sto) := (bI (f4_hasCell i0 a1 σ) (fun v1 s2 => (if v1 = 0 then (some s2) else (bI (f4_cut i0 a2 s2) (fun v3 s4 => (if Ix a1 60 then (some (sI s4 19 i0 a1.toNatClampNeg v3)) else none))))))

def f5_kindNumber_5 (i0 : Nat) (σ : Sto) : Option (Int32 × Sto) := (some (2, σ))

def f5_polished_5 (i0 : Nat) (σ : Sto) : Option (Int32 × Sto) := (bV (f7_leave 5 σ) (fun s1 => (some (30, s1))))

def f5_telling_5 (i0 : Nat) (σ : Sto) : Option (Int32 × Sto) := (bV (f7_leave 3 σ) (fun s1 => (bI (f1_telling_5 i0 s1) (fun v2 s3 => (bI (f0_forkTelling_5 i0 s3) (fun v4 s5 => (some (v2 + v4, s5))))))))

def l6_beginOn_22 (i0 : Nat) (i1 : Nat) : Nat → Int32 → Sto → Option (Sto)
  | 0, _, _ => none
  | n + 1, a3, σ => (if 5 ≤ a3 then (some σ) else (bI (f2_startOf i1 a3 σ) (fun v1 s2 => (if Ix a3 5 then (l6_beginOn_22 i0 i1 n (a3 + 1) (sI s2 16 i0 a3.toNatClampNeg v1)) else none))))
def f6_beginOn (i0 : Nat) (i1 : Nat) (a2 : Int32) (σ : Sto) : Option (Sto) := (l6_beginOn_22 i0 i1 300 0 (sI (sI (sI (sR σ 6 i0 0 (some (2, i1))) 6 i0 3 a2) 6 i0 1 0) 6 i0 2 0))

def f6_countHad (i0 : Nat) (σ : Sto) : Option (Int32 × Sto) := (bI (fJ6_bitCount (gI σ 6 i0 1) σ) (fun v1 s2 => (some (v1, s2))))

def l6_countHolds_4 (i0 : Nat) (a1 : Int32) : Nat → Int32 → Int32 → Sto → Option (Int32 × Sto)
  | 0, _, _, _ => none
  | n + 1, a2, a3, σ => (if 4 ≤ a3 then (some (a2, σ)) else (bI (f6_isHeld i0 a1 a3 σ) (fun v1 s2 => (if v1 = 0 then (l6_countHolds_4 i0 a1 n a2 (a3 + 1) s2) else (l6_countHolds_4 i0 a1 n (a2 + 1) (a3 + 1) s2)))))
def f6_countHolds (i0 : Nat) (a1 : Int32) (σ : Sto) : Option (Int32 × Sto) := (l6_countHolds_4 i0 a1 300 0 0 σ)

def l6_elsewhereThan_4 (i0 : Nat) (i1 : Nat) : Nat → Int32 → Int32 → Sto → Option (Int32 × Sto)
  | 0, _, _, _ => none
  | n + 1, a2, a3, σ => (if 5 ≤ a3 then (some (a2, σ)) else (if Ix a3 5 then (if Ix a3 5 then (if (gI σ 16 i0 a3.toNatClampNeg) = (gI σ 16 i1 a3.toNatClampNeg) then (l6_elsewhereThan_4 i0 i1 n a2 (a3 + 1) σ) else (l6_elsewhereThan_4 i0 i1 n (a2 ||| (1 <<< (a3 &&& 31))) (a3 + 1) σ)) else none) else none))
def f6_elsewhereThan (i0 : Nat) (i1 : Nat) (σ : Sto) : Option (Int32 × Sto) := (l6_elsewhereThan_4 i0 i1 300 0 0 σ)

def l6_firstHold_2 (i0 : Nat) (a1 : Int32) : Nat → Int32 → Sto → Option (Int32 × Sto)
  | 0, _, _ => none
  | n + 1, a2, σ => (if 4 ≤ a2 then (some ((-9), σ)) else (bI (f6_isHeld i0 a1 a2 σ) (fun v1 s2 => (if v1 = 0 then (l6_firstHold_2 i0 a1 n (a2 + 1) s2) else (some (a2, s2))))))
def f6_firstHold (i0 : Nat) (a1 : Int32) (σ : Sto) : Option (Int32 × Sto) := (l6_firstHold_2 i0 a1 300 0 σ)

def l6_heldSet_4 (i0 : Nat) (a1 : Int32) : Nat → Int32 → Int32 → Sto → Option (Int32 × Sto)
  | 0, _, _, _ => none
  | n + 1, a2, a3, σ => (if 5 ≤ a3 then (some (a2, σ)) else (bI (f6_isHeld i0 a3 a1 σ) (fun v1 s2 => (if v1 = 0 then (l6_heldSet_4 i0 a1 n a2 (a3 + 1) s2) else (l6_heldSet_4 i0 a1 n (a2 ||| (1 <<< (a3 &&& 31))) (a3 + 1) s2)))))
def f6_heldSet (i0 : Nat) (a1 : Int32) (σ : Sto) : Option (Int32 × Sto) := (l6_heldSet_4 i0 a1 300 0 0 σ)

def l6_holdsAny_2 (i0 : Nat) : Nat → Int32 → Sto → Option (Int32 × Sto)
  | 0, _, _ => none
  | n + 1, a1, σ => (if 5 ≤ a1 then (some (0, σ)) else (bI (f6_firstHold i0 a1 σ) (fun v1 s2 => (if v1 = (-9) then (l6_holdsAny_2 i0 n (a1 + 1) s2) else (some (1, s2))))))
def f6_holdsAny (i0 : Nat) (σ : Sto) : Option (Int32 × Sto) := (l6_holdsAny_2 i0 300 0 σ)

def f6_isHad (i0 : Nat) (a1 : Int32) (σ : Sto) : Option (Int32 × Sto) := (bI (f8_isBelow a1 5 σ) (fun v1 s2 => (if v1 = 0 then (some (0, s2)) else (if ((gI s2 6 i0 1) &&& (1 <<< (a1 &&& 31))) = 0 then (some (0, s2)) else (some (1, s2))))))

def l8_areCodes_3 (i1 : Nat) (a2 : Int32) (a3 : Int32) : Nat → Int32 → Sto → Option (Int32 × Sto)
  | 0, _, _ => none
  | n + 1, a4, σ => (if a3 ≤ a4 then (some (1, σ)) else (bI (f4_read i1 (a2 + a4) σ) (fun v1 s2 => (dr 2 (gR σ 8 0 0) (fun i3 => (bI (f2_isCode i3 v1 s2) (fun v4 s5 => (if v4 = 0 then (some (0, s5)) else (l8_areCodes_3 i1 a2 a3 n (a4 + 1) s5)))))))))
def f8_areCodes (i1 : Nat) (a2 : Int32) (a3 : Int32) (σ : Sto) : Option (Int32 × Sto) := (l8_areCodes_3 i1 a2 a3 300 0 σ)

def f8_failed (a1 : Int32) (σ : Sto) : Option (Int32 × Sto) := (some ((-10) - a1, (sI σ 8 0 13 a1)))

def f8_isOfKind_0 (i0 : Nat) (a1 : Int32) (σ : Sto) : Option (Int32 × Sto) := (if a1 = 0 then (some (1, σ)) else (if a1 = 1 then (some (0, σ)) else (some (0, σ))))

def f8_isOfKind_1 (i0 : Nat) (a1 : Int32) (σ : Sto) : Option (Int32 × Sto) := (if a1 = 0 then (some (1, σ)) else (if a1 = 1 then (some (1, σ)) else (some (0, σ))))

def f8_isOfKind_5 (i0 : Nat) (a1 : Int32) (σ : Sto) : Option (Int32 × Sto) := (if a1 = 0 then (some (1, σ)) else (if a1 = 1 then (some (1, σ)) else (some (1, σ))))

def f8_as (a1 : Int32) (a2 : Int32) (σ : Sto) : Option (Int32 × Sto) := (dr 2 (gR (sI σ 8 0 13 0) 8 0 0) (fun i1 => (bI (f2_eaterAt i1 a1 (sI σ 8 0 13 0)) (fun v2 s3 => (rcs v2 (some ((-1), s3)) (fun k4 i5 => (bI (f8_isBelow a2 3 s3) (fun v6 s7 => (if v6 = 0 then (some ((-2), s7)) else (fk k4 (bI (f8_isOfKind_0 i5 a2 s7) (fun v8 s9 => (if v8 = 0 then (bI (f8_failed 2 s9) (fun v10 s11 => (some (v10, s11)))) else (some (1, s9))))) (bI (f8_isOfKind_1 i5 a2 s7) (fun v12 s13 => (if v12 = 0 then (bI (f8_failed 2 s13) (fun v14 s15 => (some (v14, s15)))) else (some (1, s13))))) (bI (f8_isOfKind_5 i5 a2 s7) (fun v16 s17 => (if v16 = 0 then (bI (f8_failed 2 s17) (fun v18 s19 => (some (v18, s19)))) else (some (1, s17)))))))))))))))

def f8_back (a1 : Int32) (σ : Sto) : Option (Int32 × Sto) := (if a1 < 0 then (some ((-2), σ)) else (if a1 ≤ (gI σ 8 0 7) then (some (gI (sI σ 8 0 7 ((gI σ 8 0 7) - a1)) 8 0 7, (sI σ 8 0 7 ((gI σ 8 0 7) - a1)))) else (some ((-2), σ))))

def f8_sheetAt (a1 : Int32) (σ : Sto) : Option (Option MA × Sto) := (bI (f8_isBelow a1 4 σ) (fun v1 s2 => (if v1 = 0 then (some (none, s2)) else (if Ix a1 4 then (some (some (4, a1.toNatClampNeg), s2)) else none))))

def f8_cell (a1 : Int32) (a2 : Int32) (a3 : Int32) (σ : Sto) : Option (Int64 × Sto) := (bI (f8_sheetAt a1 (sI σ 8 0 13 0)) (fun v1 s2 => (rcs v1 (some ((-9223372036854775808), s2)) (fun k3 i4 => (if k3 = 4 then (bI (f8_isBelow a3 3 s2) (fun v5 s6 => (if v5 = 0 then (some ((-9223372036854775808), s6)) else (bI (f4_faultOfCell i4 a3 a2 s6) (fun v7 s8 => (if (gI (sI s8 8 0 13 v7) 8 0 13) = 0 then (bI (f4_read i4 a2 (sI s8 8 0 13 v7)) (fun v9 s10 => (some (v9.toInt64, s10)))) else (some ((-9223372036854775808), (sI s8 8 0 13 v7))))))))) else none)))))

def f8_copy (a1 : Int32) (a2 : Int32) (a3 : Int32) (a4 : Int32) (a5 : Int32) (σ : Sto) : Option (Int32 × Sto) := (bI (f8_sheetAt a1 (sI σ 8 0 13 0)) (fun v1 s2 => (bI (f8_sheetAt a3 s2) (fun v3 s4 => (rcs v1 (some ((-1), s4)) (fun k5 i6 => (if k5 = 4 then (rcs v3 (some ((-1), s4)) (fun k7 i8 => (if k7 = 4 then (bI (f4_isNothing i6 s4) (fun v9 s10 => (if v9 = 0 then (bI (f4_isNothing i8 s10) (fun v13 s14 => (if v13 = 0 then (if (gI s14 4 i6 1) = (gI s14 4 i8 1) then (bI (f4_hasCells i6 a2 a5 s14) (fun v15 s16 => (if v15 = 0 then (bI (f8_failed 3 s16) (fun v17 s18 => (some (v17, s18)))) else (bI (f4_hasCells i8 a4 a5 s16) (fun v19 s20 => (if v19 = 0 then (bI (f8_failed 3 s20) (fun v21 s22 => (some (v21, s22)))) else (if ¬ a2 < 0 ∧ ¬ a4 < 0 ∧ ¬ a5 < 0 ∧ a2.toNatClampNeg + a5.toNatClampNeg ≤ 60 ∧ a4.toNatClampNeg + a5.toNatClampNeg ≤ 60 then (some (a5, (cpI s20 19 i6 a2.toNatClampNeg 19 i8 a4.toNatClampNeg a5.toNatClampNeg))) else none))))))) else (bI (f8_failed 2 s14) (fun v23 s24 => (some (v23, s24))))) else (bI (f8_failed 1 s14) (fun v25 s26 => (some (v25, s26))))))) else (bI (f8_failed 1 s10) (fun v11 s12 => (some (v11, s12))))))) else none))) else none)))))))

def f8_fault  (σ : Sto) : Option (Int32 × Sto) := (some (gI σ 8 0 13, σ))

def l8_findsRow_69 (rc : Int32 → Int32 → Int32 → Sto → Option (Int32 × Sto)) (a1 : Int32) (a2 : Int32) (a3 : Int32) (r5 : Option MA) : Nat → Int32 → Sto → Option (Int32 × Sto)
  | 0, _, _ => none
  | n + 1, a6, σ => (dr 2 r5 (fun i3 => (if (gI σ 2 i3 4) ≤ a6 then (some (0, σ)) else (dr 2 r5 (fun i4 => (if Ix a6 40 then (bI (f3_stepsOn a2 (gI σ 10 i4 a6.toNatClampNeg) σ) (fun v5 s6 => (if v5 = 0 then (l8_findsRow_69 rc a1 a2 a3 r5 n (a6 + 1) s6) else (if Ix a2 3 then (bI (rc a1 (a2 + 1) a3 (sI s6 18 0 a2.toNatClampNeg (gI σ 10 i4 a6.toNatClampNeg))) (fun v7 s8 => (if v7 = 0 then (l8_findsRow_69 rc a1 a2 a3 r5 n (a6 + 1) s8) else (some (1, s8))))) else none)))) else none))))))
def g8_findsRow (rc : Int32 → Int32 → Int32 → Sto → Option (Int32 × Sto)) (a1 : Int32) (a2 : Int32) (a3 : Int32) (σ : Sto) : Option (Int32 × Sto) := (bI (f8_isBelow a2 3 σ) (fun v1 s2 => (if v1 = 0 then (some (0, s2)) else (if Ix a2 3 then (if a2 < (a3 - 1) then (l8_findsRow_69 rc a1 a2 a3 (gR s2 6 (a2.toNatClampNeg + 2) 0) 300 0 s2) else (bI (f6_firstHold (a2.toNatClampNeg + 2) a1 s2) (fun v9 s10 => (bI (f8_codeOf 0 a1 v9 s10) (fun v11 s12 => (if Ix a2 3 then (if v9 = (-9) then (some (0, (sI s12 18 0 a2.toNatClampNeg v11))) else (some (1, (sI s12 18 0 a2.toNatClampNeg v11)))) else none)))))) else none))))

def f8_findsRow : Nat → Int32 → Int32 → Int32 → Sto → Option (Int32 × Sto)
  | 0 => fun _ _ _ _ => none
  | n + 1 => g8_findsRow (f8_findsRow n)

def l8_fewest_55 (k : Int32 → Int32 → Sto → Option (Int32 × Sto)) (a1 : Int32) (a2 : Int32) : Nat → Int32 → Int32 → Sto → Option (Int32 × Sto)
  | 0, _, _, _ => none
  | n + 1, a3, a4, σ => (if a3 = (-9) then (if 3 < a4 then (k a3 a4 σ) else (bI (f8_findsRow 4 a1 0 a4 σ) (fun v7 s8 => (if v7 = 0 then (l8_fewest_55 k a1 a2 n a3 (a4 + 1) s8) else (l8_fewest_55 k a1 a2 n a4 (a4 + 1) s8))))) else (k a3 a4 σ))
def f8_fewest (a1 : Int32) (a2 : Int32) (σ : Sto) : Option (Int32 × Sto) := (dr 2 (gR σ 8 0 0) (fun i1 => (bI (f2_hasPea i1 a1 σ) (fun v2 s3 => (if v2 = 0 then (some ((-1), s3)) else (if (-1) ≤ a2 then (bI (f6_isHad 0 a1 s3) (fun v4 s5 => (if v4 = 0 then (bV (f6_copyFrom 2 0 s5) (fun s6 => (l8_fewest_55 (fun v9 v10 s11 => (if a2 = (-1) then (some (v9, s11)) else (if v9 ≤ a2 then (some ((-9), s11)) else (if Ix a2 3 then (some (gI s11 18 0 a2.toNatClampNeg, s11)) else none)))) a1 a2 300 (-9) 1 s6))) else (bV (f6_copyFrom 2 0 s5) (fun s12 => (l8_fewest_55 (fun v13 v14 s15 => (if a2 = (-1) then (some (v13, s15)) else (if v13 ≤ a2 then (some ((-9), s15)) else (if Ix a2 3 then (some (gI s15 18 0 a2.toNatClampNeg, s15)) else none)))) a1 a2 300 0 1 s12)))))) else (some ((-1), s3))))))))

def l8_hadByRow_14 (i1 : Nat) (a2 : Int32) (a3 : Int32) : Nat → Int32 → Sto → Option (Int32 × Sto)
  | 0, _, _ => none
  | n + 1, a4, σ => (if a3 ≤ a4 then (bI (f6_countHad 1 σ) (fun v2 s3 => (some (v2, s3)))) else (bI (f4_read i1 (a2 + a4) σ) (fun v4 s5 => (bI (f8_peaOf v4 s5) (fun v6 s7 => (bI (f6_isOn 1 v6 s7) (fun v8 s9 => (if v8 = 0 then (some ((-100) - a4, s9)) else (bV (f6_pushByCode 1 v4 s9) (fun s10 => (l8_hadByRow_14 i1 a2 a3 n (a4 + 1) s10)))))))))))
def f8_hadByRow (i1 : Nat) (a2 : Int32) (a3 : Int32) (σ : Sto) : Option (Int32 × Sto) := (bV (f6_copyFrom 1 0 σ) (fun s1 => (l8_hadByRow_14 i1 a2 a3 300 0 s1)))

def l8_readingsAreSo_2 (i1 : Nat) : Nat → Int32 → Sto → Option (Int32 × Sto)
  | 0, _, _ => none
  | n + 1, a2, σ => (if (gI σ 8 0 7) ≤ a2 then (some (1, σ)) else (if Ix a2 8 then (bI (f6_spotOf i1 (gI σ 21 0 a2.toNatClampNeg) σ) (fun v1 s2 => (if Ix a2 8 then (if v1 = (gI s2 22 0 a2.toNatClampNeg) then (l8_readingsAreSo_2 i1 n (a2 + 1) s2) else (some (0, s2))) else none))) else none))
def f8_readingsAreSo (i1 : Nat) (σ : Sto) : Option (Int32 × Sto) := (l8_readingsAreSo_2 i1 300 0 σ)

def l8_last_24 (k : Int32 → Int32 → Sto → Option (Int32 × Sto)) (a1 : Int32) : Nat → Int32 → Int32 → Sto → Option (Int32 × Sto)
  | 0, _, _, _ => none
  | n + 1, a2, a3, σ => (dr 2 (gR σ 8 0 0) (fun i4 => (if (gI σ 2 i4 4) ≤ a3 then (k a2 a3 σ) else (bV (f6_copyFrom 1 0 σ) (fun s5 => (dr 2 (gR s5 8 0 0) (fun i6 => (if Ix a3 40 then (bV (f6_pushByCode 1 (gI s5 10 i6 a3.toNatClampNeg) s5) (fun s7 => (bI (f8_readingsAreSo 1 s7) (fun v8 s9 => (if v8 = 0 then (l8_last_24 k a1 n a2 (a3 + 1) s9) else (if a2 = a1 then (dr 2 (gR s9 8 0 0) (fun i10 => (if Ix a3 40 then (some (gI s9 10 i10 a3.toNatClampNeg, s9)) else none))) else (l8_last_24 k a1 n (a2 + 1) (a3 + 1) s9))))))) else none))))))))
def f8_last (a1 : Int32) (σ : Sto) : Option (Int32 × Sto) := (if (-1) ≤ a1 then (dr 2 (gR σ 8 0 0) (fun i1 => (bI (f2_isLaid i1 σ) (fun v2 s3 => (if v2 = 0 then (some ((-3), s3)) else (l8_last_24 (fun v11 v12 s13 => (if a1 = (-1) then (some (v11, s13)) else (some ((-9), s13)))) a1 300 0 0 s3)))))) else (some ((-1), σ)))

def l8_replay_12 (i1 : Nat) (a3 : Int32) : Nat → Int32 → Sto → Option (Sto)
  | 0, _, _ => none
  | n + 1, a4, σ => (if (gI σ 8 0 4) ≤ a4 then (some σ) else (if a4 = a3 then (l8_replay_12 i1 a3 n (a4 + 1) σ) else (if Ix a4 30 then (bV (f6_pushByCode i1 (gI σ 20 0 a4.toNatClampNeg) σ) (fun s3 => (l8_replay_12 i1 a3 n (a4 + 1) s3))) else none)))
def f8_replay (i1 : Nat) (a2 : Int32) (a3 : Int32) (σ : Sto) : Option (Sto) := (dr 2 (gR σ 8 0 0) (fun i1 => (bV (f6_beginOn i1 i1 a2 σ) (fun s2 => (l8_replay_12 i1 a3 300 0 s2)))))

def f8_replayNow  (σ : Sto) : Option (Sto) := (bV (f8_replay 0 (gI σ 8 0 2) (-9) σ) (fun s1 => (some s1)))

def f8_law (a1 : Int32) (σ : Sto) : Option (Int32 × Sto) := (bI (f8_isBelow a1 3 σ) (fun v1 s2 => (if v1 = 0 then (some ((-2), s2)) else (dr 2 (gR s2 8 0 0) (fun i3 => (bI (f2_isLaid i3 s2) (fun v4 s5 => (if v4 = 0 then (some ((-3), s5)) else (bV (f8_replayNow (sI s5 8 0 2 a1)) (fun s6 => (some (gI s5 8 0 2, s6))))))))))))

def l8_laws_17  : Nat → Int32 → Int32 → Sto → Option (Int32 × Sto)
  | 0, _, _, _ => none
  | n + 1, a1, a2, σ => (if 3 ≤ a2 then (some (a1, σ)) else (bV (f8_replay 1 a2 (-9) σ) (fun s4 => (bI (f8_readingsAreSo 1 s4) (fun v5 s6 => (if v5 = 0 then (l8_laws_17  n a1 (a2 + 1) s6) else (l8_laws_17  n (a1 ||| (1 <<< (a2 &&& 31))) (a2 + 1) s6)))))))
def f8_laws  (σ : Sto) : Option (Int32 × Sto) := (dr 2 (gR σ 8 0 0) (fun i1 => (bI (f2_isLaid i1 σ) (fun v2 s3 => (if v2 = 0 then (some ((-3), s3)) else (l8_laws_17  300 0 0 s3))))))

def f8_lose (a1 : Int32) (σ : Sto) : Option (Int32 × Sto) := (bI (f8_sheetAt a1 σ) (fun v1 s2 => (rcs v1 (some ((-1), s2)) (fun k3 i4 => (if k3 = 4 then (bI (f4_isNothing i4 s2) (fun v5 s6 => (if v5 = 0 then (bV (f4_drop i4 s6) (fun s7 => (some (1, s7)))) else (bV (f4_drop i4 s6) (fun s8 => (some (0, s8))))))) else none)))))

def f8_many (a1 : Int32) (σ : Sto) : Option (Int32 × Sto) := (if a1 = 0 then (dr 2 (gR σ 8 0 0) (fun i1 => (dr 2 (gR σ 8 0 0) (fun i2 => (some ((gI σ 2 i1 0) * (gI σ 2 i2 1), σ)))))) else (if a1 = 1 then (dr 2 (gR σ 8 0 0) (fun i3 => (some (gI σ 2 i3 1, σ)))) else (if a1 = 2 then (dr 2 (gR σ 8 0 0) (fun i4 => (some (gI σ 2 i4 2, σ)))) else (if a1 = 3 then (dr 2 (gR σ 8 0 0) (fun i5 => (some (gI σ 2 i5 3, σ)))) else (if a1 = 4 then (some (gI σ 8 0 4, σ)) else (if a1 = 5 then (some (gI σ 8 0 7, σ)) else (if a1 = 6 then (some (gI σ 8 0 2, σ)) else (some ((-2), σ)))))))))

def l8_mostHad_65 (rc : Int32 → Int32 → Sto → Option (Int32 × Sto)) (a1 : Int32) (a2 : Int32) (a4 : Int32) (r6 : Option MA) : Nat → Int32 → Int32 → Sto → Option (Int32 × Sto)
  | 0, _, _, _ => none
  | n + 1, a5, a7, σ => (dr 2 r6 (fun i5 => (if (gI σ 2 i5 4) ≤ a7 then (some (a5, σ)) else (if (a4 + a2) ≤ a5 then (some (a5, σ)) else (dr 2 r6 (fun i6 => (if Ix a7 40 then (bI (f3_stepsOn a1 (gI σ 10 i6 a7.toNatClampNeg) σ) (fun v7 s8 => (if v7 = 0 then (l8_mostHad_65 rc a1 a2 a4 r6 n a5 (a7 + 1) s8) else (bI (rc (a1 + 1) (a2 - 1) s8) (fun v9 s10 => (l8_mostHad_65 rc a1 a2 a4 r6 n (if a5 < v9 then v9 else a5) (a7 + 1) s10)))))) else none)))))))
def g8_mostHad (rc : Int32 → Int32 → Sto → Option (Int32 × Sto)) (a1 : Int32) (a2 : Int32) (σ : Sto) : Option (Int32 × Sto) := (bI (f8_isBelow a1 3 σ) (fun v1 s2 => (if v1 = 0 then (some (0, s2)) else (if Ix a1 3 then (bI (f6_countHad (a1.toNatClampNeg + 2) s2) (fun v3 s4 => (if 0 < a2 then (if a2 = 1 then (bI (f6_holdsAny (a1.toNatClampNeg + 2) s4) (fun v11 s12 => (if v11 = 0 then (some (v3, s12)) else (some (v3 + 1, s12))))) else (l8_mostHad_65 rc a1 a2 v3 (gR s4 6 (a1.toNatClampNeg + 2) 0) 300 v3 0 s4)) else (some (v3, s4))))) else none))))

def f8_mostHad : Nat → Int32 → Int32 → Sto → Option (Int32 × Sto)
  | 0 => fun _ _ _ => none
  | n + 1 => g8_mostHad (f8_mostHad n)

def f8_most (a1 : Int32) (σ : Sto) : Option (Int32 × Sto) := (if a1 < 0 then (some ((-2), σ)) else (if a1 ≤ 3 then (dr 2 (gR σ 8 0 0) (fun i1 => (bI (f2_isLaid i1 σ) (fun v2 s3 => (if v2 = 0 then (some ((-3), s3)) else (bV (f6_copyFrom 2 0 s3) (fun s4 => (bI (f8_mostHad 4 0 a1 s4) (fun v5 s6 => (some (v5, s6))))))))))) else (some ((-2), σ))))

def l8_never_17  : Nat → Int32 → Int32 → Sto → Option (Int32 × Sto)
  | 0, _, _, _ => none
  | n + 1, a1, a2, σ => (if (gI σ 8 0 4) ≤ a2 then (some (a1, σ)) else (bV (f8_replay 1 (gI σ 8 0 2) a2 σ) (fun s4 => (bI (f8_readingsAreSo 1 s4) (fun v5 s6 => (if v5 = 0 then (l8_never_17  n a1 (a2 + 1) s6) else (l8_never_17  n (a1 ||| (1 <<< (a2 &&& 31))) (a2 + 1) s6)))))))
def f8_never  (σ : Sto) : Option (Int32 × Sto) := (dr 2 (gR σ 8 0 0) (fun i1 => (bI (f2_isLaid i1 σ) (fun v2 s3 => (if v2 = 0 then (some ((-3), s3)) else (l8_never_17  300 0 0 s3))))))

def f8_odds (a1 : Int32) (a2 : Int32) (a3 : Int32) (σ : Sto) : Option (Int64 × Sto) := (dr 2 (gR σ 8 0 0) (fun i1 => (bI (f2_eaterAt i1 a1 σ) (fun v2 s3 => (rcs v2 (some ((-9223372036854775808), s3)) (fun k4 i5 => (dr 2 (gR s3 8 0 0) (fun i6 => (bI (f2_hasPea i6 a2 s3) (fun v7 s8 => (if v7 = 0 then (some ((-9223372036854775808), s8)) else (bI (f8_isBelow a3 2 s8) (fun v9 s10 => (if v9 = 0 then (some ((-9223372036854775808), s10)) else (bI (f6_isOn 0 a2 s10) (fun v11 s12 => (if v11 = 0 then (some ((-9223372036854775808), s12)) else (bI (f6_countHolds 0 a2 s12) (fun v13 s14 => (if a3 = 0 then (if Ix v13 5 then (some ((gI s14 44 0 v13.toNatClampNeg).toInt64, s14)) else none) else (if Ix v13 5 then (some ((gI s14 45 0 v13.toNatClampNeg).toInt64, s14)) else none)))))))))))))))))))))

def f8_ofEater (a1 : Int32) (a2 : Int32) (σ : Sto) : Option (Int32 × Sto) := (dr 2 (gR σ 8 0 0) (fun i1 => (bI (f2_eaterAt i1 a1 σ) (fun v2 s3 => (rcs v2 (some ((-1), s3)) (fun k4 i5 => (if a2 = 0 then (fk k4 (bI (f0_kindNumber_0 i5 s3) (fun v6 s7 => (some (v6, s7)))) (bI (f1_kindNumber_1 i5 s3) (fun v8 s9 => (some (v8, s9)))) (bI (f5_kindNumber_5 i5 s3) (fun v10 s11 => (some (v10, s11))))) else (if a2 = 1 then (some (gI s3 k4 i5 1, s3)) else (if a2 = 2 then (fk k4 (bI (f0_pushForce_0 i5 s3) (fun v12 s13 => (some (v12, s13)))) (bI (f1_pushForce_1 i5 s3) (fun v14 s15 => (some (v14, s15)))) (bI (f5_pushForce_5 i5 s3) (fun v16 s17 => (some (v16, s17))))) else (some ((-2), s3)))))))))))

def f8_peas (a1 : Int32) (σ : Sto) : Option (Int32 × Sto) := (bI (f8_isBelow a1 6 σ) (fun v1 s2 => (if v1 = 0 then (some ((-2), s2)) else (dr 2 (gR s2 8 0 0) (fun i3 => (bI (f2_isLaid i3 s2) (fun v4 s5 => (if v4 = 0 then (some ((-3), s5)) else (if a1 = 0 then (some (gI s5 6 0 1, s5)) else (if a1 = 1 then (some (gI s5 6 0 2, s5)) else (bI (f6_heldSet 0 (a1 - 2) s5) (fun v6 s7 => (some (v6, s7))))))))))))))

def f8_polish (a1 : Int32) (σ : Sto) : Option (Int32 × Sto) := (dr 2 (gR σ 8 0 0) (fun i1 => (bI (f2_eaterAt i1 a1 σ) (fun v2 s3 => (rcs v2 (some ((-1), s3)) (fun k4 i5 => (fk k4 (bI (f0_polished_0 i5 s3) (fun v6 s7 => (some (v6, s7)))) (bI (f0_polished_1 i5 s3) (fun v8 s9 => (some (v8, s9)))) (bI (f5_polished_5 i5 s3) (fun v10 s11 => (some (v10, s11)))))))))))

def f8_refusalOfPush (a1 : Int32) (a2 : Int32) (a3 : Int32) (σ : Sto) : Option (Int32 × Sto) := (dr 2 (gR σ 8 0 0) (fun i1 => (bI (f2_eaterAt i1 a1 σ) (fun v2 s3 => (rcs v2 (some ((-1), s3)) (fun k4 i5 => (dr 2 (gR s3 8 0 0) (fun i6 => (bI (f2_hasPea i6 a2 s3) (fun v7 s8 => (if v7 = 0 then (some ((-1), s8)) else (bI (f8_isBelow a3 4 s8) (fun v9 s10 => (if v9 = 0 then (some ((-2), s10)) else (some (0, s10))))))))))))))))

def f8_push (a1 : Int32) (a2 : Int32) (a3 : Int32) (σ : Sto) : Option (Int32 × Sto) := (bI (f8_refusalOfPush a1 a2 a3 σ) (fun v1 s2 => (if v1 = 0 then (if (gI s2 8 0 4) < 30 then (bI (f8_codeOf a1 a2 a3 s2) (fun v3 s4 => (if Ix (gI s4 8 0 4) 30 then (bV (f6_pushByCode 0 v3 (sI (sI s4 20 0 (gI s4 8 0 4).toNatClampNeg v3) 8 0 4 ((gI (sI s4 20 0 (gI s4 8 0 4).toNatClampNeg v3) 8 0 4) + 1))) (fun s5 => (some ((gI s5 8 0 4) - 1, s5)))) else none))) else (some ((-4), s2))) else (some (v1, s2)))))

def f8_put (a1 : Int32) (a2 : Int32) (a3 : Int32) (σ : Sto) : Option (Int32 × Sto) := (bI (f8_sheetAt a1 (sI σ 8 0 13 0)) (fun v1 s2 => (rcs v1 (some ((-1), s2)) (fun k3 i4 => (if k3 = 4 then (bI (f4_isNothing i4 s2) (fun v5 s6 => (if v5 = 0 then (bI (f4_hasCell i4 a2 s6) (fun v7 s8 => (if v7 = 0 then (bI (f8_failed 3 s8) (fun v10 s11 => (some (v10, s11)))) else (bV (f4_write i4 a2 a3 s8) (fun s9 => (some (1, s9))))))) else (bI (f8_failed 1 s6) (fun v12 s13 => (some (v12, s13))))))) else none)))))

def f8_reading (a1 : Int32) (a2 : Int32) (σ : Sto) : Option (Int32 × Sto) := (dr 2 (gR σ 8 0 0) (fun i1 => (bI (f2_hasPea i1 a1 σ) (fun v2 s3 => (if v2 = 0 then (some ((-1), s3)) else (if a2 = (-9) then (if (gI s3 8 0 7) < 8 then (if Ix (gI s3 8 0 7) 8 then (if Ix (gI (sI s3 21 0 (gI s3 8 0 7).toNatClampNeg a1) 8 0 7) 8 then (some ((gI (sI (sI (sI s3 21 0 (gI s3 8 0 7).toNatClampNeg a1) 22 0 (gI (sI s3 21 0 (gI s3 8 0 7).toNatClampNeg a1) 8 0 7).toNatClampNeg a2) 8 0 7 ((gI (sI (sI s3 21 0 (gI s3 8 0 7).toNatClampNeg a1) 22 0 (gI (sI s3 21 0 (gI s3 8 0 7).toNatClampNeg a1) 8 0 7).toNatClampNeg a2) 8 0 7) + 1)) 8 0 7) - 1, (sI (sI (sI s3 21 0 (gI s3 8 0 7).toNatClampNeg a1) 22 0 (gI (sI s3 21 0 (gI s3 8 0 7).toNatClampNeg a1) 8 0 7).toNatClampNeg a2) 8 0 7 ((gI (sI (sI s3 21 0 (gI s3 8 0 7).toNatClampNeg a1) 22 0 (gI (sI s3 21 0 (gI s3 8 0 7).toNatClampNeg a1) 8 0 7).toNatClampNeg a2) 8 0 7) + 1)))) else none) else none) else (some ((-4), s3))) else (dr 2 (gR s3 8 0 0) (fun i4 => (bI (f2_hasSquare i4 a2 s3) (fun v5 s6 => (if v5 = 0 then (some ((-1), s6)) else (if (gI s6 8 0 7) < 8 then (if Ix (gI s6 8 0 7) 8 then (if Ix (gI (sI s6 21 0 (gI s6 8 0 7).toNatClampNeg a1) 8 0 7) 8 then (some ((gI (sI (sI (sI s6 21 0 (gI s6 8 0 7).toNatClampNeg a1) 22 0 (gI (sI s6 21 0 (gI s6 8 0 7).toNatClampNeg a1) 8 0 7).toNatClampNeg a2) 8 0 7 ((gI (sI (sI s6 21 0 (gI s6 8 0 7).toNatClampNeg a1) 22 0 (gI (sI s6 21 0 (gI s6 8 0 7).toNatClampNeg a1) 8 0 7).toNatClampNeg a2) 8 0 7) + 1)) 8 0 7) - 1, (sI (sI (sI s6 21 0 (gI s6 8 0 7).toNatClampNeg a1) 22 0 (gI (sI s6 21 0 (gI s6 8 0 7).toNatClampNeg a1) 8 0 7).toNatClampNeg a2) 8 0 7 ((gI (sI (sI s6 21 0 (gI s6 8 0 7).toNatClampNeg a1) 22 0 (gI (sI s6 21 0 (gI s6 8 0 7).toNatClampNeg a1) 8 0 7).toNatClampNeg a2) 8 0 7) + 1)))) else none) else none) else (some ((-4), s6))))))))))))))

def f8_row (a1 : Int32) (a2 : Int32) (a3 : Int32) (a4 : Int32) (σ : Sto) : Option (Int32 × Sto) := (bI (f8_sheetAt a1 (sI σ 8 0 13 0)) (fun v1 s2 => (rcs v1 (some ((-1), s2)) (fun k3 i4 => (if k3 = 4 then (bI (f8_isBelow a2 3 s2) (fun v5 s6 => (if v5 = 0 then (some ((-2), s6)) else (dr 2 (gR s6 8 0 0) (fun i7 => (bI (f2_isLaid i7 s6) (fun v8 s9 => (if v8 = 0 then (some ((-3), s9)) else (bI (f4_faultOfCells i4 a2 a3 a4 s9) (fun v10 s11 => (if v10 = 0 then (if a4 ≤ 20 then (bI (f8_areCodes i4 a3 a4 s11) (fun v12 s13 => (if v12 = 0 then (some ((-1), s13)) else (bI (f8_hadByRow i4 a3 a4 s13) (fun v14 s15 => (some (v14, s15))))))) else (some ((-2), s11))) else (bI (f8_failed v10 s11) (fun v16 s17 => (some (v16, s17))))))))))))))) else none)))))

def f8_set (a1 : Int32) (a2 : Int32) (σ : Sto) : Option (Int32 × Sto) := (dr 2 (gR σ 8 0 0) (fun i1 => (bI (f2_hasSquare i1 a1 σ) (fun v2 s3 => (if v2 = 0 then (some ((-1), s3)) else (bI (f8_isBelow a2 3 s3) (fun v4 s5 => (if v4 = 0 then (some ((-2), s5)) else (if a2 = 2 then (dr 2 (gR s5 8 0 0) (fun i12 => (bI (f2_startsOn i12 a1 s5) (fun v13 s14 => (if v13 = 0 then (dr 2 (gR s14 8 0 0) (fun i15 => (bI (f2_signAt i15 a1 s14) (fun v16 s17 => (dr 2 (gR s17 8 0 0) (fun i18 => (bV (f2_changeSign i18 a1 a2 s17) (fun s19 => (bV (f8_replayNow s19) (fun s20 => (some (v16, s20)))))))))))) else (some ((-3), s14))))))) else (dr 2 (gR s5 8 0 0) (fun i6 => (bI (f2_signAt i6 a1 s5) (fun v7 s8 => (dr 2 (gR s8 8 0 0) (fun i9 => (bV (f2_changeSign i9 a1 a2 s8) (fun s10 => (bV (f8_replayNow s10) (fun s11 => (some (v7, s11)))))))))))))))))))))

def f8_sheet (a1 : Int32) (a2 : Int32) (a3 : Int32) (σ : Sto) : Option (Int32 × Sto) := (bI (f8_sheetAt a1 (sI σ 8 0 13 0)) (fun v1 s2 => (rcs v1 (some ((-1), s2)) (fun k3 i4 => (if k3 = 4 then (bI (f8_isBelow a2 3 s2) (fun v5 s6 => (if v5 = 0 then (some ((-2), s6)) else (if a3 ≤ 60 then (if 0 ≤ a3 then (bV (f4_begin i4 a2 a3 s6) (fun s7 => (some (1, s7)))) else (bI (f8_failed 4 s6) (fun v8 s9 => (some (v8, s9))))) else (some ((-2), s6)))))) else none)))))

def f8_sign (a1 : Int32) (σ : Sto) : Option (Int32 × Sto) := (dr 2 (gR σ 8 0 0) (fun i1 => (bI (f2_hasSquare i1 a1 σ) (fun v2 s3 => (if v2 = 0 then (some ((-1), s3)) else (dr 2 (gR s3 8 0 0) (fun i4 => (bI (f2_signAt i4 a1 s3) (fun v5 s6 => (some (v5, s6)))))))))))

def f8_takeDraft  (σ : Sto) : Option (Sto) := (dr 2 (gR (sI (sI (sI (sR (sR σ 8 0 0 (gR σ 8 0 1)) 8 0 1 (gR σ 8 0 0)) 8 0 2 0) 8 0 4 0) 8 0 7 0) 8 0 0) (fun i1 => (bV (f6_beginOn 0 i1 (gI (sI (sI (sI (sR (sR σ 8 0 0 (gR σ 8 0 1)) 8 0 1 (gR σ 8 0 0)) 8 0 2 0) 8 0 4 0) 8 0 7 0) 8 0 2) (sI (sI (sI (sR (sR σ 8 0 0 (gR σ 8 0 1)) 8 0 1 (gR σ 8 0 0)) 8 0 2 0) 8 0 4 0) 8 0 7 0)) (fun s2 => (some s2)))))

def f8_tell (a1 : Int32) (σ : Sto) : Option (Int32 × Sto) := (dr 2 (gR σ 8 0 0) (fun i1 => (bI (f2_eaterAt i1 a1 σ) (fun v2 s3 => (rcs v2 (some ((-1), s3)) (fun k4 i5 => (fk k4 (bI (f0_telling_0 i5 s3) (fun v6 s7 => (some (v6, s7)))) (bI (f1_telling_1 i5 s3) (fun v8 s9 => (some (v8, s9)))) (bI (f5_telling_5 i5 s3) (fun v10 s11 => (some (v10, s11)))))))))))

def f8_trace  (σ : Sto) : Option (Int32 × Sto) := (some (gI σ 7 0 0, σ))

def f8_undo (a1 : Int32) (σ : Sto) : Option (Int32 × Sto) := (if a1 < 0 then (some ((-2), σ)) else (if a1 ≤ (gI σ 8 0 4) then (bV (f8_replayNow (sI σ 8 0 4 ((gI σ 8 0 4) - a1))) (fun s1 => (some (gI s1 8 0 4, s1)))) else (some ((-2), σ))))

def f8_wall (a1 : Int32) (a2 : Int32) (a3 : Int32) (σ : Sto) : Option (Int32 × Sto) := (bI (f8_refusalOfPush a1 a2 a3 σ) (fun v1 s2 => (if v1 = 0 then (bI (f6_isOn 0 a2 s2) (fun v3 s4 => (if v3 = 0 then (some ((-3), s4)) else (bI (f6_behindLine 0 a2 a3 s4) (fun v5 s6 => (if v5 = (-1) then (some ((-9), s6)) else (dr 2 (gR s6 8 0 0) (fun i7 => (bI (f2_signAt i7 v5 s6) (fun v8 s9 => (if v8 = 0 then (some (v5, s9)) else (some ((-9), s9))))))))))))) else (some (v1, s2)))))

def f8_where (a1 : Int32) (σ : Sto) : Option (Int32 × Sto) := (dr 2 (gR σ 8 0 0) (fun i1 => (bI (f2_hasPea i1 a1 σ) (fun v2 s3 => (if v2 = 0 then (some ((-1), s3)) else (bI (f6_spotOf 0 a1 s3) (fun v4 s5 => (some (v4, s5)))))))))

def f8_would (a1 : Int32) (a2 : Int32) (a3 : Int32) (a4 : Int32) (σ : Sto) : Option (Int32 × Sto) := (bI (f8_refusalOfPush a1 a2 a3 σ) (fun v1 s2 => (if v1 = 0 then (bI (f8_isBelow a4 3 s2) (fun v3 s4 => (if v3 = 0 then (some ((-2), s4)) else (bI (f6_isOn 0 a2 s4) (fun v5 s6 => (if v5 = 0 then (some ((-3), s6)) else (bV (f6_copyFrom 1 0 s6) (fun s7 => (bI (f8_codeOf a1 a2 a3 s7) (fun v8 s9 => (bV (f6_pushByCode 1 v8 s9) (fun s10 => (if a4 = 0 then (bI (f6_spotOf 1 a2 s10) (fun v13 s14 => (some (v13, s14)))) else (if a4 = 1 then (some (gI s10 6 1 1, s10)) else (bI (f6_elsewhereThan 1 0 s10) (fun v11 s12 => (some (v11, s12)))))))))))))))))) else (some (v1, s2)))))

def f9_eaterOf (a0 : Int32) (σ : Sto) : Option (Int32 × Sto) := (some (a0 / 100, σ))

def f9_in (a0 : Int64) (a2 : Int64) (a4 : Int64) (σ : Sto) : Option (Int32 × Sto) := (if (lg_cmp a0 a2) < 0 then (some (0, σ)) else (if 0 < (lg_cmp a0 a4) then (some (0, σ)) else (some (1, σ))))

def f9_isEater (a1 : Int32) (σ : Sto) : Option (Int32 × Sto) := (bI (f9_in a1.toInt64 0 (((gI σ 9 0 5) - 1).toInt64) σ) (fun v1 s2 => (if v1 = 0 ∨ v1 = 1 then some (v1, s2) else none)))

def f9_isPea (a1 : Int32) (σ : Sto) : Option (Int32 × Sto) := (bI (f9_in a1.toInt64 0 (((gI σ 9 0 3) - 1).toInt64) σ) (fun v1 s2 => (if v1 = 0 ∨ v1 = 1 then some (v1, s2) else none)))

def f9_peaOf (a0 : Int32) (σ : Sto) : Option (Int32 × Sto) := (some ((a0 / 10) - (a0 / 10) / 10 * 10, σ))

def f9_isCode (a1 : Int32) (σ : Sto) : Option (Int32 × Sto) := (if a1 < 0 then (some (0, σ)) else (bI (f9_eaterOf a1 σ) (fun v1 s2 => (bI (f9_isEater v1 s2) (fun v3 s4 => (if v3 = 0 then (some (0, s4)) else (bI (f9_peaOf a1 s4) (fun v5 s6 => (bI (f9_isPea v5 s6) (fun v7 s8 => (if v7 = 0 then (some (0, s8)) else (if 4 ≤ (a1 - a1 / 10 * 10) then (some (0, s8)) else (some (1, s8))))))))))))))

def l9_areCodes_5 (a1 : Int32) (a2 : Int32) : Nat → Int32 → Int32 → Sto → Option (Int32 × Sto)
  | 0, _, _, _ => none
  | n + 1, a3, a4, σ => (if (a1 + a2) ≤ a4 then (if a3 = 0 ∨ a3 = 1 then some (a3, σ) else none) else (if a3 = 0 then (l9_areCodes_5 a1 a2 n 0 (a4 + 1) σ) else (if Ix a4 240 then (bI (f9_isCode (gI σ 33 0 a4.toNatClampNeg) σ) (fun v1 s2 => (if v1 = 0 then (l9_areCodes_5 a1 a2 n 0 (a4 + 1) s2) else (l9_areCodes_5 a1 a2 n 1 (a4 + 1) s2)))) else none)))
def f9_areCodes (a1 : Int32) (a2 : Int32) (σ : Sto) : Option (Int32 × Sto) := (l9_areCodes_5 a1 a2 300 1 a1 σ)

def l9_areSo_4  : Nat → Int32 → Int32 → Sto → Option (Int32 × Sto)
  | 0, _, _, _ => none
  | n + 1, a1, a2, σ => (if (gI σ 9 0 11) ≤ a2 then (if a1 = 0 ∨ a1 = 1 then some (a1, σ) else none) else (if Ix a2 8 then (if Ix (gI σ 29 0 a2.toNatClampNeg) 5 then (if a1 = 0 then (l9_areSo_4  n 0 (a2 + 1) σ) else (if 0 ≤ (gI σ 39 0 (gI σ 29 0 a2.toNatClampNeg).toNatClampNeg) then (if Ix a2 8 then (if (gI σ 30 0 a2.toNatClampNeg) = (gI σ 39 0 (gI σ 29 0 a2.toNatClampNeg).toNatClampNeg) then (l9_areSo_4  n 1 (a2 + 1) σ) else (l9_areSo_4  n 0 (a2 + 1) σ)) else none) else (if Ix a2 8 then (if (gI σ 30 0 a2.toNatClampNeg) = (-9) then (l9_areSo_4  n 1 (a2 + 1) σ) else (l9_areSo_4  n 0 (a2 + 1) σ)) else none))) else none) else none))
def f9_areSo  (σ : Sto) : Option (Int32 × Sto) := (l9_areSo_4  300 1 0 σ)

def f9_fails (a1 : Int32) (σ : Sto) : Option (Int32 × Sto) := (some ((-10) - a1, (sI σ 9 0 15 a1)))

def f9_refused (a1 : Int32) (σ : Sto) : Option (Int32 × Sto) := (some (a1, (sI σ 9 0 15 0)))

def f9_as (a1 : Int32) (a2 : Int32) (σ : Sto) : Option (Int32 × Sto) := (bI (f9_isEater a1 σ) (fun v1 s2 => (if v1 = 0 then (bI (f9_refused (-1) s2) (fun v9 s10 => (some (v9, s10)))) else (bI (f9_in a2.toInt64 0 (2) s2) (fun v3 s4 => (if v3 = 0 then (bI (f9_refused (-2) s4) (fun v7 s8 => (some (v7, s8)))) else (if Ix a1 2 then (if a2 ≤ (gI s4 26 0 a1.toNatClampNeg) then (some (1, (sI s4 9 0 15 0))) else (bI (f9_fails 2 s4) (fun v5 s6 => (some (v5, s6))))) else none)))))))

def f9_back (a1 : Int32) (σ : Sto) : Option (Int32 × Sto) := (bI (f9_in a1.toInt64 0 ((gI σ 9 0 11).toInt64) σ) (fun v1 s2 => (if v1 = 0 then (some ((-2), s2)) else (some (gI (sI s2 9 0 11 ((gI s2 9 0 11) - a1)) 9 0 11, (sI s2 9 0 11 ((gI s2 9 0 11) - a1)))))))

def f9_begin (a1 : Int32) (σ : Sto) : Option (Sto) := (some (sI σ 9 0 14 ((31 * (gI σ 9 0 14)) + a1)))

def f9_isLane (a0 : Int32) (σ : Sto) : Option (Int32 × Sto) := (bI (f9_in a0.toInt64 0 (2) σ) (fun v1 s2 => (if v1 = 0 ∨ v1 = 1 then some (v1, s2) else none)))

def f9_isSheet (a0 : Int32) (σ : Sto) : Option (Int32 × Sto) := (bI (f9_in a0.toInt64 0 (3) σ) (fun v1 s2 => (if v1 = 0 ∨ v1 = 1 then some (v1, s2) else none)))

def f9_lost (a1 : Int32) (σ : Sto) : Option (Int64 × Sto) := (some ((-9223372036854775808), (sI σ 9 0 15 a1)))

def f9_cell (a1 : Int32) (a2 : Int32) (a3 : Int32) (σ : Sto) : Option (Int64 × Sto) := (bI (f9_isSheet a1 σ) (fun v1 s2 => (if v1 = 0 then (bI (f9_lost 0 s2) (fun v3 s4 => (some (v3, s4)))) else (bI (f9_isLane a3 s2) (fun v5 s6 => (if v5 = 0 then (bI (f9_lost 0 s6) (fun v15 s16 => (some (v15, s16)))) else (if Ix a1 4 then (if 0 ≤ (gI s6 31 0 a1.toNatClampNeg) then (if Ix a1 4 then (if (gI s6 31 0 a1.toNatClampNeg) = a3 then (if Ix a1 4 then (bI (f9_in a2.toInt64 0 (((gI s6 32 0 a1.toNatClampNeg) - 1).toInt64) s6) (fun v7 s8 => (if v7 = 0 then (bI (f9_lost 3 s8) (fun v9 s10 => (some (v9, s10)))) else (if Ix ((60 * a1) + a2) 240 then (some ((gI (sI s8 9 0 15 0) 33 0 ((60 * a1) + a2).toNatClampNeg).toInt64, (sI s8 9 0 15 0))) else none)))) else none) else (bI (f9_lost 2 s6) (fun v11 s12 => (some (v11, s12))))) else none) else (bI (f9_lost 1 s6) (fun v13 s14 => (some (v13, s14))))) else none)))))))

def l9_copy_120 (k : Int32 → Sto → Option (Int32 × Sto)) (a1 : Int32) (a2 : Int32) (a3 : Int32) (a4 : Int32) (a5 : Int32) : Nat → Int32 → Sto → Option (Int32 × Sto)
  | 0, _, _ => none
  | n + 1, a6, σ => (if a5 ≤ a6 then (k a6 σ) else (if Ix (((60 * a1) + a2) + a6) 240 then (if Ix a6 60 then (l9_copy_120 k a1 a2 a3 a4 a5 n (a6 + 1) (sI σ 34 0 a6.toNatClampNeg (gI σ 33 0 (((60 * a1) + a2) + a6).toNatClampNeg))) else none) else none))
def l9_copy_157 (a3 : Int32) (a4 : Int32) (a5 : Int32) : Nat → Int32 → Sto → Option (Int32 × Sto)
  | 0, _, _ => none
  | n + 1, a6, σ => (if a5 ≤ a6 then (some (a5, σ)) else (if Ix a6 60 then (if Ix (((60 * a3) + a4) + a6) 240 then (l9_copy_157 a3 a4 a5 n (a6 + 1) (sI σ 33 0 (((60 * a3) + a4) + a6).toNatClampNeg (gI σ 34 0 a6.toNatClampNeg))) else none) else none))
def f9_copy (a1 : Int32) (a2 : Int32) (a3 : Int32) (a4 : Int32) (a5 : Int32) (σ : Sto) : Option (Int32 × Sto) := (bI (f9_isSheet a1 σ) (fun v1 s2 => (if v1 = 0 then (bI (f9_refused (-1) s2) (fun v3 s4 => (some (v3, s4)))) else (bI (f9_isSheet a3 s2) (fun v5 s6 => (if v5 = 0 then (bI (f9_refused (-1) s6) (fun v25 s26 => (some (v25, s26)))) else (if Ix a1 4 then (if (gI s6 31 0 a1.toNatClampNeg) < 0 then (bI (f9_fails 1 s6) (fun v7 s8 => (some (v7, s8)))) else (if Ix a3 4 then (if 0 ≤ (gI s6 31 0 a3.toNatClampNeg) then (if Ix a1 4 then (if Ix a3 4 then (if (gI s6 31 0 a1.toNatClampNeg) = (gI s6 31 0 a3.toNatClampNeg) then (if a5 < 0 then (bI (f9_fails 3 s6) (fun v9 s10 => (some (v9, s10)))) else (if a2 < 0 then (bI (f9_fails 3 s6) (fun v11 s12 => (some (v11, s12)))) else (if a4 < 0 then (bI (f9_fails 3 s6) (fun v13 s14 => (some (v13, s14)))) else (if Ix a1 4 then (if ((gI s6 32 0 a1.toNatClampNeg) - a5) < a2 then (bI (f9_fails 3 s6) (fun v15 s16 => (some (v15, s16)))) else (if Ix a3 4 then (if a4 ≤ ((gI s6 32 0 a3.toNatClampNeg) - a5) then (l9_copy_120 (fun v17 s18 => (l9_copy_157 a3 a4 a5 300 0 s18)) a1 a2 a3 a4 a5 300 0 (sI s6 9 0 15 0)) else (bI (f9_fails 3 s6) (fun v19 s20 => (some (v19, s20))))) else none)) else none)))) else (bI (f9_fails 2 s6) (fun v21 s22 => (some (v21, s22))))) else none) else none) else (bI (f9_fails 1 s6) (fun v23 s24 => (some (v23, s24))))) else none)) else none)))))))

def f9_cut (a0 : Int32) (a1 : Int32) (σ : Sto) : Option (Int32 × Sto) := (if a0 = 0 then (some (a1.toInt8.toInt32, σ)) else (if a0 = 1 then (some (a1.toInt16.toInt32, σ)) else (some (a1, σ))))

def l9_divisor_4  : Nat → Int32 → Int32 → Sto → Option (Int32 × Sto)
  | 0, _, _, _ => none
  | n + 1, a2, a3, σ => (if a3 = 0 then (some (a2, σ)) else (if ¬ a3 = 0 then (l9_divisor_4  n a3 (a2 - a2 / a3 * a3) σ) else none))
def f9_divisor (a0 : Int32) (a1 : Int32) (σ : Sto) : Option (Int32 × Sto) := (l9_divisor_4  300 a0 a1 σ)

def f9_forceOf (a1 : Int32) (σ : Sto) : Option (Int32 × Sto) := (if Ix a1 2 then (if (gI σ 26 0 a1.toNatClampNeg) = 0 then (if Ix a1 2 then (some (gI σ 27 0 a1.toNatClampNeg, σ)) else none) else (if Ix a1 2 then (if (gI σ 26 0 a1.toNatClampNeg) = 1 then (if Ix a1 2 then (some ((gI σ 27 0 a1.toNatClampNeg) + 1, σ)) else none) else (if Ix a1 2 then (some (2 * ((gI σ 27 0 a1.toNatClampNeg) + 1), σ)) else none)) else none)) else none)

def f9_isSquare (a1 : Int32) (σ : Sto) : Option (Int32 × Sto) := (bI (f9_in a1.toInt64 0 (((gI σ 9 0 1) - 1).toInt64) σ) (fun v1 s2 => (if v1 = 0 ∨ v1 = 1 then some (v1, s2) else none)))

def f9_next (a1 : Int32) (a2 : Int32) (σ : Sto) : Option (Int32 × Sto) := (if ¬ (gI σ 9 0 0) = 0 then (if a2 = 1 then (if a2 = 0 then (bI (f9_in (((a1 - a1 / (gI σ 9 0 0) * (gI σ 9 0 0)) + 1).toInt64) 0 (((gI σ 9 0 0) - 1).toInt64) σ) (fun v45 s46 => (if v45 = 0 then (some ((-1), s46)) else (bI (f9_isSquare (a1 + (-(gI σ 9 0 0))) s46) (fun v47 s48 => (if v47 = 0 then (some ((-1), s48)) else (some (a1 + (-(gI σ 9 0 0)), s48)))))))) else (if a2 = 2 then (bI (f9_in (((a1 - a1 / (gI σ 9 0 0) * (gI σ 9 0 0)) + 1).toInt64) 0 (((gI σ 9 0 0) - 1).toInt64) σ) (fun v41 s42 => (if v41 = 0 then (some ((-1), s42)) else (bI (f9_isSquare (a1 + (gI σ 9 0 0)) s42) (fun v43 s44 => (if v43 = 0 then (some ((-1), s44)) else (some (a1 + (gI σ 9 0 0), s44)))))))) else (if a2 = 1 then (bI (f9_in (((a1 - a1 / (gI σ 9 0 0) * (gI σ 9 0 0)) + 1).toInt64) 0 (((gI σ 9 0 0) - 1).toInt64) σ) (fun v37 s38 => (if v37 = 0 then (some ((-1), s38)) else (bI (f9_isSquare (a1 + 1) s38) (fun v39 s40 => (if v39 = 0 then (some ((-1), s40)) else (some (a1 + 1, s40)))))))) else (bI (f9_in (((a1 - a1 / (gI σ 9 0 0) * (gI σ 9 0 0)) + 1).toInt64) 0 (((gI σ 9 0 0) - 1).toInt64) σ) (fun v33 s34 => (if v33 = 0 then (some ((-1), s34)) else (bI (f9_isSquare (a1 + (-1)) s34) (fun v35 s36 => (if v35 = 0 then (some ((-1), s36)) else (some (a1 + (-1), s36))))))))))) else (if a2 = 3 then (if a2 = 0 then (bI (f9_in (((a1 - a1 / (gI σ 9 0 0) * (gI σ 9 0 0)) + (-1)).toInt64) 0 (((gI σ 9 0 0) - 1).toInt64) σ) (fun v29 s30 => (if v29 = 0 then (some ((-1), s30)) else (bI (f9_isSquare (a1 + (-(gI σ 9 0 0))) s30) (fun v31 s32 => (if v31 = 0 then (some ((-1), s32)) else (some (a1 + (-(gI σ 9 0 0)), s32)))))))) else (if a2 = 2 then (bI (f9_in (((a1 - a1 / (gI σ 9 0 0) * (gI σ 9 0 0)) + (-1)).toInt64) 0 (((gI σ 9 0 0) - 1).toInt64) σ) (fun v25 s26 => (if v25 = 0 then (some ((-1), s26)) else (bI (f9_isSquare (a1 + (gI σ 9 0 0)) s26) (fun v27 s28 => (if v27 = 0 then (some ((-1), s28)) else (some (a1 + (gI σ 9 0 0), s28)))))))) else (if a2 = 1 then (bI (f9_in (((a1 - a1 / (gI σ 9 0 0) * (gI σ 9 0 0)) + (-1)).toInt64) 0 (((gI σ 9 0 0) - 1).toInt64) σ) (fun v21 s22 => (if v21 = 0 then (some ((-1), s22)) else (bI (f9_isSquare (a1 + 1) s22) (fun v23 s24 => (if v23 = 0 then (some ((-1), s24)) else (some (a1 + 1, s24)))))))) else (bI (f9_in (((a1 - a1 / (gI σ 9 0 0) * (gI σ 9 0 0)) + (-1)).toInt64) 0 (((gI σ 9 0 0) - 1).toInt64) σ) (fun v17 s18 => (if v17 = 0 then (some ((-1), s18)) else (bI (f9_isSquare (a1 + (-1)) s18) (fun v19 s20 => (if v19 = 0 then (some ((-1), s20)) else (some (a1 + (-1), s20))))))))))) else (if a2 = 0 then (bI (f9_in (((a1 - a1 / (gI σ 9 0 0) * (gI σ 9 0 0)) + 0).toInt64) 0 (((gI σ 9 0 0) - 1).toInt64) σ) (fun v13 s14 => (if v13 = 0 then (some ((-1), s14)) else (bI (f9_isSquare (a1 + (-(gI σ 9 0 0))) s14) (fun v15 s16 => (if v15 = 0 then (some ((-1), s16)) else (some (a1 + (-(gI σ 9 0 0)), s16)))))))) else (if a2 = 2 then (bI (f9_in (((a1 - a1 / (gI σ 9 0 0) * (gI σ 9 0 0)) + 0).toInt64) 0 (((gI σ 9 0 0) - 1).toInt64) σ) (fun v9 s10 => (if v9 = 0 then (some ((-1), s10)) else (bI (f9_isSquare (a1 + (gI σ 9 0 0)) s10) (fun v11 s12 => (if v11 = 0 then (some ((-1), s12)) else (some (a1 + (gI σ 9 0 0), s12)))))))) else (if a2 = 1 then (bI (f9_in (((a1 - a1 / (gI σ 9 0 0) * (gI σ 9 0 0)) + 0).toInt64) 0 (((gI σ 9 0 0) - 1).toInt64) σ) (fun v5 s6 => (if v5 = 0 then (some ((-1), s6)) else (bI (f9_isSquare (a1 + 1) s6) (fun v7 s8 => (if v7 = 0 then (some ((-1), s8)) else (some (a1 + 1, s8)))))))) else (bI (f9_in (((a1 - a1 / (gI σ 9 0 0) * (gI σ 9 0 0)) + 0).toInt64) 0 (((gI σ 9 0 0) - 1).toInt64) σ) (fun v1 s2 => (if v1 = 0 then (some ((-1), s2)) else (bI (f9_isSquare (a1 + (-1)) s2) (fun v3 s4 => (if v3 = 0 then (some ((-1), s4)) else (some (a1 + (-1), s4))))))))))))) else none)

def l9_peaAt_2 (a1 : Int32) : Nat → Int32 → Sto → Option (Int32 × Sto)
  | 0, _, _ => none
  | n + 1, a2, σ => (if (gI σ 9 0 3) ≤ a2 then (some ((-1), σ)) else (if Ix a2 5 then (if (gI σ 39 0 a2.toNatClampNeg) = a1 then (some (a2, σ)) else (l9_peaAt_2 a1 n (a2 + 1) σ)) else none))
def f9_peaAt (a1 : Int32) (σ : Sto) : Option (Int32 × Sto) := (l9_peaAt_2 a1 300 0 σ)

def l9_isHeld_2 (k : Int32 → Sto → Option (Int32 × Sto)) (a2 : Int32) : Nat → Int32 → Sto → Option (Int32 × Sto)
  | 0, _, _ => none
  | n + 1, a3, σ => (if a3 < 0 then (some (0, σ)) else (if Ix a3 5 then (bI (f9_next (gI σ 39 0 a3.toNatClampNeg) a2 σ) (fun v1 s2 => (if 0 ≤ v1 then (if Ix v1 30 then (if (gI s2 24 0 v1.toNatClampNeg) = 2 then (some (1, s2)) else (bI (f9_peaAt v1 s2) (fun v3 s4 => (l9_isHeld_2 k a2 n v3 s4)))) else none) else (k a3 s2)))) else none))
def f9_isHeld (a1 : Int32) (a2 : Int32) (σ : Sto) : Option (Int32 × Sto) := (l9_isHeld_2 (fun v5 s6 => (if (gI s6 9 0 8) = 2 then (some (1, s6)) else (some (0, s6)))) a2 300 a1 σ)

def l9_roll_9  : Nat → Int32 → Int32 → Int32 → Sto → Option (Sto)
  | 0, _, _, _, _ => none
  | n + 1, a4, a5, a6, σ => (if a5 ≤ 0 then (some σ) else (if Ix a4 5 then (bI (f9_next (gI σ 39 0 a4.toNatClampNeg) a6 σ) (fun v1 s2 => (if 0 ≤ v1 then (if 0 ≤ v1 then (if Ix v1 30 then (if (gI s2 24 0 v1.toNatClampNeg) = 2 then (l9_roll_9  n a4 0 a6 s2) else (bI (f9_peaAt v1 s2) (fun v3 s4 => (if v3 < 0 then (if Ix a4 5 then (if Ix v1 30 then (if (gI (sI s4 39 0 a4.toNatClampNeg v1) 24 0 v1.toNatClampNeg) = 1 then (l9_roll_9  n a4 0 a6 (sI s4 39 0 a4.toNatClampNeg v1)) else (l9_roll_9  n a4 (a5 - 1) a6 (sI s4 39 0 a4.toNatClampNeg v1))) else none) else none) else (bI (f9_peaAt v1 s4) (fun v5 s6 => (l9_roll_9  n v5 (a5 + (-1)) a6 s6))))))) else none) else (if (gI s2 9 0 8) = 1 then (if Ix a4 5 then (l9_roll_9  n a4 0 a6 (sI s2 39 0 a4.toNatClampNeg (-2))) else none) else (if Ix a4 5 then (if Ix a4 5 then (l9_roll_9  n a4 0 a6 (sI s2 39 0 a4.toNatClampNeg (gI s2 39 0 a4.toNatClampNeg))) else none) else none))) else (if (gI s2 9 0 8) = 0 then (l9_roll_9  n a4 (a5 + (-1)) ((a6 + 2) - (a6 + 2) / 4 * 4) s2) else (if 0 ≤ v1 then (if Ix v1 30 then (if (gI s2 24 0 v1.toNatClampNeg) = 2 then (l9_roll_9  n a4 0 a6 s2) else (bI (f9_peaAt v1 s2) (fun v7 s8 => (if v7 < 0 then (if Ix a4 5 then (if Ix v1 30 then (if (gI (sI s8 39 0 a4.toNatClampNeg v1) 24 0 v1.toNatClampNeg) = 1 then (l9_roll_9  n a4 0 a6 (sI s8 39 0 a4.toNatClampNeg v1)) else (l9_roll_9  n a4 (a5 - 1) a6 (sI s8 39 0 a4.toNatClampNeg v1))) else none) else none) else (bI (f9_peaAt v1 s8) (fun v9 s10 => (l9_roll_9  n v9 (a5 + (-1)) a6 s10))))))) else none) else (if (gI s2 9 0 8) = 1 then (if Ix a4 5 then (l9_roll_9  n a4 0 a6 (sI s2 39 0 a4.toNatClampNeg (-2))) else none) else (if Ix a4 5 then (if Ix a4 5 then (l9_roll_9  n a4 0 a6 (sI s2 39 0 a4.toNatClampNeg (gI s2 39 0 a4.toNatClampNeg))) else none) else none))))))) else none))
def f9_roll (a1 : Int32) (a2 : Int32) (a3 : Int32) (σ : Sto) : Option (Sto) := (l9_roll_9  300 a1 a2 a3 σ)

def f9_doPush (a1 : Int32) (σ : Sto) : Option (Sto) := (bI (f9_peaOf a1 σ) (fun v1 s2 => (if Ix v1 5 then (if (gI s2 39 0 v1.toNatClampNeg) < 0 then (some s2) else (bI (f9_isHeld v1 (a1 - a1 / 10 * 10) s2) (fun v3 s4 => (if v3 = 0 then (bI (f9_eaterOf a1 s4) (fun v5 s6 => (bI (f9_forceOf v5 s6) (fun v7 s8 => (bV (f9_roll v1 v7 (a1 - a1 / 10 * 10) s8) (fun s9 => (some s9))))))) else (if Ix v1 5 then (some (sI s4 39 0 v1.toNatClampNeg (-1))) else none))))) else none)))

def f9_fault  (σ : Sto) : Option (Int32 × Sto) := (some (gI σ 9 0 15, σ))

def f9_faultOf (a1 : Int32) (a2 : Int32) (a3 : Int32) (a4 : Int32) (σ : Sto) : Option (Int32 × Sto) := (if Ix a1 4 then (if 0 ≤ (gI σ 31 0 a1.toNatClampNeg) then (if Ix a1 4 then (if (gI σ 31 0 a1.toNatClampNeg) = a2 then (if 0 ≤ a4 then (if a3 < 0 then (some (3, σ)) else (if Ix a1 4 then (if a3 ≤ ((gI σ 32 0 a1.toNatClampNeg) - a4) then (some (0, σ)) else (some (3, σ))) else none)) else (some (4, σ))) else (some (2, σ))) else none) else (some (1, σ))) else none)

def f9_isPush (a1 : Int32) (σ : Sto) : Option (Int32 × Sto) := (bI (f9_isCode a1 σ) (fun v1 s2 => (if v1 = 0 then (some (0, s2)) else (bI (f9_peaOf a1 s2) (fun v3 s4 => (if Ix v3 5 then (if (gI s4 39 0 v3.toNatClampNeg) < 0 then (some (0, s4)) else (some (1, s4))) else none))))))

def l9_load_2 (a1 : Int32) : Nat → Int32 → Sto → Option (Sto)
  | 0, _, _ => none
  | n + 1, a2, σ => (if (gI σ 9 0 3) ≤ a2 then (some σ) else (if Ix ((5 * a1) + a2) 15 then (if Ix a2 5 then (l9_load_2 a1 n (a2 + 1) (sI σ 39 0 a2.toNatClampNeg (gI σ 40 0 ((5 * a1) + a2).toNatClampNeg))) else none) else none))
def f9_load (a1 : Int32) (σ : Sto) : Option (Sto) := (l9_load_2 a1 300 0 σ)

def l9_save_2 (a1 : Int32) : Nat → Int32 → Sto → Option (Sto)
  | 0, _, _ => none
  | n + 1, a2, σ => (if (gI σ 9 0 3) ≤ a2 then (some σ) else (if Ix a2 5 then (if Ix ((5 * a1) + a2) 15 then (l9_save_2 a1 n (a2 + 1) (sI σ 40 0 ((5 * a1) + a2).toNatClampNeg (gI σ 39 0 a2.toNatClampNeg))) else none) else none))
def f9_save (a1 : Int32) (σ : Sto) : Option (Sto) := (l9_save_2 a1 300 0 σ)

def l9_lastPush_7 (a1 : Int32) (a2 : Int32) : Nat → Int32 → Sto → Option (Int32 × Sto)
  | 0, _, _ => none
  | n + 1, a3, σ => (if 200 ≤ a3 then (some ((-1), σ)) else (bI (f9_isPush a3 σ) (fun v2 s3 => (if v2 = 0 then (l9_lastPush_7 a1 a2 n (a3 + 1) s3) else (bV (f9_doPush a3 s3) (fun s4 => (if Ix a1 5 then (if (gI s4 39 0 a1.toNatClampNeg) = (-1) then (bV (f9_load a2 s4) (fun s6 => (some (a3, s6)))) else (bV (f9_load a2 s4) (fun s5 => (l9_lastPush_7 a1 a2 n (a3 + 1) s5)))) else none)))))))
def f9_lastPush (a1 : Int32) (a2 : Int32) (σ : Sto) : Option (Int32 × Sto) := (bV (f9_save a2 σ) (fun s1 => (l9_lastPush_7 a1 a2 300 0 s1)))

def l9_findThree_29 (k : Int32 → Sto → Option (Int32 × Sto)) (a1 : Int32) (a2 : Int32) : Nat → Int32 → Sto → Option (Int32 × Sto)
  | 0, _, _ => none
  | n + 1, a3, σ => (if 200 ≤ a3 then (k a3 σ) else (bI (f9_isPush a3 σ) (fun v5 s6 => (if v5 = 0 then (l9_findThree_29 k a1 a2 n (a3 + 1) s6) else (bV (f9_doPush a3 s6) (fun s7 => (bI (f9_lastPush a1 2 (sI (sI s7 41 0 0 a2) 41 0 1 a3)) (fun v8 s9 => (bV (f9_load 1 (sI s9 41 0 2 v8)) (fun s10 => (if (gI s10 41 0 2) < 0 then (l9_findThree_29 k a1 a2 n (a3 + 1) s10) else (some (1, s10)))))))))))))
def l9_findThree_2 (a1 : Int32) : Nat → Int32 → Sto → Option (Int32 × Sto)
  | 0, _, _ => none
  | n + 1, a2, σ => (if 200 ≤ a2 then (some (0, σ)) else (bI (f9_isPush a2 σ) (fun v1 s2 => (if v1 = 0 then (l9_findThree_2 a1 n (a2 + 1) s2) else (bV (f9_doPush a2 s2) (fun s3 => (bV (f9_save 1 s3) (fun s4 => (l9_findThree_29 (fun v11 s12 => (bV (f9_load 0 s12) (fun s13 => (l9_findThree_2 a1 n (a2 + 1) s13)))) a1 a2 300 0 s4)))))))))
def f9_findThree (a1 : Int32) (σ : Sto) : Option (Int32 × Sto) := (l9_findThree_2 a1 300 0 σ)

def l9_goThrough_2 (k : Int32 → Sto → Option (Sto)) (a1 : Int32) : Nat → Int32 → Sto → Option (Sto)
  | 0, _, _ => none
  | n + 1, a2, σ => (if (gI σ 9 0 3) ≤ a2 then (k a2 σ) else (if Ix a2 5 then (if Ix a2 5 then (l9_goThrough_2 k a1 n (a2 + 1) (sI σ 39 0 a2.toNatClampNeg (gI σ 25 0 a2.toNatClampNeg))) else none) else none))
def l9_goThrough_30 (a1 : Int32) : Nat → Int32 → Sto → Option (Sto)
  | 0, _, _ => none
  | n + 1, a2, σ => (if (gI σ 9 0 9) ≤ a2 then (some σ) else (if a2 = a1 then (l9_goThrough_30 a1 n (a2 + 1) σ) else (if Ix a2 30 then (bV (f9_doPush (gI σ 28 0 a2.toNatClampNeg) σ) (fun s3 => (l9_goThrough_30 a1 n (a2 + 1) s3))) else none)))
def f9_goThrough (a1 : Int32) (σ : Sto) : Option (Sto) := (l9_goThrough_2 (fun v1 s2 => (l9_goThrough_30 a1 300 0 s2)) a1 300 0 σ)

def l9_findFewest_55 (k : Int32 → Sto → Option (Int32 × Sto)) (a1 : Int32) : Nat → Int32 → Sto → Option (Int32 × Sto)
  | 0, _, _ => none
  | n + 1, a2, σ => (if 200 ≤ a2 then (k a2 σ) else (bI (f9_isPush a2 σ) (fun v4 s5 => (if v4 = 0 then (l9_findFewest_55 k a1 n (a2 + 1) s5) else (bV (f9_doPush a2 s5) (fun s6 => (bI (f9_lastPush a1 1 (sI s6 41 0 0 a2)) (fun v7 s8 => (bV (f9_load 0 (sI s8 41 0 1 v7)) (fun s9 => (if (gI s9 41 0 1) < 0 then (l9_findFewest_55 k a1 n (a2 + 1) s9) else (some (2, s9)))))))))))))
def f9_findFewest (a1 : Int32) (σ : Sto) : Option (Int32 × Sto) := (bV (f9_goThrough (-1) σ) (fun s1 => (if Ix a1 5 then (if 0 ≤ (gI s1 39 0 a1.toNatClampNeg) then (bI (f9_lastPush a1 0 s1) (fun v2 s3 => (if (gI (sI s3 41 0 0 v2) 41 0 0) < 0 then (l9_findFewest_55 (fun v10 s11 => (bI (f9_findThree a1 s11) (fun v12 s13 => (if v12 = 0 then (some (4, s13)) else (some (3, s13)))))) a1 300 0 (sI s3 41 0 0 v2)) else (some (1, (sI s3 41 0 0 v2)))))) else (if Ix a1 5 then (if (gI s1 39 0 a1.toNatClampNeg) = (-1) then (some (0, s1)) else (some (4, s1))) else none)) else none)))

def f9_fewest (a1 : Int32) (a2 : Int32) (σ : Sto) : Option (Int32 × Sto) := (bI (f9_isPea a1 σ) (fun v1 s2 => (if v1 = 0 then (some ((-1), s2)) else (if (-1) ≤ a2 then (bI (f9_findFewest a1 s2) (fun v3 s4 => (if v3 = 4 then (some ((-9), s4)) else (if a2 = (-1) then (some (v3, s4)) else (if v3 ≤ a2 then (some ((-9), s4)) else (if Ix a2 3 then (some (gI s4 41 0 a2.toNatClampNeg, s4)) else none)))))) else (some ((-1), s2))))))

def f9_forkTells (a1 : Int32) (σ : Sto) : Option (Int32 × Sto) := (bV (f9_begin 1 σ) (fun s1 => (if Ix a1 2 then (some (gI s1 27 0 a1.toNatClampNeg, s1)) else none)))

def l9_hadNow_4  : Nat → Int32 → Int32 → Sto → Option (Int32 × Sto)
  | 0, _, _, _ => none
  | n + 1, a1, a2, σ => (if (gI σ 9 0 3) ≤ a2 then (some (a1, σ)) else (if Ix a2 5 then (if (gI σ 39 0 a2.toNatClampNeg) = (-1) then (l9_hadNow_4  n (a1 + 1) (a2 + 1) σ) else (l9_hadNow_4  n (a1 + 0) (a2 + 1) σ)) else none))
def f9_hadNow  (σ : Sto) : Option (Int32 × Sto) := (l9_hadNow_4  300 0 0 σ)

def f9_knifeTells (a1 : Int32) (σ : Sto) : Option (Int32 × Sto) := (bV (f9_begin 2 σ) (fun s1 => (bI (f9_forkTells a1 s1) (fun v2 s3 => (some (v2 + 100, s3))))))

def l9_last_31 (k : Int32 → Int32 → Sto → Option (Int32 × Sto)) (a1 : Int32) : Nat → Int32 → Int32 → Sto → Option (Int32 × Sto)
  | 0, _, _, _ => none
  | n + 1, a2, a3, σ => (if 200 ≤ a3 then (k a2 a3 σ) else (bI (f9_isCode a3 σ) (fun v3 s4 => (if v3 = 0 then (l9_last_31 k a1 n a2 (a3 + 1) s4) else (bV (f9_doPush a3 s4) (fun s5 => (bI (f9_areSo s5) (fun v6 s7 => (bV (f9_load 0 s7) (fun s8 => (if v6 = 0 then (if v6 = 0 then (l9_last_31 k a1 n (a2 + 0) (a3 + 1) s8) else (l9_last_31 k a1 n (a2 + 1) (a3 + 1) s8)) else (if a2 = a1 then (some (a3, s8)) else (if v6 = 0 then (l9_last_31 k a1 n (a2 + 0) (a3 + 1) s8) else (l9_last_31 k a1 n (a2 + 1) (a3 + 1) s8))))))))))))))
def f9_last (a1 : Int32) (σ : Sto) : Option (Int32 × Sto) := (if (-1) ≤ a1 then (if (gI σ 9 0 1) = 0 then (some ((-3), σ)) else (bV (f9_goThrough (-1) σ) (fun s1 => (bV (f9_save 0 s1) (fun s2 => (l9_last_31 (fun v9 v10 s11 => (if a1 = (-1) then (some (v9, s11)) else (some ((-9), s11)))) a1 300 0 0 s2)))))) else (some ((-1), σ)))

def f9_law (a1 : Int32) (σ : Sto) : Option (Int32 × Sto) := (bI (f9_in a1.toInt64 0 (2) σ) (fun v1 s2 => (if v1 = 0 then (some ((-2), s2)) else (if (gI s2 9 0 1) = 0 then (some ((-3), s2)) else (some (gI s2 9 0 8, (sI s2 9 0 8 a1)))))))

def l9_laws_19 (a1 : Int32) : Nat → Int32 → Int32 → Sto → Option (Int32 × Sto)
  | 0, _, _, _ => none
  | n + 1, a2, a3, σ => (if 3 ≤ a3 then (some (a2, (sI σ 9 0 8 a1))) else (bV (f9_goThrough (-1) (sI σ 9 0 8 a3)) (fun s1 => (bI (f9_areSo s1) (fun v2 s3 => (if v2 = 0 then (l9_laws_19 a1 n (a2 ||| 0) (a3 + 1) s3) else (l9_laws_19 a1 n (a2 ||| (1 <<< (a3 &&& 31))) (a3 + 1) s3)))))))
def f9_laws  (σ : Sto) : Option (Int32 × Sto) := (if (gI σ 9 0 1) = 0 then (some ((-3), σ)) else (l9_laws_19 (gI σ 9 0 8) 300 0 0 σ))

def f9_lose (a1 : Int32) (σ : Sto) : Option (Int32 × Sto) := (bI (f9_isSheet a1 σ) (fun v1 s2 => (if v1 = 0 then (some ((-1), s2)) else (if Ix a1 4 then (if 0 ≤ (gI s2 31 0 a1.toNatClampNeg) then (if Ix a1 4 then (some (1, (sI s2 31 0 a1.toNatClampNeg (-1)))) else none) else (if Ix a1 4 then (some (0, (sI s2 31 0 a1.toNatClampNeg (-1)))) else none)) else none))))

def f9_many (a1 : Int32) (σ : Sto) : Option (Int32 × Sto) := (if a1 = 0 then (some (gI σ 9 0 1, σ)) else (if a1 = 1 then (some (gI σ 9 0 0, σ)) else (if a1 = 2 then (some (gI σ 9 0 3, σ)) else (if a1 = 3 then (some (gI σ 9 0 5, σ)) else (if a1 = 4 then (some (gI σ 9 0 9, σ)) else (if a1 = 5 then (some (gI σ 9 0 11, σ)) else (if a1 = 6 then (some (gI σ 9 0 8, σ)) else (some ((-2), σ)))))))))

def l9_mostByOne_12 (a1 : Int32) : Nat → Int32 → Int32 → Sto → Option (Int32 × Sto)
  | 0, _, _, _ => none
  | n + 1, a2, a3, σ => (if 200 ≤ a3 then (some (a2, σ)) else (bI (f9_isPush a3 σ) (fun v4 s5 => (if v4 = 0 then (l9_mostByOne_12 a1 n a2 (a3 + 1) s5) else (bV (f9_doPush a3 s5) (fun s6 => (bI (f9_hadNow s6) (fun v7 s8 => (if v7 ≤ a2 then (bV (f9_load a1 s8) (fun s9 => (l9_mostByOne_12 a1 n a2 (a3 + 1) s9))) else (bV (f9_load a1 s8) (fun s10 => (l9_mostByOne_12 a1 n v7 (a3 + 1) s10))))))))))))
def f9_mostByOne (a1 : Int32) (σ : Sto) : Option (Int32 × Sto) := (bV (f9_save a1 σ) (fun s1 => (bI (f9_hadNow s1) (fun v2 s3 => (l9_mostByOne_12 a1 300 v2 0 s3)))))

def l9_mostByTwo_12 (a1 : Int32) : Nat → Int32 → Int32 → Sto → Option (Int32 × Sto)
  | 0, _, _, _ => none
  | n + 1, a2, a3, σ => (if 200 ≤ a3 then (some (a2, σ)) else (bI (f9_isPush a3 σ) (fun v4 s5 => (if v4 = 0 then (l9_mostByTwo_12 a1 n a2 (a3 + 1) s5) else (bV (f9_doPush a3 s5) (fun s6 => (bI (f9_mostByOne (a1 + 1) s6) (fun v7 s8 => (if v7 ≤ a2 then (bV (f9_load a1 s8) (fun s9 => (l9_mostByTwo_12 a1 n a2 (a3 + 1) s9))) else (bV (f9_load a1 s8) (fun s10 => (l9_mostByTwo_12 a1 n v7 (a3 + 1) s10))))))))))))
def f9_mostByTwo (a1 : Int32) (σ : Sto) : Option (Int32 × Sto) := (bV (f9_save a1 σ) (fun s1 => (bI (f9_hadNow s1) (fun v2 s3 => (l9_mostByTwo_12 a1 300 v2 0 s3)))))

def l9_mostByThree_12  : Nat → Int32 → Int32 → Sto → Option (Int32 × Sto)
  | 0, _, _, _ => none
  | n + 1, a1, a2, σ => (if 200 ≤ a2 then (some (a1, σ)) else (bI (f9_isPush a2 σ) (fun v4 s5 => (if v4 = 0 then (l9_mostByThree_12  n a1 (a2 + 1) s5) else (bV (f9_doPush a2 s5) (fun s6 => (bI (f9_mostByTwo 1 s6) (fun v7 s8 => (if v7 ≤ a1 then (bV (f9_load 0 s8) (fun s9 => (l9_mostByThree_12  n a1 (a2 + 1) s9))) else (bV (f9_load 0 s8) (fun s10 => (l9_mostByThree_12  n v7 (a2 + 1) s10))))))))))))
def f9_mostByThree  (σ : Sto) : Option (Int32 × Sto) := (bV (f9_save 0 σ) (fun s1 => (bI (f9_hadNow s1) (fun v2 s3 => (l9_mostByThree_12  300 v2 0 s3)))))

def f9_most (a1 : Int32) (σ : Sto) : Option (Int32 × Sto) := (bI (f9_in a1.toInt64 0 (3) σ) (fun v1 s2 => (if v1 = 0 then (some ((-2), s2)) else (if (gI s2 9 0 1) = 0 then (some ((-3), s2)) else (bV (f9_goThrough (-1) s2) (fun s3 => (if a1 = 0 then (bI (f9_hadNow s3) (fun v10 s11 => (some (v10, s11)))) else (if a1 = 1 then (bI (f9_mostByOne 0 s3) (fun v8 s9 => (some (v8, s9)))) else (if a1 = 2 then (bI (f9_mostByTwo 0 s3) (fun v6 s7 => (some (v6, s7)))) else (bI (f9_mostByThree s3) (fun v4 s5 => (some (v4, s5)))))))))))))

def l9_never_14  : Nat → Int32 → Int32 → Sto → Option (Int32 × Sto)
  | 0, _, _, _ => none
  | n + 1, a1, a2, σ => (if (gI σ 9 0 9) ≤ a2 then (some (a1, σ)) else (bV (f9_goThrough a2 σ) (fun s1 => (bI (f9_areSo s1) (fun v2 s3 => (if v2 = 0 then (l9_never_14  n (a1 ||| 0) (a2 + 1) s3) else (l9_never_14  n (a1 ||| (1 <<< (a2 &&& 31))) (a2 + 1) s3)))))))
def f9_never  (σ : Sto) : Option (Int32 × Sto) := (if (gI σ 9 0 1) = 0 then (some ((-3), σ)) else (l9_never_14  300 0 0 σ))

def l9_odds_54 (k : Int32 → Int32 → Sto → Option (Int64 × Sto)) (a2 : Int32) (a3 : Int32) : Nat → Int32 → Int32 → Sto → Option (Int64 × Sto)
  | 0, _, _, _ => none
  | n + 1, a4, a5, σ => (if 4 ≤ a5 then (k a4 a5 σ) else (bI (f9_isHeld a2 a5 σ) (fun v8 s9 => (if v8 = 0 then (l9_odds_54 k a2 a3 n (a4 + 0) (a5 + 1) s9) else (l9_odds_54 k a2 a3 n (a4 + 1) (a5 + 1) s9)))))
def f9_odds (a1 : Int32) (a2 : Int32) (a3 : Int32) (σ : Sto) : Option (Int64 × Sto) := (bI (f9_isEater a1 σ) (fun v1 s2 => (if v1 = 0 then (some ((-9223372036854775808), s2)) else (bI (f9_isPea a2 s2) (fun v3 s4 => (if v3 = 0 then (some ((-9223372036854775808), s4)) else (bI (f9_in a3.toInt64 0 1 s4) (fun v5 s6 => (if v5 = 0 then (some ((-9223372036854775808), s6)) else (bV (f9_goThrough (-1) s6) (fun s7 => (if Ix a2 5 then (if 0 ≤ (gI s7 39 0 a2.toNatClampNeg) then (l9_odds_54 (fun v10 v11 s12 => (bI (f9_divisor v10 4 s12) (fun v13 s14 => (if a3 = 0 then (if ¬ v13 = 0 then (some ((v10 / v13).toInt64, s14)) else none) else (if ¬ v13 = 0 then (some ((4 / v13).toInt64, s14)) else none))))) a2 a3 300 0 0 s7) else (some ((-9223372036854775808), s7))) else none))))))))))))

def f9_ofEater (a1 : Int32) (a2 : Int32) (σ : Sto) : Option (Int32 × Sto) := (bI (f9_isEater a1 σ) (fun v1 s2 => (if v1 = 0 then (some ((-1), s2)) else (if a2 = 0 then (if Ix a1 2 then (some (gI s2 26 0 a1.toNatClampNeg, s2)) else none) else (if a2 = 1 then (if Ix a1 2 then (some (gI s2 27 0 a1.toNatClampNeg, s2)) else none) else (if a2 = 2 then (bI (f9_forceOf a1 s2) (fun v3 s4 => (some (v3, s4)))) else (some ((-2), s2))))))))

def l9_setOf_4 (a1 : Int32) : Nat → Int32 → Int32 → Sto → Option (Int32 × Sto)
  | 0, _, _, _ => none
  | n + 1, a2, a3, σ => (if (gI σ 9 0 3) ≤ a3 then (some (a2, σ)) else (if a1 = 0 then (if Ix a3 5 then (if (gI σ 39 0 a3.toNatClampNeg) = (-1) then (l9_setOf_4 a1 n (a2 ||| (1 <<< (a3 &&& 31))) (a3 + 1) σ) else (l9_setOf_4 a1 n (a2 ||| 0) (a3 + 1) σ)) else none) else (if a1 = 1 then (if Ix a3 5 then (if (gI σ 39 0 a3.toNatClampNeg) = (-2) then (l9_setOf_4 a1 n (a2 ||| (1 <<< (a3 &&& 31))) (a3 + 1) σ) else (l9_setOf_4 a1 n (a2 ||| 0) (a3 + 1) σ)) else none) else (if Ix a3 5 then (if (gI σ 39 0 a3.toNatClampNeg) < 0 then (l9_setOf_4 a1 n (a2 ||| 0) (a3 + 1) σ) else (bI (f9_isHeld a3 (a1 - 2) σ) (fun v1 s2 => (if v1 = 0 then (l9_setOf_4 a1 n (a2 ||| 0) (a3 + 1) s2) else (l9_setOf_4 a1 n (a2 ||| (1 <<< (a3 &&& 31))) (a3 + 1) s2))))) else none))))
def f9_setOf (a1 : Int32) (σ : Sto) : Option (Int32 × Sto) := (l9_setOf_4 a1 300 0 0 σ)

def f9_peas (a1 : Int32) (σ : Sto) : Option (Int32 × Sto) := (bI (f9_in a1.toInt64 0 (5) σ) (fun v1 s2 => (if v1 = 0 then (some ((-2), s2)) else (if (gI s2 9 0 1) = 0 then (some ((-3), s2)) else (bV (f9_goThrough (-1) s2) (fun s3 => (bI (f9_setOf a1 s3) (fun v4 s5 => (some (v4, s5))))))))))

def f9_take (a1 : Int32) (a2 : Int32) (σ : Sto) : Option (Int32 × Sto) := (if (gI σ 9 0 20) = (gI σ 9 0 21) then (some ((-1), σ)) else (if Ix (gI σ 9 0 20) 240 then (bI (f9_in ((gI σ 33 0 (gI σ 9 0 20).toNatClampNeg).toInt64) a1.toInt64 a2.toInt64 σ) (fun v1 s2 => (if v1 = 0 then (some ((-1), s2)) else (if Ix ((gI (sI s2 9 0 20 ((gI s2 9 0 20) + 1)) 9 0 20) - 1) 240 then (some ((gI (sI s2 9 0 20 ((gI s2 9 0 20) + 1)) 33 0 ((gI (sI s2 9 0 20 ((gI s2 9 0 20) + 1)) 9 0 20) - 1).toNatClampNeg) - a1, (sI s2 9 0 20 ((gI s2 9 0 20) + 1)))) else none)))) else none))

def f9_takeEater  (σ : Sto) : Option (Int32 × Sto) := (bI (f9_take 59 59 σ) (fun v1 s2 => (if 0 ≤ v1 then (if (gI s2 9 0 20) = (gI s2 9 0 21) then (if Ix (gI σ 9 0 27) 2 then (if Ix (gI σ 9 0 27) 2 then (if 0 ≤ (gI (sI s2 37 0 (gI σ 9 0 27).toNatClampNeg (-1)) 37 0 (gI σ 9 0 27).toNatClampNeg) then (bI (f9_take 49 52 (sI (sI s2 37 0 (gI σ 9 0 27).toNatClampNeg (-1)) 9 0 20 ((gI (sI s2 37 0 (gI σ 9 0 27).toNatClampNeg (-1)) 9 0 20) + 1))) (fun v11 s12 => (if Ix (gI σ 9 0 27) 2 then (if Ix (gI σ 9 0 27) 2 then (if (gI (sI (sI s12 38 0 (gI σ 9 0 27).toNatClampNeg (v11 + 1)) 9 0 27 ((gI (sI s12 38 0 (gI σ 9 0 27).toNatClampNeg (v11 + 1)) 9 0 27) + 1)) 38 0 (gI σ 9 0 27).toNatClampNeg) ≤ 0 then (some (0, (sI (sI s12 38 0 (gI σ 9 0 27).toNatClampNeg (v11 + 1)) 9 0 27 ((gI (sI s12 38 0 (gI σ 9 0 27).toNatClampNeg (v11 + 1)) 9 0 27) + 1)))) else (some (1, (sI (sI s12 38 0 (gI σ 9 0 27).toNatClampNeg (v11 + 1)) 9 0 27 ((gI (sI s12 38 0 (gI σ 9 0 27).toNatClampNeg (v11 + 1)) 9 0 27) + 1))))) else none) else none))) else (some (0, (sI s2 37 0 (gI σ 9 0 27).toNatClampNeg (-1))))) else none) else none) else (if Ix (gI s2 9 0 20) 240 then (if (gI s2 33 0 (gI s2 9 0 20).toNatClampNeg) = 102 then (if Ix (gI σ 9 0 27) 2 then (if Ix (gI σ 9 0 27) 2 then (if 0 ≤ (gI (sI s2 37 0 (gI σ 9 0 27).toNatClampNeg 0) 37 0 (gI σ 9 0 27).toNatClampNeg) then (bI (f9_take 49 52 (sI (sI s2 37 0 (gI σ 9 0 27).toNatClampNeg 0) 9 0 20 ((gI (sI s2 37 0 (gI σ 9 0 27).toNatClampNeg 0) 9 0 20) + 1))) (fun v9 s10 => (if Ix (gI σ 9 0 27) 2 then (if Ix (gI σ 9 0 27) 2 then (if (gI (sI (sI s10 38 0 (gI σ 9 0 27).toNatClampNeg (v9 + 1)) 9 0 27 ((gI (sI s10 38 0 (gI σ 9 0 27).toNatClampNeg (v9 + 1)) 9 0 27) + 1)) 38 0 (gI σ 9 0 27).toNatClampNeg) ≤ 0 then (some (0, (sI (sI s10 38 0 (gI σ 9 0 27).toNatClampNeg (v9 + 1)) 9 0 27 ((gI (sI s10 38 0 (gI σ 9 0 27).toNatClampNeg (v9 + 1)) 9 0 27) + 1)))) else (some (1, (sI (sI s10 38 0 (gI σ 9 0 27).toNatClampNeg (v9 + 1)) 9 0 27 ((gI (sI s10 38 0 (gI σ 9 0 27).toNatClampNeg (v9 + 1)) 9 0 27) + 1))))) else none) else none))) else (some (0, (sI s2 37 0 (gI σ 9 0 27).toNatClampNeg 0)))) else none) else none) else (if (gI s2 33 0 (gI s2 9 0 20).toNatClampNeg) = 107 then (if Ix (gI σ 9 0 27) 2 then (if Ix (gI σ 9 0 27) 2 then (if 0 ≤ (gI (sI s2 37 0 (gI σ 9 0 27).toNatClampNeg 1) 37 0 (gI σ 9 0 27).toNatClampNeg) then (bI (f9_take 49 52 (sI (sI s2 37 0 (gI σ 9 0 27).toNatClampNeg 1) 9 0 20 ((gI (sI s2 37 0 (gI σ 9 0 27).toNatClampNeg 1) 9 0 20) + 1))) (fun v7 s8 => (if Ix (gI σ 9 0 27) 2 then (if Ix (gI σ 9 0 27) 2 then (if (gI (sI (sI s8 38 0 (gI σ 9 0 27).toNatClampNeg (v7 + 1)) 9 0 27 ((gI (sI s8 38 0 (gI σ 9 0 27).toNatClampNeg (v7 + 1)) 9 0 27) + 1)) 38 0 (gI σ 9 0 27).toNatClampNeg) ≤ 0 then (some (0, (sI (sI s8 38 0 (gI σ 9 0 27).toNatClampNeg (v7 + 1)) 9 0 27 ((gI (sI s8 38 0 (gI σ 9 0 27).toNatClampNeg (v7 + 1)) 9 0 27) + 1)))) else (some (1, (sI (sI s8 38 0 (gI σ 9 0 27).toNatClampNeg (v7 + 1)) 9 0 27 ((gI (sI s8 38 0 (gI σ 9 0 27).toNatClampNeg (v7 + 1)) 9 0 27) + 1))))) else none) else none))) else (some (0, (sI s2 37 0 (gI σ 9 0 27).toNatClampNeg 1)))) else none) else none) else (if (gI s2 33 0 (gI s2 9 0 20).toNatClampNeg) = 115 then (if Ix (gI σ 9 0 27) 2 then (if Ix (gI σ 9 0 27) 2 then (if 0 ≤ (gI (sI s2 37 0 (gI σ 9 0 27).toNatClampNeg 2) 37 0 (gI σ 9 0 27).toNatClampNeg) then (bI (f9_take 49 52 (sI (sI s2 37 0 (gI σ 9 0 27).toNatClampNeg 2) 9 0 20 ((gI (sI s2 37 0 (gI σ 9 0 27).toNatClampNeg 2) 9 0 20) + 1))) (fun v5 s6 => (if Ix (gI σ 9 0 27) 2 then (if Ix (gI σ 9 0 27) 2 then (if (gI (sI (sI s6 38 0 (gI σ 9 0 27).toNatClampNeg (v5 + 1)) 9 0 27 ((gI (sI s6 38 0 (gI σ 9 0 27).toNatClampNeg (v5 + 1)) 9 0 27) + 1)) 38 0 (gI σ 9 0 27).toNatClampNeg) ≤ 0 then (some (0, (sI (sI s6 38 0 (gI σ 9 0 27).toNatClampNeg (v5 + 1)) 9 0 27 ((gI (sI s6 38 0 (gI σ 9 0 27).toNatClampNeg (v5 + 1)) 9 0 27) + 1)))) else (some (1, (sI (sI s6 38 0 (gI σ 9 0 27).toNatClampNeg (v5 + 1)) 9 0 27 ((gI (sI s6 38 0 (gI σ 9 0 27).toNatClampNeg (v5 + 1)) 9 0 27) + 1))))) else none) else none))) else (some (0, (sI s2 37 0 (gI σ 9 0 27).toNatClampNeg 2)))) else none) else none) else (if Ix (gI σ 9 0 27) 2 then (if Ix (gI σ 9 0 27) 2 then (if 0 ≤ (gI (sI s2 37 0 (gI σ 9 0 27).toNatClampNeg (-1)) 37 0 (gI σ 9 0 27).toNatClampNeg) then (bI (f9_take 49 52 (sI (sI s2 37 0 (gI σ 9 0 27).toNatClampNeg (-1)) 9 0 20 ((gI (sI s2 37 0 (gI σ 9 0 27).toNatClampNeg (-1)) 9 0 20) + 1))) (fun v3 s4 => (if Ix (gI σ 9 0 27) 2 then (if Ix (gI σ 9 0 27) 2 then (if (gI (sI (sI s4 38 0 (gI σ 9 0 27).toNatClampNeg (v3 + 1)) 9 0 27 ((gI (sI s4 38 0 (gI σ 9 0 27).toNatClampNeg (v3 + 1)) 9 0 27) + 1)) 38 0 (gI σ 9 0 27).toNatClampNeg) ≤ 0 then (some (0, (sI (sI s4 38 0 (gI σ 9 0 27).toNatClampNeg (v3 + 1)) 9 0 27 ((gI (sI s4 38 0 (gI σ 9 0 27).toNatClampNeg (v3 + 1)) 9 0 27) + 1)))) else (some (1, (sI (sI s4 38 0 (gI σ 9 0 27).toNatClampNeg (v3 + 1)) 9 0 27 ((gI (sI s4 38 0 (gI σ 9 0 27).toNatClampNeg (v3 + 1)) 9 0 27) + 1))))) else none) else none))) else (some (0, (sI s2 37 0 (gI σ 9 0 27).toNatClampNeg (-1))))) else none) else none)))) else none)) else (some (0, s2)))))

def f9_takeSquare (a1 : Int32) (σ : Sto) : Option (Int32 × Sto) := (if (gI σ 9 0 20) = (gI σ 9 0 21) then (if Ix a1 30 then (some (0, (sI σ 35 0 a1.toNatClampNeg 0))) else none) else (if Ix (gI σ 9 0 20) 240 then (if (gI σ 33 0 (gI σ 9 0 20).toNatClampNeg) = 111 then (if 5 ≤ (gI σ 9 0 24) then (if (gI σ 33 0 (gI σ 9 0 20).toNatClampNeg) = 103 then (if Ix a1 30 then (if (gI σ 33 0 (gI σ 9 0 20).toNatClampNeg) = 46 then (some (1, (sI (sI σ 35 0 a1.toNatClampNeg 1) 9 0 20 ((gI (sI σ 35 0 a1.toNatClampNeg 1) 9 0 20) + 1)))) else (if (gI σ 33 0 (gI σ 9 0 20).toNatClampNeg) = 103 then (some (1, (sI (sI σ 35 0 a1.toNatClampNeg 1) 9 0 20 ((gI (sI σ 35 0 a1.toNatClampNeg 1) 9 0 20) + 1)))) else (if (gI σ 33 0 (gI σ 9 0 20).toNatClampNeg) = 109 then (some (1, (sI (sI σ 35 0 a1.toNatClampNeg 1) 9 0 20 ((gI (sI σ 35 0 a1.toNatClampNeg 1) 9 0 20) + 1)))) else (some (0, (sI σ 35 0 a1.toNatClampNeg 1)))))) else none) else (if (gI σ 33 0 (gI σ 9 0 20).toNatClampNeg) = 109 then (if Ix a1 30 then (if (gI σ 33 0 (gI σ 9 0 20).toNatClampNeg) = 46 then (some (1, (sI (sI σ 35 0 a1.toNatClampNeg 2) 9 0 20 ((gI (sI σ 35 0 a1.toNatClampNeg 2) 9 0 20) + 1)))) else (if (gI σ 33 0 (gI σ 9 0 20).toNatClampNeg) = 103 then (some (1, (sI (sI σ 35 0 a1.toNatClampNeg 2) 9 0 20 ((gI (sI σ 35 0 a1.toNatClampNeg 2) 9 0 20) + 1)))) else (if (gI σ 33 0 (gI σ 9 0 20).toNatClampNeg) = 109 then (some (1, (sI (sI σ 35 0 a1.toNatClampNeg 2) 9 0 20 ((gI (sI σ 35 0 a1.toNatClampNeg 2) 9 0 20) + 1)))) else (some (0, (sI σ 35 0 a1.toNatClampNeg 2)))))) else none) else (if Ix a1 30 then (if (gI σ 33 0 (gI σ 9 0 20).toNatClampNeg) = 46 then (some (1, (sI (sI σ 35 0 a1.toNatClampNeg 0) 9 0 20 ((gI (sI σ 35 0 a1.toNatClampNeg 0) 9 0 20) + 1)))) else (if (gI σ 33 0 (gI σ 9 0 20).toNatClampNeg) = 103 then (some (1, (sI (sI σ 35 0 a1.toNatClampNeg 0) 9 0 20 ((gI (sI σ 35 0 a1.toNatClampNeg 0) 9 0 20) + 1)))) else (if (gI σ 33 0 (gI σ 9 0 20).toNatClampNeg) = 109 then (some (1, (sI (sI σ 35 0 a1.toNatClampNeg 0) 9 0 20 ((gI (sI σ 35 0 a1.toNatClampNeg 0) 9 0 20) + 1)))) else (some (0, (sI σ 35 0 a1.toNatClampNeg 0)))))) else none))) else (if (gI σ 33 0 (gI σ 9 0 20).toNatClampNeg) = 103 then (if Ix a1 30 then (if (gI σ 33 0 (gI σ 9 0 20).toNatClampNeg) = 46 then (if Ix (gI (sI σ 35 0 a1.toNatClampNeg 1) 9 0 24) 5 then (some (1, (sI (sI (sI (sI σ 35 0 a1.toNatClampNeg 1) 36 0 (gI (sI σ 35 0 a1.toNatClampNeg 1) 9 0 24).toNatClampNeg a1) 9 0 24 ((gI (sI (sI σ 35 0 a1.toNatClampNeg 1) 36 0 (gI (sI σ 35 0 a1.toNatClampNeg 1) 9 0 24).toNatClampNeg a1) 9 0 24) + 1)) 9 0 20 ((gI (sI (sI (sI σ 35 0 a1.toNatClampNeg 1) 36 0 (gI (sI σ 35 0 a1.toNatClampNeg 1) 9 0 24).toNatClampNeg a1) 9 0 24 ((gI (sI (sI σ 35 0 a1.toNatClampNeg 1) 36 0 (gI (sI σ 35 0 a1.toNatClampNeg 1) 9 0 24).toNatClampNeg a1) 9 0 24) + 1)) 9 0 20) + 1)))) else none) else (if (gI σ 33 0 (gI σ 9 0 20).toNatClampNeg) = 103 then (if Ix (gI (sI σ 35 0 a1.toNatClampNeg 1) 9 0 24) 5 then (some (1, (sI (sI (sI (sI σ 35 0 a1.toNatClampNeg 1) 36 0 (gI (sI σ 35 0 a1.toNatClampNeg 1) 9 0 24).toNatClampNeg a1) 9 0 24 ((gI (sI (sI σ 35 0 a1.toNatClampNeg 1) 36 0 (gI (sI σ 35 0 a1.toNatClampNeg 1) 9 0 24).toNatClampNeg a1) 9 0 24) + 1)) 9 0 20 ((gI (sI (sI (sI σ 35 0 a1.toNatClampNeg 1) 36 0 (gI (sI σ 35 0 a1.toNatClampNeg 1) 9 0 24).toNatClampNeg a1) 9 0 24 ((gI (sI (sI σ 35 0 a1.toNatClampNeg 1) 36 0 (gI (sI σ 35 0 a1.toNatClampNeg 1) 9 0 24).toNatClampNeg a1) 9 0 24) + 1)) 9 0 20) + 1)))) else none) else (if (gI σ 33 0 (gI σ 9 0 20).toNatClampNeg) = 109 then (if Ix (gI (sI σ 35 0 a1.toNatClampNeg 1) 9 0 24) 5 then (some (1, (sI (sI (sI (sI σ 35 0 a1.toNatClampNeg 1) 36 0 (gI (sI σ 35 0 a1.toNatClampNeg 1) 9 0 24).toNatClampNeg a1) 9 0 24 ((gI (sI (sI σ 35 0 a1.toNatClampNeg 1) 36 0 (gI (sI σ 35 0 a1.toNatClampNeg 1) 9 0 24).toNatClampNeg a1) 9 0 24) + 1)) 9 0 20 ((gI (sI (sI (sI σ 35 0 a1.toNatClampNeg 1) 36 0 (gI (sI σ 35 0 a1.toNatClampNeg 1) 9 0 24).toNatClampNeg a1) 9 0 24 ((gI (sI (sI σ 35 0 a1.toNatClampNeg 1) 36 0 (gI (sI σ 35 0 a1.toNatClampNeg 1) 9 0 24).toNatClampNeg a1) 9 0 24) + 1)) 9 0 20) + 1)))) else none) else (if Ix (gI (sI σ 35 0 a1.toNatClampNeg 1) 9 0 24) 5 then (some (1, (sI (sI (sI (sI σ 35 0 a1.toNatClampNeg 1) 36 0 (gI (sI σ 35 0 a1.toNatClampNeg 1) 9 0 24).toNatClampNeg a1) 9 0 24 ((gI (sI (sI σ 35 0 a1.toNatClampNeg 1) 36 0 (gI (sI σ 35 0 a1.toNatClampNeg 1) 9 0 24).toNatClampNeg a1) 9 0 24) + 1)) 9 0 20 ((gI (sI (sI (sI σ 35 0 a1.toNatClampNeg 1) 36 0 (gI (sI σ 35 0 a1.toNatClampNeg 1) 9 0 24).toNatClampNeg a1) 9 0 24 ((gI (sI (sI σ 35 0 a1.toNatClampNeg 1) 36 0 (gI (sI σ 35 0 a1.toNatClampNeg 1) 9 0 24).toNatClampNeg a1) 9 0 24) + 1)) 9 0 20) + 1)))) else none)))) else none) else (if (gI σ 33 0 (gI σ 9 0 20).toNatClampNeg) = 109 then (if Ix a1 30 then (if (gI σ 33 0 (gI σ 9 0 20).toNatClampNeg) = 46 then (if Ix (gI (sI σ 35 0 a1.toNatClampNeg 2) 9 0 24) 5 then (some (1, (sI (sI (sI (sI σ 35 0 a1.toNatClampNeg 2) 36 0 (gI (sI σ 35 0 a1.toNatClampNeg 2) 9 0 24).toNatClampNeg a1) 9 0 24 ((gI (sI (sI σ 35 0 a1.toNatClampNeg 2) 36 0 (gI (sI σ 35 0 a1.toNatClampNeg 2) 9 0 24).toNatClampNeg a1) 9 0 24) + 1)) 9 0 20 ((gI (sI (sI (sI σ 35 0 a1.toNatClampNeg 2) 36 0 (gI (sI σ 35 0 a1.toNatClampNeg 2) 9 0 24).toNatClampNeg a1) 9 0 24 ((gI (sI (sI σ 35 0 a1.toNatClampNeg 2) 36 0 (gI (sI σ 35 0 a1.toNatClampNeg 2) 9 0 24).toNatClampNeg a1) 9 0 24) + 1)) 9 0 20) + 1)))) else none) else (if (gI σ 33 0 (gI σ 9 0 20).toNatClampNeg) = 103 then (if Ix (gI (sI σ 35 0 a1.toNatClampNeg 2) 9 0 24) 5 then (some (1, (sI (sI (sI (sI σ 35 0 a1.toNatClampNeg 2) 36 0 (gI (sI σ 35 0 a1.toNatClampNeg 2) 9 0 24).toNatClampNeg a1) 9 0 24 ((gI (sI (sI σ 35 0 a1.toNatClampNeg 2) 36 0 (gI (sI σ 35 0 a1.toNatClampNeg 2) 9 0 24).toNatClampNeg a1) 9 0 24) + 1)) 9 0 20 ((gI (sI (sI (sI σ 35 0 a1.toNatClampNeg 2) 36 0 (gI (sI σ 35 0 a1.toNatClampNeg 2) 9 0 24).toNatClampNeg a1) 9 0 24 ((gI (sI (sI σ 35 0 a1.toNatClampNeg 2) 36 0 (gI (sI σ 35 0 a1.toNatClampNeg 2) 9 0 24).toNatClampNeg a1) 9 0 24) + 1)) 9 0 20) + 1)))) else none) else (if (gI σ 33 0 (gI σ 9 0 20).toNatClampNeg) = 109 then (if Ix (gI (sI σ 35 0 a1.toNatClampNeg 2) 9 0 24) 5 then (some (1, (sI (sI (sI (sI σ 35 0 a1.toNatClampNeg 2) 36 0 (gI (sI σ 35 0 a1.toNatClampNeg 2) 9 0 24).toNatClampNeg a1) 9 0 24 ((gI (sI (sI σ 35 0 a1.toNatClampNeg 2) 36 0 (gI (sI σ 35 0 a1.toNatClampNeg 2) 9 0 24).toNatClampNeg a1) 9 0 24) + 1)) 9 0 20 ((gI (sI (sI (sI σ 35 0 a1.toNatClampNeg 2) 36 0 (gI (sI σ 35 0 a1.toNatClampNeg 2) 9 0 24).toNatClampNeg a1) 9 0 24 ((gI (sI (sI σ 35 0 a1.toNatClampNeg 2) 36 0 (gI (sI σ 35 0 a1.toNatClampNeg 2) 9 0 24).toNatClampNeg a1) 9 0 24) + 1)) 9 0 20) + 1)))) else none) else (if Ix (gI (sI σ 35 0 a1.toNatClampNeg 2) 9 0 24) 5 then (some (1, (sI (sI (sI (sI σ 35 0 a1.toNatClampNeg 2) 36 0 (gI (sI σ 35 0 a1.toNatClampNeg 2) 9 0 24).toNatClampNeg a1) 9 0 24 ((gI (sI (sI σ 35 0 a1.toNatClampNeg 2) 36 0 (gI (sI σ 35 0 a1.toNatClampNeg 2) 9 0 24).toNatClampNeg a1) 9 0 24) + 1)) 9 0 20 ((gI (sI (sI (sI σ 35 0 a1.toNatClampNeg 2) 36 0 (gI (sI σ 35 0 a1.toNatClampNeg 2) 9 0 24).toNatClampNeg a1) 9 0 24 ((gI (sI (sI σ 35 0 a1.toNatClampNeg 2) 36 0 (gI (sI σ 35 0 a1.toNatClampNeg 2) 9 0 24).toNatClampNeg a1) 9 0 24) + 1)) 9 0 20) + 1)))) else none)))) else none) else (if Ix a1 30 then (if (gI σ 33 0 (gI σ 9 0 20).toNatClampNeg) = 46 then (if Ix (gI (sI σ 35 0 a1.toNatClampNeg 0) 9 0 24) 5 then (some (1, (sI (sI (sI (sI σ 35 0 a1.toNatClampNeg 0) 36 0 (gI (sI σ 35 0 a1.toNatClampNeg 0) 9 0 24).toNatClampNeg a1) 9 0 24 ((gI (sI (sI σ 35 0 a1.toNatClampNeg 0) 36 0 (gI (sI σ 35 0 a1.toNatClampNeg 0) 9 0 24).toNatClampNeg a1) 9 0 24) + 1)) 9 0 20 ((gI (sI (sI (sI σ 35 0 a1.toNatClampNeg 0) 36 0 (gI (sI σ 35 0 a1.toNatClampNeg 0) 9 0 24).toNatClampNeg a1) 9 0 24 ((gI (sI (sI σ 35 0 a1.toNatClampNeg 0) 36 0 (gI (sI σ 35 0 a1.toNatClampNeg 0) 9 0 24).toNatClampNeg a1) 9 0 24) + 1)) 9 0 20) + 1)))) else none) else (if (gI σ 33 0 (gI σ 9 0 20).toNatClampNeg) = 103 then (if Ix (gI (sI σ 35 0 a1.toNatClampNeg 0) 9 0 24) 5 then (some (1, (sI (sI (sI (sI σ 35 0 a1.toNatClampNeg 0) 36 0 (gI (sI σ 35 0 a1.toNatClampNeg 0) 9 0 24).toNatClampNeg a1) 9 0 24 ((gI (sI (sI σ 35 0 a1.toNatClampNeg 0) 36 0 (gI (sI σ 35 0 a1.toNatClampNeg 0) 9 0 24).toNatClampNeg a1) 9 0 24) + 1)) 9 0 20 ((gI (sI (sI (sI σ 35 0 a1.toNatClampNeg 0) 36 0 (gI (sI σ 35 0 a1.toNatClampNeg 0) 9 0 24).toNatClampNeg a1) 9 0 24 ((gI (sI (sI σ 35 0 a1.toNatClampNeg 0) 36 0 (gI (sI σ 35 0 a1.toNatClampNeg 0) 9 0 24).toNatClampNeg a1) 9 0 24) + 1)) 9 0 20) + 1)))) else none) else (if (gI σ 33 0 (gI σ 9 0 20).toNatClampNeg) = 109 then (if Ix (gI (sI σ 35 0 a1.toNatClampNeg 0) 9 0 24) 5 then (some (1, (sI (sI (sI (sI σ 35 0 a1.toNatClampNeg 0) 36 0 (gI (sI σ 35 0 a1.toNatClampNeg 0) 9 0 24).toNatClampNeg a1) 9 0 24 ((gI (sI (sI σ 35 0 a1.toNatClampNeg 0) 36 0 (gI (sI σ 35 0 a1.toNatClampNeg 0) 9 0 24).toNatClampNeg a1) 9 0 24) + 1)) 9 0 20 ((gI (sI (sI (sI σ 35 0 a1.toNatClampNeg 0) 36 0 (gI (sI σ 35 0 a1.toNatClampNeg 0) 9 0 24).toNatClampNeg a1) 9 0 24 ((gI (sI (sI σ 35 0 a1.toNatClampNeg 0) 36 0 (gI (sI σ 35 0 a1.toNatClampNeg 0) 9 0 24).toNatClampNeg a1) 9 0 24) + 1)) 9 0 20) + 1)))) else none) else (if Ix (gI (sI σ 35 0 a1.toNatClampNeg 0) 9 0 24) 5 then (some (1, (sI (sI (sI (sI σ 35 0 a1.toNatClampNeg 0) 36 0 (gI (sI σ 35 0 a1.toNatClampNeg 0) 9 0 24).toNatClampNeg a1) 9 0 24 ((gI (sI (sI σ 35 0 a1.toNatClampNeg 0) 36 0 (gI (sI σ 35 0 a1.toNatClampNeg 0) 9 0 24).toNatClampNeg a1) 9 0 24) + 1)) 9 0 20 ((gI (sI (sI (sI σ 35 0 a1.toNatClampNeg 0) 36 0 (gI (sI σ 35 0 a1.toNatClampNeg 0) 9 0 24).toNatClampNeg a1) 9 0 24 ((gI (sI (sI σ 35 0 a1.toNatClampNeg 0) 36 0 (gI (sI σ 35 0 a1.toNatClampNeg 0) 9 0 24).toNatClampNeg a1) 9 0 24) + 1)) 9 0 20) + 1)))) else none)))) else none)))) else (if (gI σ 33 0 (gI σ 9 0 20).toNatClampNeg) = 103 then (if Ix a1 30 then (if (gI σ 33 0 (gI σ 9 0 20).toNatClampNeg) = 46 then (some (1, (sI (sI σ 35 0 a1.toNatClampNeg 1) 9 0 20 ((gI (sI σ 35 0 a1.toNatClampNeg 1) 9 0 20) + 1)))) else (if (gI σ 33 0 (gI σ 9 0 20).toNatClampNeg) = 103 then (some (1, (sI (sI σ 35 0 a1.toNatClampNeg 1) 9 0 20 ((gI (sI σ 35 0 a1.toNatClampNeg 1) 9 0 20) + 1)))) else (if (gI σ 33 0 (gI σ 9 0 20).toNatClampNeg) = 109 then (some (1, (sI (sI σ 35 0 a1.toNatClampNeg 1) 9 0 20 ((gI (sI σ 35 0 a1.toNatClampNeg 1) 9 0 20) + 1)))) else (some (0, (sI σ 35 0 a1.toNatClampNeg 1)))))) else none) else (if (gI σ 33 0 (gI σ 9 0 20).toNatClampNeg) = 109 then (if Ix a1 30 then (if (gI σ 33 0 (gI σ 9 0 20).toNatClampNeg) = 46 then (some (1, (sI (sI σ 35 0 a1.toNatClampNeg 2) 9 0 20 ((gI (sI σ 35 0 a1.toNatClampNeg 2) 9 0 20) + 1)))) else (if (gI σ 33 0 (gI σ 9 0 20).toNatClampNeg) = 103 then (some (1, (sI (sI σ 35 0 a1.toNatClampNeg 2) 9 0 20 ((gI (sI σ 35 0 a1.toNatClampNeg 2) 9 0 20) + 1)))) else (if (gI σ 33 0 (gI σ 9 0 20).toNatClampNeg) = 109 then (some (1, (sI (sI σ 35 0 a1.toNatClampNeg 2) 9 0 20 ((gI (sI σ 35 0 a1.toNatClampNeg 2) 9 0 20) + 1)))) else (some (0, (sI σ 35 0 a1.toNatClampNeg 2)))))) else none) else (if Ix a1 30 then (if (gI σ 33 0 (gI σ 9 0 20).toNatClampNeg) = 46 then (some (1, (sI (sI σ 35 0 a1.toNatClampNeg 0) 9 0 20 ((gI (sI σ 35 0 a1.toNatClampNeg 0) 9 0 20) + 1)))) else (if (gI σ 33 0 (gI σ 9 0 20).toNatClampNeg) = 103 then (some (1, (sI (sI σ 35 0 a1.toNatClampNeg 0) 9 0 20 ((gI (sI σ 35 0 a1.toNatClampNeg 0) 9 0 20) + 1)))) else (if (gI σ 33 0 (gI σ 9 0 20).toNatClampNeg) = 109 then (some (1, (sI (sI σ 35 0 a1.toNatClampNeg 0) 9 0 20 ((gI (sI σ 35 0 a1.toNatClampNeg 0) 9 0 20) + 1)))) else (some (0, (sI σ 35 0 a1.toNatClampNeg 0)))))) else none)))) else none))

def l9_takeSquares_4  : Nat → Int32 → Int32 → Sto → Option (Int32 × Sto)
  | 0, _, _, _ => none
  | n + 1, a1, a2, σ => (if ((gI σ 9 0 22) * (gI σ 9 0 23)) ≤ a2 then (if a1 = 0 ∨ a1 = 1 then some (a1, σ) else none) else (if a1 = 0 then (if a1 = 0 ∨ a1 = 1 then some (a1, σ) else none) else (if ¬ (gI σ 9 0 23) = 0 then (if (a2 - a2 / (gI σ 9 0 23) * (gI σ 9 0 23)) = 0 then (bI (f9_take 59 59 σ) (fun v3 s4 => (if v3 = 0 then (bI (f9_takeSquare a2 s4) (fun v5 s6 => (if v5 = 0 then (l9_takeSquares_4  n 0 (a2 + 1) s6) else (l9_takeSquares_4  n 1 (a2 + 1) s6)))) else (l9_takeSquares_4  n 0 (a2 + 1) s4)))) else (bI (f9_takeSquare a2 σ) (fun v1 s2 => (if v1 = 0 then (l9_takeSquares_4  n 0 (a2 + 1) s2) else (l9_takeSquares_4  n 1 (a2 + 1) s2))))) else none)))
def f9_takeSquares  (σ : Sto) : Option (Int32 × Sto) := (l9_takeSquares_4  300 1 0 σ)

def f9_takeText  (σ : Sto) : Option (Int32 × Sto) := (bI (f9_take 112 112 (sI (sI σ 9 0 24 0) 9 0 27 0)) (fun v1 s2 => (if 0 ≤ v1 then (bI (f9_take 50 53 s2) (fun v3 s4 => (if 2 ≤ (gI (sI s4 9 0 22 (v3 + 2)) 9 0 22) then (bI (f9_take 50 54 (sI s4 9 0 22 (v3 + 2))) (fun v5 s6 => (if (gI (sI s6 9 0 23 (v5 + 2)) 9 0 23) < 2 then (some (0, (sI s6 9 0 23 (v5 + 2)))) else (bI (f9_takeSquares (sI s6 9 0 23 (v5 + 2))) (fun v7 s8 => (if v7 = 0 then (some (0, s8)) else (bI (f9_takeEater s8) (fun v9 s10 => (if v9 = 0 then (some (0, s10)) else (if (gI s10 9 0 20) = (gI s10 9 0 21) then (some (1, s10)) else (bI (f9_takeEater s10) (fun v11 s12 => (if v11 = 0 then (some (0, s12)) else (if (gI s12 9 0 20) = (gI s12 9 0 21) then (some (1, s12)) else (some (0, s12)))))))))))))))) else (some (0, (sI s4 9 0 22 (v3 + 2))))))) else (some (0, s2)))))

def l9_plate_140 (k : Int32 → Sto → Option (Int32 × Sto))  : Nat → Int32 → Sto → Option (Int32 × Sto)
  | 0, _, _ => none
  | n + 1, a7, σ => (if 30 ≤ a7 then (k a7 σ) else (if Ix a7 30 then (if Ix a7 30 then (l9_plate_140 k  n (a7 + 1) (sI σ 24 0 a7.toNatClampNeg (gI σ 35 0 a7.toNatClampNeg))) else none) else none))
def l9_plate_170 (k : Int32 → Sto → Option (Int32 × Sto))  : Nat → Int32 → Sto → Option (Int32 × Sto)
  | 0, _, _ => none
  | n + 1, a7, σ => (if 5 ≤ a7 then (k a7 σ) else (if Ix a7 5 then (if Ix a7 5 then (l9_plate_170 k  n (a7 + 1) (sI σ 25 0 a7.toNatClampNeg (gI σ 36 0 a7.toNatClampNeg))) else none) else none))
def l9_plate_199 (k : Int32 → Sto → Option (Int32 × Sto))  : Nat → Int32 → Sto → Option (Int32 × Sto)
  | 0, _, _ => none
  | n + 1, a7, σ => (if 2 ≤ a7 then (k a7 σ) else (if Ix a7 2 then (if Ix a7 2 then (if Ix a7 2 then (if Ix a7 2 then (l9_plate_199 k  n (a7 + 1) (sI (sI σ 26 0 a7.toNatClampNeg (gI σ 37 0 a7.toNatClampNeg)) 27 0 a7.toNatClampNeg (gI (sI σ 26 0 a7.toNatClampNeg (gI σ 37 0 a7.toNatClampNeg)) 38 0 a7.toNatClampNeg))) else none) else none) else none) else none))
def f9_plate (a1 : Int32) (a2 : Int32) (a3 : Int32) (a4 : Int32) (σ : Sto) : Option (Int32 × Sto) := (bI (f9_isSheet a1 σ) (fun v1 s2 => (if v1 = 0 then (bI (f9_refused (-1) s2) (fun v19 s20 => (some (v19, s20)))) else (bI (f9_isLane a2 s2) (fun v3 s4 => (if v3 = 0 then (bI (f9_refused (-2) s4) (fun v17 s18 => (some (v17, s18)))) else (bI (f9_faultOf a1 a2 a3 a4 s4) (fun v5 s6 => (if v5 = 0 then (bI (f9_takeText (sI (sI (sI s6 9 0 15 0) 9 0 20 ((60 * a1) + a3)) 9 0 21 ((gI (sI (sI s6 9 0 15 0) 9 0 20 ((60 * a1) + a3)) 9 0 20) + a4))) (fun v7 s8 => (if v7 = 0 then (some ((-100) - ((gI s8 9 0 20) - (gI (sI (sI (sI s6 9 0 15 0) 9 0 20 ((60 * a1) + a3)) 9 0 21 ((gI (sI (sI s6 9 0 15 0) 9 0 20 ((60 * a1) + a3)) 9 0 20) + a4)) 9 0 20)), s8)) else (l9_plate_140 (fun v9 s10 => (l9_plate_170 (fun v11 s12 => (l9_plate_199 (fun v13 s14 => (some (gI (sI (sI (sI s14 9 0 8 0) 9 0 9 0) 9 0 11 0) 9 0 3, (sI (sI (sI s14 9 0 8 0) 9 0 9 0) 9 0 11 0))))  300 0 s12))  300 0 s10))  300 0 (sI (sI (sI (sI s8 9 0 0 (gI s8 9 0 23)) 9 0 1 ((gI (sI s8 9 0 0 (gI s8 9 0 23)) 9 0 22) * (gI (sI s8 9 0 0 (gI s8 9 0 23)) 9 0 23))) 9 0 3 (gI (sI (sI s8 9 0 0 (gI s8 9 0 23)) 9 0 1 ((gI (sI s8 9 0 0 (gI s8 9 0 23)) 9 0 22) * (gI (sI s8 9 0 0 (gI s8 9 0 23)) 9 0 23))) 9 0 24)) 9 0 5 (gI (sI (sI (sI s8 9 0 0 (gI s8 9 0 23)) 9 0 1 ((gI (sI s8 9 0 0 (gI s8 9 0 23)) 9 0 22) * (gI (sI s8 9 0 0 (gI s8 9 0 23)) 9 0 23))) 9 0 3 (gI (sI (sI s8 9 0 0 (gI s8 9 0 23)) 9 0 1 ((gI (sI s8 9 0 0 (gI s8 9 0 23)) 9 0 22) * (gI (sI s8 9 0 0 (gI s8 9 0 23)) 9 0 23))) 9 0 24)) 9 0 27)))))) else (bI (f9_fails v5 s6) (fun v15 s16 => (some (v15, s16)))))))))))))

def f9_polish (a1 : Int32) (σ : Sto) : Option (Int32 × Sto) := (bI (f9_isEater a1 σ) (fun v1 s2 => (if v1 = 0 then (some ((-1), s2)) else (if Ix a1 2 then (if (gI s2 26 0 a1.toNatClampNeg) = 2 then (bV (f9_begin 5 s2) (fun s4 => (if Ix a1 2 then (if (gI s4 26 0 a1.toNatClampNeg) = 2 then (some (30, s4)) else (some (a1, s4))) else none))) else (bV (f9_begin 4 s2) (fun s3 => (if Ix a1 2 then (if (gI s3 26 0 a1.toNatClampNeg) = 2 then (some (30, s3)) else (some (a1, s3))) else none)))) else none))))

def f9_push (a1 : Int32) (a2 : Int32) (a3 : Int32) (σ : Sto) : Option (Int32 × Sto) := (bI (f9_isEater a1 σ) (fun v1 s2 => (if v1 = 0 then (some ((-1), s2)) else (bI (f9_isPea a2 s2) (fun v3 s4 => (if v3 = 0 then (some ((-1), s4)) else (bI (f9_in a3.toInt64 0 (3) s4) (fun v5 s6 => (if v5 = 0 then (some ((-2), s6)) else (if (gI s6 9 0 9) = 30 then (some ((-4), s6)) else (if Ix (gI s6 9 0 9) 30 then (some ((gI (sI (sI s6 28 0 (gI s6 9 0 9).toNatClampNeg (((100 * a1) + (10 * a2)) + a3)) 9 0 9 ((gI (sI s6 28 0 (gI s6 9 0 9).toNatClampNeg (((100 * a1) + (10 * a2)) + a3)) 9 0 9) + 1)) 9 0 9) - 1, (sI (sI s6 28 0 (gI s6 9 0 9).toNatClampNeg (((100 * a1) + (10 * a2)) + a3)) 9 0 9 ((gI (sI s6 28 0 (gI s6 9 0 9).toNatClampNeg (((100 * a1) + (10 * a2)) + a3)) 9 0 9) + 1)))) else none)))))))))))

def f9_put (a1 : Int32) (a2 : Int32) (a3 : Int32) (σ : Sto) : Option (Int32 × Sto) := (bI (f9_isSheet a1 σ) (fun v1 s2 => (if v1 = 0 then (bI (f9_refused (-1) s2) (fun v11 s12 => (some (v11, s12)))) else (if Ix a1 4 then (if 0 ≤ (gI s2 31 0 a1.toNatClampNeg) then (if Ix a1 4 then (bI (f9_in a2.toInt64 0 (((gI s2 32 0 a1.toNatClampNeg) - 1).toInt64) s2) (fun v3 s4 => (if v3 = 0 then (bI (f9_fails 3 s4) (fun v7 s8 => (some (v7, s8)))) else (if Ix a1 4 then (bI (f9_cut (gI (sI s4 9 0 15 0) 31 0 a1.toNatClampNeg) a3 (sI s4 9 0 15 0)) (fun v5 s6 => (if Ix ((60 * a1) + a2) 240 then (some (1, (sI s6 33 0 ((60 * a1) + a2).toNatClampNeg v5))) else none))) else none)))) else none) else (bI (f9_fails 1 s2) (fun v9 s10 => (some (v9, s10))))) else none))))

def f9_reading (a1 : Int32) (a2 : Int32) (σ : Sto) : Option (Int32 × Sto) := (bI (f9_isPea a1 σ) (fun v1 s2 => (if v1 = 0 then (some ((-1), s2)) else (if a2 = (-9) then (if (gI s2 9 0 11) = 8 then (some ((-4), s2)) else (if Ix (gI s2 9 0 11) 8 then (if Ix (gI (sI s2 29 0 (gI s2 9 0 11).toNatClampNeg a1) 9 0 11) 8 then (some ((gI (sI (sI (sI s2 29 0 (gI s2 9 0 11).toNatClampNeg a1) 30 0 (gI (sI s2 29 0 (gI s2 9 0 11).toNatClampNeg a1) 9 0 11).toNatClampNeg a2) 9 0 11 ((gI (sI (sI s2 29 0 (gI s2 9 0 11).toNatClampNeg a1) 30 0 (gI (sI s2 29 0 (gI s2 9 0 11).toNatClampNeg a1) 9 0 11).toNatClampNeg a2) 9 0 11) + 1)) 9 0 11) - 1, (sI (sI (sI s2 29 0 (gI s2 9 0 11).toNatClampNeg a1) 30 0 (gI (sI s2 29 0 (gI s2 9 0 11).toNatClampNeg a1) 9 0 11).toNatClampNeg a2) 9 0 11 ((gI (sI (sI s2 29 0 (gI s2 9 0 11).toNatClampNeg a1) 30 0 (gI (sI s2 29 0 (gI s2 9 0 11).toNatClampNeg a1) 9 0 11).toNatClampNeg a2) 9 0 11) + 1)))) else none) else none)) else (bI (f9_isSquare a2 s2) (fun v3 s4 => (if v3 = 0 then (some ((-1), s4)) else (if (gI s4 9 0 11) = 8 then (some ((-4), s4)) else (if Ix (gI s4 9 0 11) 8 then (if Ix (gI (sI s4 29 0 (gI s4 9 0 11).toNatClampNeg a1) 9 0 11) 8 then (some ((gI (sI (sI (sI s4 29 0 (gI s4 9 0 11).toNatClampNeg a1) 30 0 (gI (sI s4 29 0 (gI s4 9 0 11).toNatClampNeg a1) 9 0 11).toNatClampNeg a2) 9 0 11 ((gI (sI (sI s4 29 0 (gI s4 9 0 11).toNatClampNeg a1) 30 0 (gI (sI s4 29 0 (gI s4 9 0 11).toNatClampNeg a1) 9 0 11).toNatClampNeg a2) 9 0 11) + 1)) 9 0 11) - 1, (sI (sI (sI s4 29 0 (gI s4 9 0 11).toNatClampNeg a1) 30 0 (gI (sI s4 29 0 (gI s4 9 0 11).toNatClampNeg a1) 9 0 11).toNatClampNeg a2) 9 0 11 ((gI (sI (sI s4 29 0 (gI s4 9 0 11).toNatClampNeg a1) 30 0 (gI (sI s4 29 0 (gI s4 9 0 11).toNatClampNeg a1) 9 0 11).toNatClampNeg a2) 9 0 11) + 1)))) else none) else none)))))))))

def l9_row_116 (a4 : Int32) (a6 : Int32) : Nat → Int32 → Sto → Option (Int32 × Sto)
  | 0, _, _ => none
  | n + 1, a7, σ => (if a4 ≤ a7 then (bI (f9_hadNow σ) (fun v10 s11 => (some (v10, s11)))) else (if Ix (a6 + a7) 240 then (bI (f9_isPush (gI σ 33 0 (a6 + a7).toNatClampNeg) σ) (fun v12 s13 => (if v12 = 0 then (some ((-100) - a7, s13)) else (if Ix (a6 + a7) 240 then (bV (f9_doPush (gI s13 33 0 (a6 + a7).toNatClampNeg) s13) (fun s14 => (l9_row_116 a4 a6 n (a7 + 1) s14))) else none)))) else none))
def f9_row (a1 : Int32) (a2 : Int32) (a3 : Int32) (a4 : Int32) (σ : Sto) : Option (Int32 × Sto) := (bI (f9_isSheet a1 σ) (fun v1 s2 => (if v1 = 0 then (bI (f9_refused (-1) s2) (fun v25 s26 => (some (v25, s26)))) else (bI (f9_isLane a2 s2) (fun v3 s4 => (if v3 = 0 then (bI (f9_refused (-2) s4) (fun v23 s24 => (some (v23, s24)))) else (if (gI s4 9 0 1) = 0 then (bI (f9_refused (-3) s4) (fun v21 s22 => (some (v21, s22)))) else (bI (f9_faultOf a1 a2 a3 a4 s4) (fun v5 s6 => (if v5 = 0 then (if a4 ≤ 20 then (bI (f9_areCodes ((60 * a1) + a3) a4 s6) (fun v7 s8 => (if v7 = 0 then (bI (f9_refused (-1) s8) (fun v15 s16 => (some (v15, s16)))) else (bV (f9_goThrough (-1) (sI s8 9 0 15 0)) (fun s9 => (l9_row_116 a4 ((60 * a1) + a3) 300 0 s9)))))) else (bI (f9_refused (-2) s6) (fun v17 s18 => (some (v17, s18))))) else (bI (f9_fails v5 s6) (fun v19 s20 => (some (v19, s20))))))))))))))

def l9_startsAt_4 (a1 : Int32) : Nat → Int32 → Int32 → Sto → Option (Int32 × Sto)
  | 0, _, _, _ => none
  | n + 1, a2, a3, σ => (if (gI σ 9 0 3) ≤ a3 then (if a2 = 0 ∨ a2 = 1 then some (a2, σ) else none) else (if a2 = 0 then (if Ix a3 5 then (if (gI σ 25 0 a3.toNatClampNeg) = a1 then (l9_startsAt_4 a1 n 1 (a3 + 1) σ) else (l9_startsAt_4 a1 n 0 (a3 + 1) σ)) else none) else (l9_startsAt_4 a1 n 1 (a3 + 1) σ)))
def f9_startsAt (a1 : Int32) (σ : Sto) : Option (Int32 × Sto) := (l9_startsAt_4 a1 300 0 0 σ)

def f9_set (a1 : Int32) (a2 : Int32) (σ : Sto) : Option (Int32 × Sto) := (bI (f9_isSquare a1 σ) (fun v1 s2 => (if v1 = 0 then (some ((-1), s2)) else (bI (f9_in a2.toInt64 0 (2) s2) (fun v3 s4 => (if v3 = 0 then (some ((-2), s4)) else (if a2 = 2 then (bI (f9_startsAt a1 s4) (fun v5 s6 => (if v5 = 0 then (if Ix a1 30 then (if Ix a1 30 then (some (gI s6 24 0 a1.toNatClampNeg, (sI s6 24 0 a1.toNatClampNeg a2))) else none) else none) else (some ((-3), s6))))) else (if Ix a1 30 then (if Ix a1 30 then (some (gI s4 24 0 a1.toNatClampNeg, (sI s4 24 0 a1.toNatClampNeg a2))) else none) else none))))))))

def l9_sheet_65 (a1 : Int32) : Nat → Int32 → Sto → Option (Int32 × Sto)
  | 0, _, _ => none
  | n + 1, a4, σ => (if 60 ≤ a4 then (some (1, σ)) else (if Ix ((60 * a1) + a4) 240 then (l9_sheet_65 a1 n (a4 + 1) (sI σ 33 0 ((60 * a1) + a4).toNatClampNeg 0)) else none))
def f9_sheet (a1 : Int32) (a2 : Int32) (a3 : Int32) (σ : Sto) : Option (Int32 × Sto) := (bI (f9_isSheet a1 σ) (fun v1 s2 => (if v1 = 0 then (bI (f9_refused (-1) s2) (fun v11 s12 => (some (v11, s12)))) else (bI (f9_isLane a2 s2) (fun v3 s4 => (if v3 = 0 then (bI (f9_refused (-2) s4) (fun v5 s6 => (some (v5, s6)))) else (if a3 ≤ 60 then (if 0 ≤ a3 then (if Ix a1 4 then (if Ix a1 4 then (l9_sheet_65 a1 300 0 (sI (sI (sI s4 9 0 15 0) 31 0 a1.toNatClampNeg a2) 32 0 a1.toNatClampNeg a3)) else none) else none) else (bI (f9_fails 4 s4) (fun v7 s8 => (some (v7, s8))))) else (bI (f9_refused (-2) s4) (fun v9 s10 => (some (v9, s10)))))))))))

def f9_sign (a1 : Int32) (σ : Sto) : Option (Int32 × Sto) := (bI (f9_isSquare a1 σ) (fun v1 s2 => (if v1 = 0 then (some ((-1), s2)) else (if Ix a1 30 then (some (gI s2 24 0 a1.toNatClampNeg, s2)) else none))))

def f9_spoonTells (a1 : Int32) (σ : Sto) : Option (Int32 × Sto) := (bV (f9_begin 3 σ) (fun s1 => (bI (f9_knifeTells a1 s1) (fun v2 s3 => (bI (f9_forkTells a1 s3) (fun v4 s5 => (some (v2 + v4, s5))))))))

def f9_tell (a1 : Int32) (σ : Sto) : Option (Int32 × Sto) := (bI (f9_isEater a1 σ) (fun v1 s2 => (if v1 = 0 then (some ((-1), s2)) else (if Ix a1 2 then (if (gI s2 26 0 a1.toNatClampNeg) = 0 then (bI (f9_forkTells a1 s2) (fun v7 s8 => (some (v7, s8)))) else (if Ix a1 2 then (if (gI s2 26 0 a1.toNatClampNeg) = 1 then (bI (f9_knifeTells a1 s2) (fun v5 s6 => (some (v5, s6)))) else (bI (f9_spoonTells a1 s2) (fun v3 s4 => (some (v3, s4))))) else none)) else none))))

def f9_trace  (σ : Sto) : Option (Int32 × Sto) := (some (gI σ 9 0 14, σ))

def f9_undo (a1 : Int32) (σ : Sto) : Option (Int32 × Sto) := (bI (f9_in a1.toInt64 0 ((gI σ 9 0 9).toInt64) σ) (fun v1 s2 => (if v1 = 0 then (some ((-2), s2)) else (some (gI (sI s2 9 0 9 ((gI s2 9 0 9) - a1)) 9 0 9, (sI s2 9 0 9 ((gI s2 9 0 9) - a1)))))))

def l9_wall_65 (a2 : Int32) (a3 : Int32) : Nat → Int32 → Sto → Option (Int32 × Sto)
  | 0, _, _ => none
  | n + 1, a4, σ => (if (gI σ 9 0 1) ≤ a4 then (some ((-9), σ)) else (if Ix a4 30 then (if (gI σ 24 0 a4.toNatClampNeg) = 0 then (bI (f9_peaAt a4 σ) (fun v10 s11 => (if 0 ≤ v10 then (l9_wall_65 a2 a3 n (a4 + 1) s11) else (if Ix a4 30 then (bI (f9_isHeld a2 a3 (sI s11 24 0 a4.toNatClampNeg 2)) (fun v12 s13 => (if Ix a4 30 then (if v12 = 0 then (l9_wall_65 a2 a3 n (a4 + 1) (sI s13 24 0 a4.toNatClampNeg 0)) else (some (a4, (sI s13 24 0 a4.toNatClampNeg 0)))) else none))) else none)))) else (l9_wall_65 a2 a3 n (a4 + 1) σ)) else none))
def f9_wall (a1 : Int32) (a2 : Int32) (a3 : Int32) (σ : Sto) : Option (Int32 × Sto) := (bI (f9_isEater a1 σ) (fun v1 s2 => (if v1 = 0 then (some ((-1), s2)) else (bI (f9_isPea a2 s2) (fun v3 s4 => (if v3 = 0 then (some ((-1), s4)) else (bI (f9_in a3.toInt64 0 (3) s4) (fun v5 s6 => (if v5 = 0 then (some ((-2), s6)) else (bV (f9_goThrough (-1) s6) (fun s7 => (if Ix a2 5 then (if 0 ≤ (gI s7 39 0 a2.toNatClampNeg) then (bI (f9_isHeld a2 a3 s7) (fun v8 s9 => (if v8 = 0 then (l9_wall_65 a2 a3 300 0 s9) else (some ((-9), s9))))) else (some ((-3), s7))) else none))))))))))))

def f9_where (a1 : Int32) (σ : Sto) : Option (Int32 × Sto) := (bI (f9_isPea a1 σ) (fun v1 s2 => (if v1 = 0 then (some ((-1), s2)) else (bV (f9_goThrough (-1) s2) (fun s3 => (if Ix a1 5 then (if 0 ≤ (gI s3 39 0 a1.toNatClampNeg) then (if Ix a1 5 then (some (gI s3 39 0 a1.toNatClampNeg, s3)) else none) else (some ((-9), s3))) else none))))))

def l9_would_89 (k : Int32 → Int32 → Sto → Option (Int32 × Sto)) (a2 : Int32) (a4 : Int32) : Nat → Int32 → Int32 → Sto → Option (Int32 × Sto)
  | 0, _, _, _ => none
  | n + 1, a5, a6, σ => (if (gI σ 9 0 3) ≤ a6 then (k a5 a6 σ) else (if Ix a6 5 then (if Ix a6 15 then (if (gI σ 39 0 a6.toNatClampNeg) = (gI σ 40 0 a6.toNatClampNeg) then (l9_would_89 k a2 a4 n (a5 ||| 0) (a6 + 1) σ) else (l9_would_89 k a2 a4 n (a5 ||| (1 <<< (a6 &&& 31))) (a6 + 1) σ)) else none) else none))
def f9_would (a1 : Int32) (a2 : Int32) (a3 : Int32) (a4 : Int32) (σ : Sto) : Option (Int32 × Sto) := (bI (f9_isEater a1 σ) (fun v1 s2 => (if v1 = 0 then (some ((-1), s2)) else (bI (f9_isPea a2 s2) (fun v3 s4 => (if v3 = 0 then (some ((-1), s4)) else (bI (f9_in a3.toInt64 0 (3) s4) (fun v5 s6 => (if v5 = 0 then (some ((-2), s6)) else (bI (f9_in a4.toInt64 0 (2) s6) (fun v7 s8 => (if v7 = 0 then (some ((-2), s8)) else (bV (f9_goThrough (-1) s8) (fun s9 => (if Ix a2 5 then (if 0 ≤ (gI s9 39 0 a2.toNatClampNeg) then (bV (f9_save 0 s9) (fun s10 => (bV (f9_doPush (((100 * a1) + (10 * a2)) + a3) s10) (fun s11 => (l9_would_89 (fun v12 v13 s14 => (if a4 = 0 then (if Ix a2 5 then (if 0 ≤ (gI s14 39 0 a2.toNatClampNeg) then (if Ix a2 5 then (some (gI s14 39 0 a2.toNatClampNeg, s14)) else none) else (some ((-9), s14))) else none) else (if a4 = 1 then (bI (f9_setOf 0 s14) (fun v15 s16 => (some (v15, s16)))) else (some (v12, s14))))) a2 a4 300 0 0 s11))))) else (some ((-3), s9))) else none)))))))))))))))

