def fL_law_1725 (sL : Nat) (sX : Nat → Int32) (k18 : Int32 → am_Mu → Option (Int32 × am_Mu)) (a3 : Int32) (μ : am_Mu) : Option (Int32 × am_Mu) := k18 (a3 + 7) μ
def fL_law_196 (sL : Nat) (sX : Nat → Int32) (k18 : Int32 → am_Mu → Option (Int32 × am_Mu)) (a3 : Int32) (μ : am_Mu) : Option (Int32 × am_Mu) := (bif am_inb (a3 + 1) sL then ((fB_now (sX ((a3 + 1)).toNatClampNeg) μ).bind fun q2 => (bif am_inb (a3 + 1) sL then ((fM_now (sX ((a3 + 1)).toNatClampNeg) q2.2).bind fun q4 => (if q2.1 = q4.1 then fL_law_1725 sL sX k18 a3 q4.2 else some (0, q4.2))) else none)) else none)
def fL_law_219 (sL : Nat) (sX : Nat → Int32) (k18 : Int32 → am_Mu → Option (Int32 × am_Mu)) (a3 : Int32) (μ : am_Mu) : Option (Int32 × am_Mu) := (bif am_inb (a3 + 1) sL then (bif am_inb (a3 + 2) sL then (bif am_inb (a3 + 3) sL then ((fB_feast (sX ((a3 + 1)).toNatClampNeg) (sX ((a3 + 2)).toNatClampNeg) (sX ((a3 + 3)).toNatClampNeg) μ).bind fun q4 => (bif am_inb (a3 + 1) sL then (bif am_inb (a3 + 2) sL then (bif am_inb (a3 + 3) sL then ((fM_feast (sX ((a3 + 1)).toNatClampNeg) (sX ((a3 + 2)).toNatClampNeg) (sX ((a3 + 3)).toNatClampNeg) q4.2).bind fun q8 => (if q4.1 = q8.1 then fL_law_1725 sL sX k18 a3 q8.2 else some (0, q8.2))) else none) else none) else none)) else none) else none) else none)
def fL_law_262 (sL : Nat) (sX : Nat → Int32) (k18 : Int32 → am_Mu → Option (Int32 × am_Mu)) (a3 : Int32) (μ : am_Mu) : Option (Int32 × am_Mu) := (bif am_inb (a3 + 1) sL then ((fB_isFeast (sX ((a3 + 1)).toNatClampNeg) μ).bind fun q2 => (bif am_inb (a3 + 1) sL then ((fM_isFeast (sX ((a3 + 1)).toNatClampNeg) q2.2).bind fun q4 => (if q2.1 = q4.1 then fL_law_1725 sL sX k18 a3 q4.2 else some (0, q4.2))) else none)) else none)
def fL_law_285 (sL : Nat) (sX : Nat → Int32) (k18 : Int32 → am_Mu → Option (Int32 × am_Mu)) (a3 : Int32) (μ : am_Mu) : Option (Int32 × am_Mu) := (bif am_inb (a3 + 1) sL then (bif am_inb (a3 + 2) sL then ((fB_moon (sX ((a3 + 1)).toNatClampNeg) (sX ((a3 + 2)).toNatClampNeg) μ).bind fun q3 => (bif am_inb (a3 + 1) sL then (bif am_inb (a3 + 2) sL then ((fM_moon (sX ((a3 + 1)).toNatClampNeg) (sX ((a3 + 2)).toNatClampNeg) q3.2).bind fun q6 => (if q3.1 = q6.1 then fL_law_1725 sL sX k18 a3 q6.2 else some (0, q6.2))) else none) else none)) else none) else none)
def fL_law_318 (sL : Nat) (sX : Nat → Int32) (k18 : Int32 → am_Mu → Option (Int32 × am_Mu)) (a3 : Int32) (μ : am_Mu) : Option (Int32 × am_Mu) := (bif am_inb (a3 + 1) sL then (bif am_inb (a3 + 2) sL then (bif am_inb (a3 + 3) sL then (bif am_inb (a3 + 4) sL then (bif am_inb (a3 + 5) sL then ((fB_feed (sX ((a3 + 1)).toNatClampNeg) (sX ((a3 + 2)).toNatClampNeg) (sX ((a3 + 3)).toNatClampNeg) (sX ((a3 + 4)).toNatClampNeg) (sX ((a3 + 5)).toNatClampNeg) μ).bind fun q6 => (bif am_inb (a3 + 1) sL then (bif am_inb (a3 + 2) sL then (bif am_inb (a3 + 3) sL then (bif am_inb (a3 + 4) sL then (bif am_inb (a3 + 5) sL then ((fM_feed (sX ((a3 + 1)).toNatClampNeg) (sX ((a3 + 2)).toNatClampNeg) (sX ((a3 + 3)).toNatClampNeg) (sX ((a3 + 4)).toNatClampNeg) (sX ((a3 + 5)).toNatClampNeg) q6.2).bind fun q12 => (if q6.1 = q12.1 then fL_law_1725 sL sX k18 a3 q12.2 else some (0, q12.2))) else none) else none) else none) else none) else none)) else none) else none) else none) else none) else none)
def fL_law_427 (sL : Nat) (sX : Nat → Int32) (k18 : Int32 → am_Mu → Option (Int32 × am_Mu)) (a3 : Int32) (s0 : Int32) (s2 : Int32) (s3 : Int32) (μ : am_Mu) : Option (Int32 × am_Mu) := (bif am_inb (a3 + 3) sL then ((fM_law s2 s3 (sX ((a3 + 3)).toNatClampNeg) μ).bind fun q2 => (if s0 = q2.1 then fL_law_1725 sL sX k18 a3 q2.2 else some (0, q2.2))) else none)
def fL_law_400 (sL : Nat) (sX : Nat → Int32) (k18 : Int32 → am_Mu → Option (Int32 × am_Mu)) (a3 : Int32) (s1 : Int32) (s2 : Int32) (μ : am_Mu) : Option (Int32 × am_Mu) := (bif am_inb (a3 + 3) sL then ((fB_law s1 s2 (sX ((a3 + 3)).toNatClampNeg) μ).bind fun q2 => (bif am_inb (a3 + 1) sL then (bif am_inb (a3 + 2) sL then (if (sX ((a3 + 2)).toNatClampNeg) = 0 then fL_law_427 sL sX k18 a3 q2.1 (sX ((a3 + 1)).toNatClampNeg) 0 q2.2 else fL_law_427 sL sX k18 a3 q2.1 (sX ((a3 + 1)).toNatClampNeg) 1 q2.2) else none) else none)) else none)
def fL_law_381 (sL : Nat) (sX : Nat → Int32) (k18 : Int32 → am_Mu → Option (Int32 × am_Mu)) (a3 : Int32) (μ : am_Mu) : Option (Int32 × am_Mu) := (bif am_inb (a3 + 1) sL then (bif am_inb (a3 + 2) sL then (if (sX ((a3 + 2)).toNatClampNeg) = 0 then fL_law_400 sL sX k18 a3 (sX ((a3 + 1)).toNatClampNeg) 0 μ else fL_law_400 sL sX k18 a3 (sX ((a3 + 1)).toNatClampNeg) 1 μ) else none) else none)
def fL_law_481 (sL : Nat) (sX : Nat → Int32) (k18 : Int32 → am_Mu → Option (Int32 × am_Mu)) (a3 : Int32) (s0 : Int32) (s2 : Int32) (s3 : Int32) (μ : am_Mu) : Option (Int32 × am_Mu) := ((fM_rules s2 s3 μ).bind fun q1 => (if s0 = q1.1 then fL_law_1725 sL sX k18 a3 q1.2 else some (0, q1.2)))
def fL_law_459 (sL : Nat) (sX : Nat → Int32) (k18 : Int32 → am_Mu → Option (Int32 × am_Mu)) (a3 : Int32) (s1 : Int32) (s2 : Int32) (μ : am_Mu) : Option (Int32 × am_Mu) := ((fB_rules s1 s2 μ).bind fun q1 => (bif am_inb (a3 + 1) sL then (bif am_inb (a3 + 2) sL then (if (sX ((a3 + 2)).toNatClampNeg) = 0 then fL_law_481 sL sX k18 a3 q1.1 (sX ((a3 + 1)).toNatClampNeg) 0 q1.2 else fL_law_481 sL sX k18 a3 q1.1 (sX ((a3 + 1)).toNatClampNeg) 1 q1.2) else none) else none))
def fL_law_440 (sL : Nat) (sX : Nat → Int32) (k18 : Int32 → am_Mu → Option (Int32 × am_Mu)) (a3 : Int32) (μ : am_Mu) : Option (Int32 × am_Mu) := (bif am_inb (a3 + 1) sL then (bif am_inb (a3 + 2) sL then (if (sX ((a3 + 2)).toNatClampNeg) = 0 then fL_law_459 sL sX k18 a3 (sX ((a3 + 1)).toNatClampNeg) 0 μ else fL_law_459 sL sX k18 a3 (sX ((a3 + 1)).toNatClampNeg) 1 μ) else none) else none)
def fL_law_489 (sL : Nat) (sX : Nat → Int32) (k18 : Int32 → am_Mu → Option (Int32 × am_Mu)) (a3 : Int32) (μ : am_Mu) : Option (Int32 × am_Mu) := (bif am_inb (a3 + 1) sL then ((fB_thing (sX ((a3 + 1)).toNatClampNeg) μ).bind fun q2 => (bif am_inb (a3 + 1) sL then ((fM_thing (sX ((a3 + 1)).toNatClampNeg) q2.2).bind fun q4 => (if q2.1 = q4.1 then fL_law_1725 sL sX k18 a3 q4.2 else some (0, q4.2))) else none)) else none)
def fL_law_583 (sL : Nat) (sX : Nat → Int32) (k18 : Int32 → am_Mu → Option (Int32 × am_Mu)) (a3 : Int32) (s0 : Int32) (s2 : Int32) (s3 : Int32) (s4 : Int32) (s5 : Int32) (s6 : Int32) (μ : am_Mu) : Option (Int32 × am_Mu) := ((fM_act s2 s3 s4 s5 s6 μ).bind fun q1 => (if s0 = q1.1 then fL_law_1725 sL sX k18 a3 q1.2 else some (0, q1.2)))
def fL_law_546 (sL : Nat) (sX : Nat → Int32) (k18 : Int32 → am_Mu → Option (Int32 × am_Mu)) (a3 : Int32) (s1 : Int32) (s2 : Int32) (s3 : Int32) (s4 : Int32) (s5 : Int32) (μ : am_Mu) : Option (Int32 × am_Mu) := ((fB_act s1 s2 s3 s4 s5 μ).bind fun q1 => (bif am_inb (a3 + 1) sL then (bif am_inb (a3 + 2) sL then (bif am_inb (a3 + 3) sL then (bif am_inb (a3 + 4) sL then (bif am_inb (a3 + 5) sL then (if (sX ((a3 + 5)).toNatClampNeg) = 0 then fL_law_583 sL sX k18 a3 q1.1 (sX ((a3 + 1)).toNatClampNeg) (sX ((a3 + 2)).toNatClampNeg) (sX ((a3 + 3)).toNatClampNeg) (sX ((a3 + 4)).toNatClampNeg) 0 q1.2 else fL_law_583 sL sX k18 a3 q1.1 (sX ((a3 + 1)).toNatClampNeg) (sX ((a3 + 2)).toNatClampNeg) (sX ((a3 + 3)).toNatClampNeg) (sX ((a3 + 4)).toNatClampNeg) 1 q1.2) else none) else none) else none) else none) else none))
def fL_law_512 (sL : Nat) (sX : Nat → Int32) (k18 : Int32 → am_Mu → Option (Int32 × am_Mu)) (a3 : Int32) (μ : am_Mu) : Option (Int32 × am_Mu) := (bif am_inb (a3 + 1) sL then (bif am_inb (a3 + 2) sL then (bif am_inb (a3 + 3) sL then (bif am_inb (a3 + 4) sL then (bif am_inb (a3 + 5) sL then (if (sX ((a3 + 5)).toNatClampNeg) = 0 then fL_law_546 sL sX k18 a3 (sX ((a3 + 1)).toNatClampNeg) (sX ((a3 + 2)).toNatClampNeg) (sX ((a3 + 3)).toNatClampNeg) (sX ((a3 + 4)).toNatClampNeg) 0 μ else fL_law_546 sL sX k18 a3 (sX ((a3 + 1)).toNatClampNeg) (sX ((a3 + 2)).toNatClampNeg) (sX ((a3 + 3)).toNatClampNeg) (sX ((a3 + 4)).toNatClampNeg) 1 μ) else none) else none) else none) else none) else none)
def fL_law_591 (sL : Nat) (sX : Nat → Int32) (k18 : Int32 → am_Mu → Option (Int32 × am_Mu)) (a3 : Int32) (μ : am_Mu) : Option (Int32 × am_Mu) := (bif am_inb (a3 + 1) sL then ((fB_strike (sX ((a3 + 1)).toNatClampNeg) μ).bind fun q2 => (bif am_inb (a3 + 1) sL then ((fM_strike (sX ((a3 + 1)).toNatClampNeg) q2.2).bind fun q4 => (if q2.1 = q4.1 then fL_law_1725 sL sX k18 a3 q4.2 else some (0, q4.2))) else none)) else none)
def fL_law_614 (sL : Nat) (sX : Nat → Int32) (k18 : Int32 → am_Mu → Option (Int32 × am_Mu)) (a3 : Int32) (μ : am_Mu) : Option (Int32 × am_Mu) := (bif am_inb (a3 + 1) sL then (bif am_inb (a3 + 2) sL then (bif am_inb (a3 + 3) sL then ((fB_mistake (sX ((a3 + 1)).toNatClampNeg) (sX ((a3 + 2)).toNatClampNeg) (sX ((a3 + 3)).toNatClampNeg) μ).bind fun q4 => (bif am_inb (a3 + 1) sL then (bif am_inb (a3 + 2) sL then (bif am_inb (a3 + 3) sL then ((fM_mistake (sX ((a3 + 1)).toNatClampNeg) (sX ((a3 + 2)).toNatClampNeg) (sX ((a3 + 3)).toNatClampNeg) q4.2).bind fun q8 => (if q4.1 = q8.1 then fL_law_1725 sL sX k18 a3 q8.2 else some (0, q8.2))) else none) else none) else none)) else none) else none) else none)
def fL_law_657 (sL : Nat) (sX : Nat → Int32) (k18 : Int32 → am_Mu → Option (Int32 × am_Mu)) (a3 : Int32) (μ : am_Mu) : Option (Int32 × am_Mu) := (bif am_inb (a3 + 1) sL then (bif am_inb (a3 + 2) sL then (bif am_inb (a3 + 3) sL then (bif am_inb (a3 + 4) sL then (bif am_inb (a3 + 5) sL then ((fB_mark (sX ((a3 + 1)).toNatClampNeg) (sX ((a3 + 2)).toNatClampNeg) (sX ((a3 + 3)).toNatClampNeg) (sX ((a3 + 4)).toNatClampNeg) (sX ((a3 + 5)).toNatClampNeg) μ).bind fun q6 => (bif am_inb (a3 + 1) sL then (bif am_inb (a3 + 2) sL then (bif am_inb (a3 + 3) sL then (bif am_inb (a3 + 4) sL then (bif am_inb (a3 + 5) sL then ((fM_mark (sX ((a3 + 1)).toNatClampNeg) (sX ((a3 + 2)).toNatClampNeg) (sX ((a3 + 3)).toNatClampNeg) (sX ((a3 + 4)).toNatClampNeg) (sX ((a3 + 5)).toNatClampNeg) q6.2).bind fun q12 => (if q6.1 = q12.1 then fL_law_1725 sL sX k18 a3 q12.2 else some (0, q12.2))) else none) else none) else none) else none) else none)) else none) else none) else none) else none) else none)
def fL_law_720 (sL : Nat) (sX : Nat → Int32) (k18 : Int32 → am_Mu → Option (Int32 × am_Mu)) (a3 : Int32) (μ : am_Mu) : Option (Int32 × am_Mu) := (bif am_inb (a3 + 1) sL then (bif am_inb (a3 + 2) sL then (bif am_inb (a3 + 3) sL then (bif am_inb (a3 + 4) sL then (bif am_inb (a3 + 5) sL then (bif am_inb (a3 + 6) sL then ((fB_since (sX ((a3 + 1)).toNatClampNeg) (sX ((a3 + 2)).toNatClampNeg) (sX ((a3 + 3)).toNatClampNeg) (sX ((a3 + 4)).toNatClampNeg) (sX ((a3 + 5)).toNatClampNeg) (sX ((a3 + 6)).toNatClampNeg) μ).bind fun q7 => (bif am_inb (a3 + 1) sL then (bif am_inb (a3 + 2) sL then (bif am_inb (a3 + 3) sL then (bif am_inb (a3 + 4) sL then (bif am_inb (a3 + 5) sL then (bif am_inb (a3 + 6) sL then ((fM_since (sX ((a3 + 1)).toNatClampNeg) (sX ((a3 + 2)).toNatClampNeg) (sX ((a3 + 3)).toNatClampNeg) (sX ((a3 + 4)).toNatClampNeg) (sX ((a3 + 5)).toNatClampNeg) (sX ((a3 + 6)).toNatClampNeg) q7.2).bind fun q14 => (if q7.1 = q14.1 then fL_law_1725 sL sX k18 a3 q14.2 else some (0, q14.2))) else none) else none) else none) else none) else none) else none)) else none) else none) else none) else none) else none) else none)
def fL_law_795 (sL : Nat) (sX : Nat → Int32) (k18 : Int32 → am_Mu → Option (Int32 × am_Mu)) (a3 : Int32) (μ : am_Mu) : Option (Int32 × am_Mu) := (bif am_inb (a3 + 1) sL then (bif am_inb (a3 + 2) sL then ((fB_quarrel (sX ((a3 + 1)).toNatClampNeg) (sX ((a3 + 2)).toNatClampNeg) μ).bind fun q3 => (bif am_inb (a3 + 1) sL then (bif am_inb (a3 + 2) sL then ((fM_quarrel (sX ((a3 + 1)).toNatClampNeg) (sX ((a3 + 2)).toNatClampNeg) q3.2).bind fun q6 => (if q3.1 = q6.1 then fL_law_1725 sL sX k18 a3 q6.2 else some (0, q6.2))) else none) else none)) else none) else none)
def fL_law_828 (sL : Nat) (sX : Nat → Int32) (k18 : Int32 → am_Mu → Option (Int32 × am_Mu)) (a3 : Int32) (μ : am_Mu) : Option (Int32 × am_Mu) := (bif am_inb (a3 + 1) sL then (bif am_inb (a3 + 2) sL then (bif am_inb (a3 + 3) sL then (bif am_inb (a3 + 4) sL then ((fB_leads (sX ((a3 + 1)).toNatClampNeg) (sX ((a3 + 2)).toNatClampNeg) (sX ((a3 + 3)).toNatClampNeg) (sX ((a3 + 4)).toNatClampNeg) μ).bind fun q5 => (bif am_inb (a3 + 1) sL then (bif am_inb (a3 + 2) sL then (bif am_inb (a3 + 3) sL then (bif am_inb (a3 + 4) sL then ((fM_leads (sX ((a3 + 1)).toNatClampNeg) (sX ((a3 + 2)).toNatClampNeg) (sX ((a3 + 3)).toNatClampNeg) (sX ((a3 + 4)).toNatClampNeg) q5.2).bind fun q10 => (if q5.1 = q10.1 then fL_law_1725 sL sX k18 a3 q10.2 else some (0, q10.2))) else none) else none) else none) else none)) else none) else none) else none) else none)
def fL_law_881 (sL : Nat) (sX : Nat → Int32) (k18 : Int32 → am_Mu → Option (Int32 × am_Mu)) (a3 : Int32) (μ : am_Mu) : Option (Int32 × am_Mu) := (bif am_inb (a3 + 1) sL then (bif am_inb (a3 + 2) sL then (bif am_inb (a3 + 3) sL then ((fB_reached (sX ((a3 + 1)).toNatClampNeg) (sX ((a3 + 2)).toNatClampNeg) (sX ((a3 + 3)).toNatClampNeg) μ).bind fun q4 => (bif am_inb (a3 + 1) sL then (bif am_inb (a3 + 2) sL then (bif am_inb (a3 + 3) sL then ((fM_reached (sX ((a3 + 1)).toNatClampNeg) (sX ((a3 + 2)).toNatClampNeg) (sX ((a3 + 3)).toNatClampNeg) q4.2).bind fun q8 => (if q4.1 = q8.1 then fL_law_1725 sL sX k18 a3 q8.2 else some (0, q8.2))) else none) else none) else none)) else none) else none) else none)
def fL_law_924 (sL : Nat) (sX : Nat → Int32) (k18 : Int32 → am_Mu → Option (Int32 × am_Mu)) (a3 : Int32) (μ : am_Mu) : Option (Int32 × am_Mu) := (bif am_inb (a3 + 1) sL then (bif am_inb (a3 + 2) sL then (bif am_inb (a3 + 3) sL then (bif am_inb (a3 + 4) sL then ((fB_way (sX ((a3 + 1)).toNatClampNeg) (sX ((a3 + 2)).toNatClampNeg) (sX ((a3 + 3)).toNatClampNeg) (sX ((a3 + 4)).toNatClampNeg) μ).bind fun q5 => (bif am_inb (a3 + 1) sL then (bif am_inb (a3 + 2) sL then (bif am_inb (a3 + 3) sL then (bif am_inb (a3 + 4) sL then ((fM_way (sX ((a3 + 1)).toNatClampNeg) (sX ((a3 + 2)).toNatClampNeg) (sX ((a3 + 3)).toNatClampNeg) (sX ((a3 + 4)).toNatClampNeg) q5.2).bind fun q10 => (if q5.1 = q10.1 then fL_law_1725 sL sX k18 a3 q10.2 else some (0, q10.2))) else none) else none) else none) else none)) else none) else none) else none) else none)
def fL_law_977 (sL : Nat) (sX : Nat → Int32) (k18 : Int32 → am_Mu → Option (Int32 × am_Mu)) (a3 : Int32) (μ : am_Mu) : Option (Int32 × am_Mu) := (bif am_inb (a3 + 1) sL then (bif am_inb (a3 + 2) sL then (bif am_inb (a3 + 3) sL then ((fB_mend (sX ((a3 + 1)).toNatClampNeg) (sX ((a3 + 2)).toNatClampNeg) (sX ((a3 + 3)).toNatClampNeg) μ).bind fun q4 => (bif am_inb (a3 + 1) sL then (bif am_inb (a3 + 2) sL then (bif am_inb (a3 + 3) sL then ((fM_mend (sX ((a3 + 1)).toNatClampNeg) (sX ((a3 + 2)).toNatClampNeg) (sX ((a3 + 3)).toNatClampNeg) q4.2).bind fun q8 => (if q4.1 = q8.1 then fL_law_1725 sL sX k18 a3 q8.2 else some (0, q8.2))) else none) else none) else none)) else none) else none) else none)
def fL_law_1020 (sL : Nat) (sX : Nat → Int32) (k18 : Int32 → am_Mu → Option (Int32 × am_Mu)) (a3 : Int32) (μ : am_Mu) : Option (Int32 × am_Mu) := (bif am_inb (a3 + 1) sL then (bif am_inb (a3 + 2) sL then (bif am_inb (a3 + 3) sL then (bif am_inb (a3 + 4) sL then ((fB_kitchen (sX ((a3 + 1)).toNatClampNeg) (sX ((a3 + 2)).toNatClampNeg) (sX ((a3 + 3)).toNatClampNeg) (sX ((a3 + 4)).toNatClampNeg) μ).bind fun q5 => (bif am_inb (a3 + 1) sL then (bif am_inb (a3 + 2) sL then (bif am_inb (a3 + 3) sL then (bif am_inb (a3 + 4) sL then ((fM_kitchen (sX ((a3 + 1)).toNatClampNeg) (sX ((a3 + 2)).toNatClampNeg) (sX ((a3 + 3)).toNatClampNeg) (sX ((a3 + 4)).toNatClampNeg) q5.2).bind fun q10 => (if q5.1 = q10.1 then fL_law_1725 sL sX k18 a3 q10.2 else some (0, q10.2))) else none) else none) else none) else none)) else none) else none) else none) else none)
def fL_law_1073 (sL : Nat) (sX : Nat → Int32) (k18 : Int32 → am_Mu → Option (Int32 × am_Mu)) (a3 : Int32) (μ : am_Mu) : Option (Int32 × am_Mu) := (bif am_inb (a3 + 1) sL then (bif am_inb (a3 + 2) sL then ((fB_oversee (sX ((a3 + 1)).toNatClampNeg) (sX ((a3 + 2)).toNatClampNeg) μ).bind fun q3 => (bif am_inb (a3 + 1) sL then (bif am_inb (a3 + 2) sL then ((fM_oversee (sX ((a3 + 1)).toNatClampNeg) (sX ((a3 + 2)).toNatClampNeg) q3.2).bind fun q6 => (if q3.1 = q6.1 then fL_law_1725 sL sX k18 a3 q6.2 else some (0, q6.2))) else none) else none)) else none) else none)
def fL_law_1157 (sL : Nat) (sX : Nat → Int32) (k18 : Int32 → am_Mu → Option (Int32 × am_Mu)) (a3 : Int32) (s0 : Int32) (s2 : Int32) (s3 : Int32) (s4 : Int32) (μ : am_Mu) : Option (Int32 × am_Mu) := ((fM_trust s2 s3 s4 μ).bind fun q1 => (if s0 = q1.1 then fL_law_1725 sL sX k18 a3 q1.2 else some (0, q1.2)))
def fL_law_1130 (sL : Nat) (sX : Nat → Int32) (k18 : Int32 → am_Mu → Option (Int32 × am_Mu)) (a3 : Int32) (s1 : Int32) (s2 : Int32) (s3 : Int32) (μ : am_Mu) : Option (Int32 × am_Mu) := ((fB_trust s1 s2 s3 μ).bind fun q1 => (bif am_inb (a3 + 1) sL then (bif am_inb (a3 + 2) sL then (bif am_inb (a3 + 3) sL then (if (sX ((a3 + 3)).toNatClampNeg) = 0 then fL_law_1157 sL sX k18 a3 q1.1 (sX ((a3 + 1)).toNatClampNeg) (sX ((a3 + 2)).toNatClampNeg) 0 q1.2 else fL_law_1157 sL sX k18 a3 q1.1 (sX ((a3 + 1)).toNatClampNeg) (sX ((a3 + 2)).toNatClampNeg) 1 q1.2) else none) else none) else none))
def fL_law_1106 (sL : Nat) (sX : Nat → Int32) (k18 : Int32 → am_Mu → Option (Int32 × am_Mu)) (a3 : Int32) (μ : am_Mu) : Option (Int32 × am_Mu) := (bif am_inb (a3 + 1) sL then (bif am_inb (a3 + 2) sL then (bif am_inb (a3 + 3) sL then (if (sX ((a3 + 3)).toNatClampNeg) = 0 then fL_law_1130 sL sX k18 a3 (sX ((a3 + 1)).toNatClampNeg) (sX ((a3 + 2)).toNatClampNeg) 0 μ else fL_law_1130 sL sX k18 a3 (sX ((a3 + 1)).toNatClampNeg) (sX ((a3 + 2)).toNatClampNeg) 1 μ) else none) else none) else none)
def fL_law_1165 (sL : Nat) (sX : Nat → Int32) (k18 : Int32 → am_Mu → Option (Int32 × am_Mu)) (a3 : Int32) (μ : am_Mu) : Option (Int32 × am_Mu) := (bif am_inb (a3 + 1) sL then (bif am_inb (a3 + 2) sL then ((fB_lot (sX ((a3 + 1)).toNatClampNeg) (sX ((a3 + 2)).toNatClampNeg) μ).bind fun q3 => (bif am_inb (a3 + 1) sL then (bif am_inb (a3 + 2) sL then ((fM_lot (sX ((a3 + 1)).toNatClampNeg) (sX ((a3 + 2)).toNatClampNeg) q3.2).bind fun q6 => (if q3.1 = q6.1 then fL_law_1725 sL sX k18 a3 q6.2 else some (0, q6.2))) else none) else none)) else none) else none)
def fL_law_1269 (sL : Nat) (sX : Nat → Int32) (k18 : Int32 → am_Mu → Option (Int32 × am_Mu)) (a3 : Int32) (s0 : Int32) (s2 : Int32) (s3 : Int32) (s4 : Int32) (s5 : Int32) (s6 : Int32) (μ : am_Mu) : Option (Int32 × am_Mu) := ((fM_pass s2 s3 s4 s5 s6 μ).bind fun q1 => (if s0 = q1.1 then fL_law_1725 sL sX k18 a3 q1.2 else some (0, q1.2)))
def fL_law_1232 (sL : Nat) (sX : Nat → Int32) (k18 : Int32 → am_Mu → Option (Int32 × am_Mu)) (a3 : Int32) (s1 : Int32) (s2 : Int32) (s3 : Int32) (s4 : Int32) (s5 : Int32) (μ : am_Mu) : Option (Int32 × am_Mu) := ((fB_pass s1 s2 s3 s4 s5 μ).bind fun q1 => (bif am_inb (a3 + 1) sL then (bif am_inb (a3 + 2) sL then (bif am_inb (a3 + 3) sL then (bif am_inb (a3 + 4) sL then (bif am_inb (a3 + 5) sL then (if (sX ((a3 + 5)).toNatClampNeg) = 0 then fL_law_1269 sL sX k18 a3 q1.1 (sX ((a3 + 1)).toNatClampNeg) (sX ((a3 + 2)).toNatClampNeg) (sX ((a3 + 3)).toNatClampNeg) (sX ((a3 + 4)).toNatClampNeg) 0 q1.2 else fL_law_1269 sL sX k18 a3 q1.1 (sX ((a3 + 1)).toNatClampNeg) (sX ((a3 + 2)).toNatClampNeg) (sX ((a3 + 3)).toNatClampNeg) (sX ((a3 + 4)).toNatClampNeg) 1 q1.2) else none) else none) else none) else none) else none))
def fL_law_1198 (sL : Nat) (sX : Nat → Int32) (k18 : Int32 → am_Mu → Option (Int32 × am_Mu)) (a3 : Int32) (μ : am_Mu) : Option (Int32 × am_Mu) := (bif am_inb (a3 + 1) sL then (bif am_inb (a3 + 2) sL then (bif am_inb (a3 + 3) sL then (bif am_inb (a3 + 4) sL then (bif am_inb (a3 + 5) sL then (if (sX ((a3 + 5)).toNatClampNeg) = 0 then fL_law_1232 sL sX k18 a3 (sX ((a3 + 1)).toNatClampNeg) (sX ((a3 + 2)).toNatClampNeg) (sX ((a3 + 3)).toNatClampNeg) (sX ((a3 + 4)).toNatClampNeg) 0 μ else fL_law_1232 sL sX k18 a3 (sX ((a3 + 1)).toNatClampNeg) (sX ((a3 + 2)).toNatClampNeg) (sX ((a3 + 3)).toNatClampNeg) (sX ((a3 + 4)).toNatClampNeg) 1 μ) else none) else none) else none) else none) else none)
def fL_law_1277 (sL : Nat) (sX : Nat → Int32) (k18 : Int32 → am_Mu → Option (Int32 × am_Mu)) (a3 : Int32) (μ : am_Mu) : Option (Int32 × am_Mu) := (bif am_inb (a3 + 1) sL then (bif am_inb (a3 + 2) sL then ((fB_units (sX ((a3 + 1)).toNatClampNeg) (sX ((a3 + 2)).toNatClampNeg) μ).bind fun q3 => (bif am_inb (a3 + 1) sL then (bif am_inb (a3 + 2) sL then ((fM_units (sX ((a3 + 1)).toNatClampNeg) (sX ((a3 + 2)).toNatClampNeg) q3.2).bind fun q6 => (if q3.1 = q6.1 then fL_law_1725 sL sX k18 a3 q6.2 else some (0, q6.2))) else none) else none)) else none) else none)
def fL_law_1310 (sL : Nat) (sX : Nat → Int32) (k18 : Int32 → am_Mu → Option (Int32 × am_Mu)) (a3 : Int32) (μ : am_Mu) : Option (Int32 × am_Mu) := (bif am_inb (a3 + 1) sL then (bif am_inb (a3 + 2) sL then (bif am_inb (a3 + 3) sL then (bif am_inb (a3 + 4) sL then ((fB_good (sX ((a3 + 1)).toNatClampNeg) (sX ((a3 + 2)).toNatClampNeg) (sX ((a3 + 3)).toNatClampNeg) (sX ((a3 + 4)).toNatClampNeg) μ).bind fun q5 => (bif am_inb (a3 + 1) sL then (bif am_inb (a3 + 2) sL then (bif am_inb (a3 + 3) sL then (bif am_inb (a3 + 4) sL then ((fM_good (sX ((a3 + 1)).toNatClampNeg) (sX ((a3 + 2)).toNatClampNeg) (sX ((a3 + 3)).toNatClampNeg) (sX ((a3 + 4)).toNatClampNeg) q5.2).bind fun q10 => (if q5.1 = q10.1 then fL_law_1725 sL sX k18 a3 q10.2 else some (0, q10.2))) else none) else none) else none) else none)) else none) else none) else none) else none)
def fL_law_1363 (sL : Nat) (sX : Nat → Int32) (k18 : Int32 → am_Mu → Option (Int32 × am_Mu)) (a3 : Int32) (μ : am_Mu) : Option (Int32 × am_Mu) := (bif am_inb (a3 + 1) sL then ((fB_recall (sX ((a3 + 1)).toNatClampNeg) μ).bind fun q2 => (bif am_inb (a3 + 1) sL then ((fM_recall (sX ((a3 + 1)).toNatClampNeg) q2.2).bind fun q4 => (if q2.1 = q4.1 then fL_law_1725 sL sX k18 a3 q4.2 else some (0, q4.2))) else none)) else none)
def fL_law_1386 (sL : Nat) (sX : Nat → Int32) (k18 : Int32 → am_Mu → Option (Int32 × am_Mu)) (a3 : Int32) (μ : am_Mu) : Option (Int32 × am_Mu) := (bif am_inb (a3 + 1) sL then (bif am_inb (a3 + 2) sL then ((fB_visitor (sX ((a3 + 1)).toNatClampNeg) (sX ((a3 + 2)).toNatClampNeg) μ).bind fun q3 => (bif am_inb (a3 + 1) sL then (bif am_inb (a3 + 2) sL then ((fM_visitor (sX ((a3 + 1)).toNatClampNeg) (sX ((a3 + 2)).toNatClampNeg) q3.2).bind fun q6 => (if q3.1 = q6.1 then fL_law_1725 sL sX k18 a3 q6.2 else some (0, q6.2))) else none) else none)) else none) else none)
def fL_law_1419 (sL : Nat) (sX : Nat → Int32) (k18 : Int32 → am_Mu → Option (Int32 × am_Mu)) (a3 : Int32) (μ : am_Mu) : Option (Int32 × am_Mu) := (bif am_inb (a3 + 1) sL then (bif am_inb (a3 + 2) sL then ((fB_seed (sX ((a3 + 1)).toNatClampNeg) (sX ((a3 + 2)).toNatClampNeg) μ).bind fun q3 => (bif am_inb (a3 + 1) sL then (bif am_inb (a3 + 2) sL then ((fM_seed (sX ((a3 + 1)).toNatClampNeg) (sX ((a3 + 2)).toNatClampNeg) q3.2).bind fun q6 => (if q3.1 = q6.1 then fL_law_1725 sL sX k18 a3 q6.2 else some (0, q6.2))) else none) else none)) else none) else none)
def fL_law_1452 (sL : Nat) (sX : Nat → Int32) (k18 : Int32 → am_Mu → Option (Int32 × am_Mu)) (a3 : Int32) (μ : am_Mu) : Option (Int32 × am_Mu) := ((fB_draw μ).bind fun q1 => ((fM_draw q1.2).bind fun q2 => (if q1.1 = q2.1 then fL_law_1725 sL sX k18 a3 q2.2 else some (0, q2.2))))
def fL_law_1465 (sL : Nat) (sX : Nat → Int32) (k18 : Int32 → am_Mu → Option (Int32 × am_Mu)) (a3 : Int32) (μ : am_Mu) : Option (Int32 × am_Mu) := ((fB_row μ).bind fun q1 => ((fM_row q1.2).bind fun q2 => (if q1.1 = q2.1 then fL_law_1725 sL sX k18 a3 q2.2 else some (0, q2.2))))
def fL_law_1478 (sL : Nat) (sX : Nat → Int32) (k18 : Int32 → am_Mu → Option (Int32 × am_Mu)) (a3 : Int32) (μ : am_Mu) : Option (Int32 × am_Mu) := (bif am_inb (a3 + 1) sL then (bif am_inb (a3 + 2) sL then ((fB_visit (sX ((a3 + 1)).toNatClampNeg) (sX ((a3 + 2)).toNatClampNeg) μ).bind fun q3 => (bif am_inb (a3 + 1) sL then (bif am_inb (a3 + 2) sL then ((fM_visit (sX ((a3 + 1)).toNatClampNeg) (sX ((a3 + 2)).toNatClampNeg) q3.2).bind fun q6 => (if q3.1 = q6.1 then fL_law_1725 sL sX k18 a3 q6.2 else some (0, q6.2))) else none) else none)) else none) else none)
def fL_law_1511 (sL : Nat) (sX : Nat → Int32) (k18 : Int32 → am_Mu → Option (Int32 × am_Mu)) (a3 : Int32) (μ : am_Mu) : Option (Int32 × am_Mu) := (bif am_inb (a3 + 1) sL then ((fB_tour (sX ((a3 + 1)).toNatClampNeg) μ).bind fun q2 => (bif am_inb (a3 + 1) sL then ((fM_tour (sX ((a3 + 1)).toNatClampNeg) q2.2).bind fun q4 => (if q2.1 = q4.1 then fL_law_1725 sL sX k18 a3 q4.2 else some (0, q4.2))) else none)) else none)
def fL_law_1534 (sL : Nat) (sX : Nat → Int32) (k18 : Int32 → am_Mu → Option (Int32 × am_Mu)) (a3 : Int32) (μ : am_Mu) : Option (Int32 × am_Mu) := (bif am_inb (a3 + 1) sL then (bif am_inb (a3 + 2) sL then ((fB_stop (sX ((a3 + 1)).toNatClampNeg) (sX ((a3 + 2)).toNatClampNeg) μ).bind fun q3 => (bif am_inb (a3 + 1) sL then (bif am_inb (a3 + 2) sL then ((fM_stop (sX ((a3 + 1)).toNatClampNeg) (sX ((a3 + 2)).toNatClampNeg) q3.2).bind fun q6 => (if q3.1 = q6.1 then fL_law_1725 sL sX k18 a3 q6.2 else some (0, q6.2))) else none) else none)) else none) else none)
def fL_law_1628 (sL : Nat) (sX : Nat → Int32) (k18 : Int32 → am_Mu → Option (Int32 × am_Mu)) (a3 : Int32) (s0 : Int32) (s2 : Int32) (s3 : Int32) (s4 : Int32) (s5 : Int32) (μ : am_Mu) : Option (Int32 × am_Mu) := ((fM_word s2 s3 s4 s5 μ).bind fun q1 => (if s0 = q1.1 then fL_law_1725 sL sX k18 a3 q1.2 else some (0, q1.2)))
def fL_law_1596 (sL : Nat) (sX : Nat → Int32) (k18 : Int32 → am_Mu → Option (Int32 × am_Mu)) (a3 : Int32) (s1 : Int32) (s2 : Int32) (s3 : Int32) (s4 : Int32) (μ : am_Mu) : Option (Int32 × am_Mu) := ((fB_word s1 s2 s3 s4 μ).bind fun q1 => (bif am_inb (a3 + 1) sL then (bif am_inb (a3 + 2) sL then (bif am_inb (a3 + 3) sL then (bif am_inb (a3 + 4) sL then (if (sX ((a3 + 4)).toNatClampNeg) = 0 then fL_law_1628 sL sX k18 a3 q1.1 (sX ((a3 + 1)).toNatClampNeg) (sX ((a3 + 2)).toNatClampNeg) (sX ((a3 + 3)).toNatClampNeg) 0 q1.2 else fL_law_1628 sL sX k18 a3 q1.1 (sX ((a3 + 1)).toNatClampNeg) (sX ((a3 + 2)).toNatClampNeg) (sX ((a3 + 3)).toNatClampNeg) 1 q1.2) else none) else none) else none) else none))
def fL_law_1567 (sL : Nat) (sX : Nat → Int32) (k18 : Int32 → am_Mu → Option (Int32 × am_Mu)) (a3 : Int32) (μ : am_Mu) : Option (Int32 × am_Mu) := (bif am_inb (a3 + 1) sL then (bif am_inb (a3 + 2) sL then (bif am_inb (a3 + 3) sL then (bif am_inb (a3 + 4) sL then (if (sX ((a3 + 4)).toNatClampNeg) = 0 then fL_law_1596 sL sX k18 a3 (sX ((a3 + 1)).toNatClampNeg) (sX ((a3 + 2)).toNatClampNeg) (sX ((a3 + 3)).toNatClampNeg) 0 μ else fL_law_1596 sL sX k18 a3 (sX ((a3 + 1)).toNatClampNeg) (sX ((a3 + 2)).toNatClampNeg) (sX ((a3 + 3)).toNatClampNeg) 1 μ) else none) else none) else none) else none)
def fL_law_1636 (sL : Nat) (sX : Nat → Int32) (k18 : Int32 → am_Mu → Option (Int32 × am_Mu)) (a3 : Int32) (μ : am_Mu) : Option (Int32 × am_Mu) := (bif am_inb (a3 + 1) sL then (bif am_inb (a3 + 2) sL then ((fB_believed (sX ((a3 + 1)).toNatClampNeg) (sX ((a3 + 2)).toNatClampNeg) μ).bind fun q3 => (bif am_inb (a3 + 1) sL then (bif am_inb (a3 + 2) sL then ((fM_believed (sX ((a3 + 1)).toNatClampNeg) (sX ((a3 + 2)).toNatClampNeg) q3.2).bind fun q6 => (if q3.1 = q6.1 then fL_law_1725 sL sX k18 a3 q6.2 else some (0, q6.2))) else none) else none)) else none) else none)
def fL_law_1669 (sL : Nat) (sX : Nat → Int32) (k18 : Int32 → am_Mu → Option (Int32 × am_Mu)) (a3 : Int32) (μ : am_Mu) : Option (Int32 × am_Mu) := (bif am_inb (a3 + 1) sL then (bif am_inb (a3 + 2) sL then ((fB_look (sX ((a3 + 1)).toNatClampNeg) (sX ((a3 + 2)).toNatClampNeg) μ).bind fun q3 => (bif am_inb (a3 + 1) sL then (bif am_inb (a3 + 2) sL then ((fM_look (sX ((a3 + 1)).toNatClampNeg) (sX ((a3 + 2)).toNatClampNeg) q3.2).bind fun q6 => (if q3.1 = q6.1 then fL_law_1725 sL sX k18 a3 q6.2 else some (0, q6.2))) else none) else none)) else none) else none)
def fL_law_1702 (sL : Nat) (sX : Nat → Int32) (k18 : Int32 → am_Mu → Option (Int32 × am_Mu)) (a3 : Int32) (μ : am_Mu) : Option (Int32 × am_Mu) := (bif am_inb (a3 + 1) sL then ((fB_count (sX ((a3 + 1)).toNatClampNeg) μ).bind fun q2 => (bif am_inb (a3 + 1) sL then ((fM_count (sX ((a3 + 1)).toNatClampNeg) q2.2).bind fun q4 => (if q2.1 = q4.1 then fL_law_1725 sL sX k18 a3 q4.2 else some (0, q4.2))) else none)) else none)
def fL_law_18 (sL : Nat) (sX : Nat → Int32) : Nat → Int32 → am_Mu → Option (Int32 × am_Mu)
  | 0, _, _ => none
  | n + 1, a3, μ => (if ((Int32.ofNat sL) - 7) < a3 then some (1, μ) else (bif am_inb a3 sL then (if ((sX (a3).toNatClampNeg) &&& 63) = 0 then fL_law_196 sL sX (fL_law_18 sL sX n) a3 μ else (if ((sX (a3).toNatClampNeg) &&& 63) = 1 then fL_law_219 sL sX (fL_law_18 sL sX n) a3 μ else (if ((sX (a3).toNatClampNeg) &&& 63) = 2 then fL_law_262 sL sX (fL_law_18 sL sX n) a3 μ else (if ((sX (a3).toNatClampNeg) &&& 63) = 3 then fL_law_285 sL sX (fL_law_18 sL sX n) a3 μ else (if ((sX (a3).toNatClampNeg) &&& 63) = 4 then fL_law_318 sL sX (fL_law_18 sL sX n) a3 μ else (if ((sX (a3).toNatClampNeg) &&& 63) = 5 then fL_law_381 sL sX (fL_law_18 sL sX n) a3 μ else (if ((sX (a3).toNatClampNeg) &&& 63) = 6 then fL_law_440 sL sX (fL_law_18 sL sX n) a3 μ else (if ((sX (a3).toNatClampNeg) &&& 63) = 7 then fL_law_489 sL sX (fL_law_18 sL sX n) a3 μ else (if ((sX (a3).toNatClampNeg) &&& 63) = 8 then fL_law_512 sL sX (fL_law_18 sL sX n) a3 μ else (if ((sX (a3).toNatClampNeg) &&& 63) = 9 then fL_law_591 sL sX (fL_law_18 sL sX n) a3 μ else (if ((sX (a3).toNatClampNeg) &&& 63) = 10 then fL_law_614 sL sX (fL_law_18 sL sX n) a3 μ else (if ((sX (a3).toNatClampNeg) &&& 63) = 11 then fL_law_657 sL sX (fL_law_18 sL sX n) a3 μ else (if ((sX (a3).toNatClampNeg) &&& 63) = 12 then fL_law_720 sL sX (fL_law_18 sL sX n) a3 μ else (if ((sX (a3).toNatClampNeg) &&& 63) = 13 then fL_law_795 sL sX (fL_law_18 sL sX n) a3 μ else (if ((sX (a3).toNatClampNeg) &&& 63) = 14 then fL_law_828 sL sX (fL_law_18 sL sX n) a3 μ else (if ((sX (a3).toNatClampNeg) &&& 63) = 15 then fL_law_881 sL sX (fL_law_18 sL sX n) a3 μ else (if ((sX (a3).toNatClampNeg) &&& 63) = 16 then fL_law_924 sL sX (fL_law_18 sL sX n) a3 μ else (if ((sX (a3).toNatClampNeg) &&& 63) = 17 then fL_law_977 sL sX (fL_law_18 sL sX n) a3 μ else (if ((sX (a3).toNatClampNeg) &&& 63) = 18 then fL_law_1020 sL sX (fL_law_18 sL sX n) a3 μ else (if ((sX (a3).toNatClampNeg) &&& 63) = 19 then fL_law_1073 sL sX (fL_law_18 sL sX n) a3 μ else (if ((sX (a3).toNatClampNeg) &&& 63) = 20 then fL_law_1106 sL sX (fL_law_18 sL sX n) a3 μ else (if ((sX (a3).toNatClampNeg) &&& 63) = 21 then fL_law_1165 sL sX (fL_law_18 sL sX n) a3 μ else (if ((sX (a3).toNatClampNeg) &&& 63) = 22 then fL_law_1198 sL sX (fL_law_18 sL sX n) a3 μ else (if ((sX (a3).toNatClampNeg) &&& 63) = 23 then fL_law_1277 sL sX (fL_law_18 sL sX n) a3 μ else (if ((sX (a3).toNatClampNeg) &&& 63) = 24 then fL_law_1310 sL sX (fL_law_18 sL sX n) a3 μ else (if ((sX (a3).toNatClampNeg) &&& 63) = 25 then fL_law_1363 sL sX (fL_law_18 sL sX n) a3 μ else (if ((sX (a3).toNatClampNeg) &&& 63) = 26 then fL_law_1386 sL sX (fL_law_18 sL sX n) a3 μ else (if ((sX (a3).toNatClampNeg) &&& 63) = 27 then fL_law_1419 sL sX (fL_law_18 sL sX n) a3 μ else (if ((sX (a3).toNatClampNeg) &&& 63) = 28 then fL_law_1452 sL sX (fL_law_18 sL sX n) a3 μ else (if ((sX (a3).toNatClampNeg) &&& 63) = 29 then fL_law_1465 sL sX (fL_law_18 sL sX n) a3 μ else (if ((sX (a3).toNatClampNeg) &&& 63) = 30 then fL_law_1478 sL sX (fL_law_18 sL sX n) a3 μ else (if ((sX (a3).toNatClampNeg) &&& 63) = 31 then fL_law_1511 sL sX (fL_law_18 sL sX n) a3 μ else (if ((sX (a3).toNatClampNeg) &&& 63) = 32 then fL_law_1534 sL sX (fL_law_18 sL sX n) a3 μ else (if ((sX (a3).toNatClampNeg) &&& 63) = 33 then fL_law_1567 sL sX (fL_law_18 sL sX n) a3 μ else (if ((sX (a3).toNatClampNeg) &&& 63) = 34 then fL_law_1636 sL sX (fL_law_18 sL sX n) a3 μ else (if ((sX (a3).toNatClampNeg) &&& 63) = 35 then fL_law_1669 sL sX (fL_law_18 sL sX n) a3 μ else (if ((sX (a3).toNatClampNeg) &&& 63) = 36 then fL_law_1702 sL sX (fL_law_18 sL sX n) a3 μ else fL_law_1725 sL sX (fL_law_18 sL sX n) a3 μ))))))))))))))))))))))))))))))))))))) else none))
set_option maxRecDepth 20000 in
set_option maxHeartbeats 1000000 in
theorem e_fL_law_1725 {sL : Nat} {sX : Nat → Int32} (d : Nat) {k18 : Int32 → am_Mu → Option (Int32 × am_Mu)} (hk18 : ∀ {a3 : Int32} {μ : am_Mu} {out : Int32 × am_Mu}, k18 a3 μ = some out → am_Ex (some (sL, sX)) (d + 37) 243 18 [.ref am_SCR, .ref 0, .ref 108, .int a3] [] am_SH μ (some (.int out.1), am_SH, out.2)) : ∀ {a3 : Int32} {μ : am_Mu} {out : Int32 × am_Mu}, fL_law_1725 sL sX k18 a3 μ = some out → am_Ex (some (sL, sX)) (d + 37) 243 1725 [.ref am_SCR, .ref 0, .ref 108, .int a3] [] am_SH μ (some (.int out.1), am_SH, out.2) := by
  intro a3 μ out h
  unfold fL_law_1725 at h
  refine am_Ex.seg 1 1728 [.ref am_SCR, .ref 0, .ref 108, .int (a3 + 7)] [] μ (fun _ => rfl) ?_
  refine am_Ex.goto rfl ?_
  exact hk18 h
set_option maxRecDepth 20000 in
set_option maxHeartbeats 1000000 in
theorem e_fL_law_196 {sL : Nat} {sX : Nat → Int32} (d : Nat) {k18 : Int32 → am_Mu → Option (Int32 × am_Mu)} (hk18 : ∀ {a3 : Int32} {μ : am_Mu} {out : Int32 × am_Mu}, k18 a3 μ = some out → am_Ex (some (sL, sX)) (d + 37) 243 18 [.ref am_SCR, .ref 0, .ref 108, .int a3] [] am_SH μ (some (.int out.1), am_SH, out.2)) : ∀ {a3 : Int32} {μ : am_Mu} {out : Int32 × am_Mu}, fL_law_196 sL sX k18 a3 μ = some out → am_Ex (some (sL, sX)) (d + 37) 243 196 [.ref am_SCR, .ref 0, .ref 108, .int a3] [] am_SH μ (some (.int out.1), am_SH, out.2) := by
  intro a3 μ out h
  unfold fL_law_196 at h
  refine am_Ex.seg 5 201 [.ref am_SCR, .ref 0, .ref 108, .int a3] [.int (a3 + 1), .ref am_SCR, .ref 0] μ (fun _ => rfl) ?_
  obtain ⟨q1, h⟩ := am_bif h
  refine am_Ex.sld rfl q1 ?_
  obtain ⟨q2, h_q2, h⟩ := am_bind h
  refine am_Ex.ivk (na := 2) (b := 0) (As' := [.int (sX ((a3 + 1)).toNatClampNeg)]) rfl rfl rfl rfl rfl rfl rfl rfl rfl (e_fB_now (d + 34) h_q2) ?_
  refine am_Ex.same 205 [.ref am_SCR, .ref 0, .ref 108, .int a3] [.int q2.1] q2.2 rfl ?_
  refine am_Ex.seg 5 210 [.ref am_SCR, .ref 0, .ref 108, .int a3] [.int (a3 + 1), .ref am_SCR, .ref 108, .int q2.1] q2.2 (fun _ => rfl) ?_
  obtain ⟨q3, h⟩ := am_bif h
  refine am_Ex.sld rfl q3 ?_
  obtain ⟨q4, h_q4, h⟩ := am_bind h
  refine am_Ex.ivk (na := 2) (b := 108) (As' := [.int (sX ((a3 + 1)).toNatClampNeg)]) rfl rfl rfl rfl rfl rfl rfl rfl rfl (e_fM_now (d + 35) h_q4) ?_
  refine am_Ex.same 214 [.ref am_SCR, .ref 0, .ref 108, .int a3] [.int q4.1, .int q2.1] q4.2 rfl ?_
  rcases am_ite h with ⟨q5, h⟩ | ⟨q5, h⟩
  · refine am_Ex.icmp_eq_t rfl q5 ?_
    exact e_fL_law_1725 d hk18 h
  · refine am_Ex.icmp_eq_f rfl q5 ?_
    refine am_Ex.seg 1 218 [.ref am_SCR, .ref 0, .ref 108, .int a3] [.int 0] q4.2 (fun _ => rfl) ?_
    cases h
    exact am_Ex.zret rfl rfl (by decide)
set_option maxRecDepth 20000 in
set_option maxHeartbeats 1000000 in
theorem e_fL_law_219 {sL : Nat} {sX : Nat → Int32} (d : Nat) {k18 : Int32 → am_Mu → Option (Int32 × am_Mu)} (hk18 : ∀ {a3 : Int32} {μ : am_Mu} {out : Int32 × am_Mu}, k18 a3 μ = some out → am_Ex (some (sL, sX)) (d + 37) 243 18 [.ref am_SCR, .ref 0, .ref 108, .int a3] [] am_SH μ (some (.int out.1), am_SH, out.2)) : ∀ {a3 : Int32} {μ : am_Mu} {out : Int32 × am_Mu}, fL_law_219 sL sX k18 a3 μ = some out → am_Ex (some (sL, sX)) (d + 37) 243 219 [.ref am_SCR, .ref 0, .ref 108, .int a3] [] am_SH μ (some (.int out.1), am_SH, out.2) := by
  intro a3 μ out h
  unfold fL_law_219 at h
  refine am_Ex.seg 5 224 [.ref am_SCR, .ref 0, .ref 108, .int a3] [.int (a3 + 1), .ref am_SCR, .ref 0] μ (fun _ => rfl) ?_
  obtain ⟨q1, h⟩ := am_bif h
  refine am_Ex.sld rfl q1 ?_
  refine am_Ex.seg 4 229 [.ref am_SCR, .ref 0, .ref 108, .int a3] [.int (a3 + 2), .ref am_SCR, .int (sX ((a3 + 1)).toNatClampNeg), .ref 0] μ (fun _ => rfl) ?_
  obtain ⟨q2, h⟩ := am_bif h
  refine am_Ex.sld rfl q2 ?_
  refine am_Ex.seg 4 234 [.ref am_SCR, .ref 0, .ref 108, .int a3] [.int (a3 + 3), .ref am_SCR, .int (sX ((a3 + 2)).toNatClampNeg), .int (sX ((a3 + 1)).toNatClampNeg), .ref 0] μ (fun _ => rfl) ?_
  obtain ⟨q3, h⟩ := am_bif h
  refine am_Ex.sld rfl q3 ?_
  obtain ⟨q4, h_q4, h⟩ := am_bind h
  refine am_Ex.ivk (na := 4) (b := 0) (As' := [.int (sX ((a3 + 1)).toNatClampNeg), .int (sX ((a3 + 2)).toNatClampNeg), .int (sX ((a3 + 3)).toNatClampNeg)]) rfl rfl rfl rfl rfl rfl rfl rfl rfl (e_fB_feast (d + 34) h_q4) ?_
  refine am_Ex.same 238 [.ref am_SCR, .ref 0, .ref 108, .int a3] [.int q4.1] q4.2 rfl ?_
  refine am_Ex.seg 5 243 [.ref am_SCR, .ref 0, .ref 108, .int a3] [.int (a3 + 1), .ref am_SCR, .ref 108, .int q4.1] q4.2 (fun _ => rfl) ?_
  obtain ⟨q5, h⟩ := am_bif h
  refine am_Ex.sld rfl q5 ?_
  refine am_Ex.seg 4 248 [.ref am_SCR, .ref 0, .ref 108, .int a3] [.int (a3 + 2), .ref am_SCR, .int (sX ((a3 + 1)).toNatClampNeg), .ref 108, .int q4.1] q4.2 (fun _ => rfl) ?_
  obtain ⟨q6, h⟩ := am_bif h
  refine am_Ex.sld rfl q6 ?_
  refine am_Ex.seg 4 253 [.ref am_SCR, .ref 0, .ref 108, .int a3] [.int (a3 + 3), .ref am_SCR, .int (sX ((a3 + 2)).toNatClampNeg), .int (sX ((a3 + 1)).toNatClampNeg), .ref 108, .int q4.1] q4.2 (fun _ => rfl) ?_
  obtain ⟨q7, h⟩ := am_bif h
  refine am_Ex.sld rfl q7 ?_
  obtain ⟨q8, h_q8, h⟩ := am_bind h
  refine am_Ex.ivk (na := 4) (b := 108) (As' := [.int (sX ((a3 + 1)).toNatClampNeg), .int (sX ((a3 + 2)).toNatClampNeg), .int (sX ((a3 + 3)).toNatClampNeg)]) rfl rfl rfl rfl rfl rfl rfl rfl rfl (e_fM_feast (d + 35) h_q8) ?_
  refine am_Ex.same 257 [.ref am_SCR, .ref 0, .ref 108, .int a3] [.int q8.1, .int q4.1] q8.2 rfl ?_
  rcases am_ite h with ⟨q9, h⟩ | ⟨q9, h⟩
  · refine am_Ex.icmp_eq_t rfl q9 ?_
    exact e_fL_law_1725 d hk18 h
  · refine am_Ex.icmp_eq_f rfl q9 ?_
    refine am_Ex.seg 1 261 [.ref am_SCR, .ref 0, .ref 108, .int a3] [.int 0] q8.2 (fun _ => rfl) ?_
    cases h
    exact am_Ex.zret rfl rfl (by decide)
set_option maxRecDepth 20000 in
set_option maxHeartbeats 1000000 in
theorem e_fL_law_262 {sL : Nat} {sX : Nat → Int32} (d : Nat) {k18 : Int32 → am_Mu → Option (Int32 × am_Mu)} (hk18 : ∀ {a3 : Int32} {μ : am_Mu} {out : Int32 × am_Mu}, k18 a3 μ = some out → am_Ex (some (sL, sX)) (d + 37) 243 18 [.ref am_SCR, .ref 0, .ref 108, .int a3] [] am_SH μ (some (.int out.1), am_SH, out.2)) : ∀ {a3 : Int32} {μ : am_Mu} {out : Int32 × am_Mu}, fL_law_262 sL sX k18 a3 μ = some out → am_Ex (some (sL, sX)) (d + 37) 243 262 [.ref am_SCR, .ref 0, .ref 108, .int a3] [] am_SH μ (some (.int out.1), am_SH, out.2) := by
  intro a3 μ out h
  unfold fL_law_262 at h
  refine am_Ex.seg 5 267 [.ref am_SCR, .ref 0, .ref 108, .int a3] [.int (a3 + 1), .ref am_SCR, .ref 0] μ (fun _ => rfl) ?_
  obtain ⟨q1, h⟩ := am_bif h
  refine am_Ex.sld rfl q1 ?_
  obtain ⟨q2, h_q2, h⟩ := am_bind h
  refine am_Ex.ivk (na := 2) (b := 0) (As' := [.int (sX ((a3 + 1)).toNatClampNeg)]) rfl rfl rfl rfl rfl rfl rfl rfl rfl (e_fB_isFeast (d + 33) h_q2) ?_
  refine am_Ex.same 271 [.ref am_SCR, .ref 0, .ref 108, .int a3] [.int q2.1] q2.2 rfl ?_
  refine am_Ex.seg 5 276 [.ref am_SCR, .ref 0, .ref 108, .int a3] [.int (a3 + 1), .ref am_SCR, .ref 108, .int q2.1] q2.2 (fun _ => rfl) ?_
  obtain ⟨q3, h⟩ := am_bif h
  refine am_Ex.sld rfl q3 ?_
  obtain ⟨q4, h_q4, h⟩ := am_bind h
  refine am_Ex.ivk (na := 2) (b := 108) (As' := [.int (sX ((a3 + 1)).toNatClampNeg)]) rfl rfl rfl rfl rfl rfl rfl rfl rfl (e_fM_isFeast (d + 33) h_q4) ?_
  refine am_Ex.same 280 [.ref am_SCR, .ref 0, .ref 108, .int a3] [.int q4.1, .int q2.1] q4.2 rfl ?_
  rcases am_ite h with ⟨q5, h⟩ | ⟨q5, h⟩
  · refine am_Ex.icmp_eq_t rfl q5 ?_
    exact e_fL_law_1725 d hk18 h
  · refine am_Ex.icmp_eq_f rfl q5 ?_
    refine am_Ex.seg 1 284 [.ref am_SCR, .ref 0, .ref 108, .int a3] [.int 0] q4.2 (fun _ => rfl) ?_
    cases h
    exact am_Ex.zret rfl rfl (by decide)
set_option maxRecDepth 20000 in
set_option maxHeartbeats 1000000 in
theorem e_fL_law_285 {sL : Nat} {sX : Nat → Int32} (d : Nat) {k18 : Int32 → am_Mu → Option (Int32 × am_Mu)} (hk18 : ∀ {a3 : Int32} {μ : am_Mu} {out : Int32 × am_Mu}, k18 a3 μ = some out → am_Ex (some (sL, sX)) (d + 37) 243 18 [.ref am_SCR, .ref 0, .ref 108, .int a3] [] am_SH μ (some (.int out.1), am_SH, out.2)) : ∀ {a3 : Int32} {μ : am_Mu} {out : Int32 × am_Mu}, fL_law_285 sL sX k18 a3 μ = some out → am_Ex (some (sL, sX)) (d + 37) 243 285 [.ref am_SCR, .ref 0, .ref 108, .int a3] [] am_SH μ (some (.int out.1), am_SH, out.2) := by
  intro a3 μ out h
  unfold fL_law_285 at h
  refine am_Ex.seg 5 290 [.ref am_SCR, .ref 0, .ref 108, .int a3] [.int (a3 + 1), .ref am_SCR, .ref 0] μ (fun _ => rfl) ?_
  obtain ⟨q1, h⟩ := am_bif h
  refine am_Ex.sld rfl q1 ?_
  refine am_Ex.seg 4 295 [.ref am_SCR, .ref 0, .ref 108, .int a3] [.int (a3 + 2), .ref am_SCR, .int (sX ((a3 + 1)).toNatClampNeg), .ref 0] μ (fun _ => rfl) ?_
  obtain ⟨q2, h⟩ := am_bif h
  refine am_Ex.sld rfl q2 ?_
  obtain ⟨q3, h_q3, h⟩ := am_bind h
  refine am_Ex.ivk (na := 3) (b := 0) (As' := [.int (sX ((a3 + 1)).toNatClampNeg), .int (sX ((a3 + 2)).toNatClampNeg)]) rfl rfl rfl rfl rfl rfl rfl rfl rfl (e_fB_moon (d + 34) h_q3) ?_
  refine am_Ex.same 299 [.ref am_SCR, .ref 0, .ref 108, .int a3] [.int q3.1] q3.2 rfl ?_
  refine am_Ex.seg 5 304 [.ref am_SCR, .ref 0, .ref 108, .int a3] [.int (a3 + 1), .ref am_SCR, .ref 108, .int q3.1] q3.2 (fun _ => rfl) ?_
  obtain ⟨q4, h⟩ := am_bif h
  refine am_Ex.sld rfl q4 ?_
  refine am_Ex.seg 4 309 [.ref am_SCR, .ref 0, .ref 108, .int a3] [.int (a3 + 2), .ref am_SCR, .int (sX ((a3 + 1)).toNatClampNeg), .ref 108, .int q3.1] q3.2 (fun _ => rfl) ?_
  obtain ⟨q5, h⟩ := am_bif h
  refine am_Ex.sld rfl q5 ?_
  obtain ⟨q6, h_q6, h⟩ := am_bind h
  refine am_Ex.ivk (na := 3) (b := 108) (As' := [.int (sX ((a3 + 1)).toNatClampNeg), .int (sX ((a3 + 2)).toNatClampNeg)]) rfl rfl rfl rfl rfl rfl rfl rfl rfl (e_fM_moon (d + 34) h_q6) ?_
  refine am_Ex.same 313 [.ref am_SCR, .ref 0, .ref 108, .int a3] [.int q6.1, .int q3.1] q6.2 rfl ?_
  rcases am_ite h with ⟨q7, h⟩ | ⟨q7, h⟩
  · refine am_Ex.icmp_eq_t rfl q7 ?_
    exact e_fL_law_1725 d hk18 h
  · refine am_Ex.icmp_eq_f rfl q7 ?_
    refine am_Ex.seg 1 317 [.ref am_SCR, .ref 0, .ref 108, .int a3] [.int 0] q6.2 (fun _ => rfl) ?_
    cases h
    exact am_Ex.zret rfl rfl (by decide)
set_option maxRecDepth 20000 in
set_option maxHeartbeats 1000000 in
theorem e_fL_law_318 {sL : Nat} {sX : Nat → Int32} (d : Nat) {k18 : Int32 → am_Mu → Option (Int32 × am_Mu)} (hk18 : ∀ {a3 : Int32} {μ : am_Mu} {out : Int32 × am_Mu}, k18 a3 μ = some out → am_Ex (some (sL, sX)) (d + 37) 243 18 [.ref am_SCR, .ref 0, .ref 108, .int a3] [] am_SH μ (some (.int out.1), am_SH, out.2)) : ∀ {a3 : Int32} {μ : am_Mu} {out : Int32 × am_Mu}, fL_law_318 sL sX k18 a3 μ = some out → am_Ex (some (sL, sX)) (d + 37) 243 318 [.ref am_SCR, .ref 0, .ref 108, .int a3] [] am_SH μ (some (.int out.1), am_SH, out.2) := by
  intro a3 μ out h
  unfold fL_law_318 at h
  refine am_Ex.seg 5 323 [.ref am_SCR, .ref 0, .ref 108, .int a3] [.int (a3 + 1), .ref am_SCR, .ref 0] μ (fun _ => rfl) ?_
  obtain ⟨q1, h⟩ := am_bif h
  refine am_Ex.sld rfl q1 ?_
  refine am_Ex.seg 4 328 [.ref am_SCR, .ref 0, .ref 108, .int a3] [.int (a3 + 2), .ref am_SCR, .int (sX ((a3 + 1)).toNatClampNeg), .ref 0] μ (fun _ => rfl) ?_
  obtain ⟨q2, h⟩ := am_bif h
  refine am_Ex.sld rfl q2 ?_
  refine am_Ex.seg 4 333 [.ref am_SCR, .ref 0, .ref 108, .int a3] [.int (a3 + 3), .ref am_SCR, .int (sX ((a3 + 2)).toNatClampNeg), .int (sX ((a3 + 1)).toNatClampNeg), .ref 0] μ (fun _ => rfl) ?_
  obtain ⟨q3, h⟩ := am_bif h
  refine am_Ex.sld rfl q3 ?_
  refine am_Ex.seg 4 338 [.ref am_SCR, .ref 0, .ref 108, .int a3] [.int (a3 + 4), .ref am_SCR, .int (sX ((a3 + 3)).toNatClampNeg), .int (sX ((a3 + 2)).toNatClampNeg), .int (sX ((a3 + 1)).toNatClampNeg), .ref 0] μ (fun _ => rfl) ?_
  obtain ⟨q4, h⟩ := am_bif h
  refine am_Ex.sld rfl q4 ?_
  refine am_Ex.seg 4 343 [.ref am_SCR, .ref 0, .ref 108, .int a3] [.int (a3 + 5), .ref am_SCR, .int (sX ((a3 + 4)).toNatClampNeg), .int (sX ((a3 + 3)).toNatClampNeg), .int (sX ((a3 + 2)).toNatClampNeg), .int (sX ((a3 + 1)).toNatClampNeg), .ref 0] μ (fun _ => rfl) ?_
  obtain ⟨q5, h⟩ := am_bif h
  refine am_Ex.sld rfl q5 ?_
  obtain ⟨q6, h_q6, h⟩ := am_bind h
  refine am_Ex.ivk (na := 6) (b := 0) (As' := [.int (sX ((a3 + 1)).toNatClampNeg), .int (sX ((a3 + 2)).toNatClampNeg), .int (sX ((a3 + 3)).toNatClampNeg), .int (sX ((a3 + 4)).toNatClampNeg), .int (sX ((a3 + 5)).toNatClampNeg)]) rfl rfl rfl rfl rfl rfl rfl rfl rfl (e_fB_feed (d + 34) h_q6) ?_
  refine am_Ex.same 347 [.ref am_SCR, .ref 0, .ref 108, .int a3] [.int q6.1] q6.2 rfl ?_
  refine am_Ex.seg 5 352 [.ref am_SCR, .ref 0, .ref 108, .int a3] [.int (a3 + 1), .ref am_SCR, .ref 108, .int q6.1] q6.2 (fun _ => rfl) ?_
  obtain ⟨q7, h⟩ := am_bif h
  refine am_Ex.sld rfl q7 ?_
  refine am_Ex.seg 4 357 [.ref am_SCR, .ref 0, .ref 108, .int a3] [.int (a3 + 2), .ref am_SCR, .int (sX ((a3 + 1)).toNatClampNeg), .ref 108, .int q6.1] q6.2 (fun _ => rfl) ?_
  obtain ⟨q8, h⟩ := am_bif h
  refine am_Ex.sld rfl q8 ?_
  refine am_Ex.seg 4 362 [.ref am_SCR, .ref 0, .ref 108, .int a3] [.int (a3 + 3), .ref am_SCR, .int (sX ((a3 + 2)).toNatClampNeg), .int (sX ((a3 + 1)).toNatClampNeg), .ref 108, .int q6.1] q6.2 (fun _ => rfl) ?_
  obtain ⟨q9, h⟩ := am_bif h
  refine am_Ex.sld rfl q9 ?_
  refine am_Ex.seg 4 367 [.ref am_SCR, .ref 0, .ref 108, .int a3] [.int (a3 + 4), .ref am_SCR, .int (sX ((a3 + 3)).toNatClampNeg), .int (sX ((a3 + 2)).toNatClampNeg), .int (sX ((a3 + 1)).toNatClampNeg), .ref 108, .int q6.1] q6.2 (fun _ => rfl) ?_
  obtain ⟨q10, h⟩ := am_bif h
  refine am_Ex.sld rfl q10 ?_
  refine am_Ex.seg 4 372 [.ref am_SCR, .ref 0, .ref 108, .int a3] [.int (a3 + 5), .ref am_SCR, .int (sX ((a3 + 4)).toNatClampNeg), .int (sX ((a3 + 3)).toNatClampNeg), .int (sX ((a3 + 2)).toNatClampNeg), .int (sX ((a3 + 1)).toNatClampNeg), .ref 108, .int q6.1] q6.2 (fun _ => rfl) ?_
  obtain ⟨q11, h⟩ := am_bif h
  refine am_Ex.sld rfl q11 ?_
  obtain ⟨q12, h_q12, h⟩ := am_bind h
  refine am_Ex.ivk (na := 6) (b := 108) (As' := [.int (sX ((a3 + 1)).toNatClampNeg), .int (sX ((a3 + 2)).toNatClampNeg), .int (sX ((a3 + 3)).toNatClampNeg), .int (sX ((a3 + 4)).toNatClampNeg), .int (sX ((a3 + 5)).toNatClampNeg)]) rfl rfl rfl rfl rfl rfl rfl rfl rfl (e_fM_feed (d + 35) h_q12) ?_
  refine am_Ex.same 376 [.ref am_SCR, .ref 0, .ref 108, .int a3] [.int q12.1, .int q6.1] q12.2 rfl ?_
  rcases am_ite h with ⟨q13, h⟩ | ⟨q13, h⟩
  · refine am_Ex.icmp_eq_t rfl q13 ?_
    exact e_fL_law_1725 d hk18 h
  · refine am_Ex.icmp_eq_f rfl q13 ?_
    refine am_Ex.seg 1 380 [.ref am_SCR, .ref 0, .ref 108, .int a3] [.int 0] q12.2 (fun _ => rfl) ?_
    cases h
    exact am_Ex.zret rfl rfl (by decide)
set_option maxRecDepth 20000 in
set_option maxHeartbeats 1000000 in
theorem e_fL_law_427 {sL : Nat} {sX : Nat → Int32} (d : Nat) {k18 : Int32 → am_Mu → Option (Int32 × am_Mu)} (hk18 : ∀ {a3 : Int32} {μ : am_Mu} {out : Int32 × am_Mu}, k18 a3 μ = some out → am_Ex (some (sL, sX)) (d + 37) 243 18 [.ref am_SCR, .ref 0, .ref 108, .int a3] [] am_SH μ (some (.int out.1), am_SH, out.2)) : ∀ {a3 : Int32} {s0 : Int32} {s2 : Int32} {s3 : Int32} {μ : am_Mu} {out : Int32 × am_Mu}, fL_law_427 sL sX k18 a3 s0 s2 s3 μ = some out → am_Ex (some (sL, sX)) (d + 37) 243 427 [.ref am_SCR, .ref 0, .ref 108, .int a3] [.int s3, .int s2, .ref 108, .int s0] am_SH μ (some (.int out.1), am_SH, out.2) := by
  intro a3 s0 s2 s3 μ out h
  unfold fL_law_427 at h
  refine am_Ex.seg 4 431 [.ref am_SCR, .ref 0, .ref 108, .int a3] [.int (a3 + 3), .ref am_SCR, .int s3, .int s2, .ref 108, .int s0] μ (fun _ => rfl) ?_
  obtain ⟨q1, h⟩ := am_bif h
  refine am_Ex.sld rfl q1 ?_
  obtain ⟨q2, h_q2, h⟩ := am_bind h
  refine am_Ex.ivk (na := 4) (b := 108) (As' := [.int s2, .int s3, .int (sX ((a3 + 3)).toNatClampNeg)]) rfl rfl rfl rfl rfl rfl rfl rfl rfl (e_fM_law (d + 30) h_q2) ?_
  refine am_Ex.same 435 [.ref am_SCR, .ref 0, .ref 108, .int a3] [.int q2.1, .int s0] q2.2 rfl ?_
  rcases am_ite h with ⟨q3, h⟩ | ⟨q3, h⟩
  · refine am_Ex.icmp_eq_t rfl q3 ?_
    exact e_fL_law_1725 d hk18 h
  · refine am_Ex.icmp_eq_f rfl q3 ?_
    refine am_Ex.seg 1 439 [.ref am_SCR, .ref 0, .ref 108, .int a3] [.int 0] q2.2 (fun _ => rfl) ?_
    cases h
    exact am_Ex.zret rfl rfl (by decide)
set_option maxRecDepth 20000 in
set_option maxHeartbeats 1000000 in
theorem e_fL_law_400 {sL : Nat} {sX : Nat → Int32} (d : Nat) {k18 : Int32 → am_Mu → Option (Int32 × am_Mu)} (hk18 : ∀ {a3 : Int32} {μ : am_Mu} {out : Int32 × am_Mu}, k18 a3 μ = some out → am_Ex (some (sL, sX)) (d + 37) 243 18 [.ref am_SCR, .ref 0, .ref 108, .int a3] [] am_SH μ (some (.int out.1), am_SH, out.2)) : ∀ {a3 : Int32} {s1 : Int32} {s2 : Int32} {μ : am_Mu} {out : Int32 × am_Mu}, fL_law_400 sL sX k18 a3 s1 s2 μ = some out → am_Ex (some (sL, sX)) (d + 37) 243 400 [.ref am_SCR, .ref 0, .ref 108, .int a3] [.int s2, .int s1, .ref 0] am_SH μ (some (.int out.1), am_SH, out.2) := by
  intro a3 s1 s2 μ out h
  unfold fL_law_400 at h
  refine am_Ex.seg 4 404 [.ref am_SCR, .ref 0, .ref 108, .int a3] [.int (a3 + 3), .ref am_SCR, .int s2, .int s1, .ref 0] μ (fun _ => rfl) ?_
  obtain ⟨q1, h⟩ := am_bif h
  refine am_Ex.sld rfl q1 ?_
  obtain ⟨q2, h_q2, h⟩ := am_bind h
  refine am_Ex.ivk (na := 4) (b := 0) (As' := [.int s1, .int s2, .int (sX ((a3 + 3)).toNatClampNeg)]) rfl rfl rfl rfl rfl rfl rfl rfl rfl (e_fB_law (d + 0) h_q2) ?_
  refine am_Ex.same 408 [.ref am_SCR, .ref 0, .ref 108, .int a3] [.int q2.1] q2.2 rfl ?_
  refine am_Ex.seg 5 413 [.ref am_SCR, .ref 0, .ref 108, .int a3] [.int (a3 + 1), .ref am_SCR, .ref 108, .int q2.1] q2.2 (fun _ => rfl) ?_
  obtain ⟨q3, h⟩ := am_bif h
  refine am_Ex.sld rfl q3 ?_
  refine am_Ex.seg 4 418 [.ref am_SCR, .ref 0, .ref 108, .int a3] [.int (a3 + 2), .ref am_SCR, .int (sX ((a3 + 1)).toNatClampNeg), .ref 108, .int q2.1] q2.2 (fun _ => rfl) ?_
  obtain ⟨q4, h⟩ := am_bif h
  refine am_Ex.sld rfl q4 ?_
  rcases am_ite h with ⟨q5, h⟩ | ⟨q5, h⟩
  · refine am_Ex.if_eq_t rfl q5 ?_
    refine am_Ex.seg 1 427 [.ref am_SCR, .ref 0, .ref 108, .int a3] [.int 0, .int (sX ((a3 + 1)).toNatClampNeg), .ref 108, .int q2.1] q2.2 (fun _ => rfl) ?_
    exact e_fL_law_427 d hk18 h
  · refine am_Ex.if_eq_f rfl q5 ?_
    refine am_Ex.seg 1 423 [.ref am_SCR, .ref 0, .ref 108, .int a3] [.int 1, .int (sX ((a3 + 1)).toNatClampNeg), .ref 108, .int q2.1] q2.2 (fun _ => rfl) ?_
    refine am_Ex.goto rfl ?_
    exact e_fL_law_427 d hk18 h
set_option maxRecDepth 20000 in
set_option maxHeartbeats 1000000 in
theorem e_fL_law_381 {sL : Nat} {sX : Nat → Int32} (d : Nat) {k18 : Int32 → am_Mu → Option (Int32 × am_Mu)} (hk18 : ∀ {a3 : Int32} {μ : am_Mu} {out : Int32 × am_Mu}, k18 a3 μ = some out → am_Ex (some (sL, sX)) (d + 37) 243 18 [.ref am_SCR, .ref 0, .ref 108, .int a3] [] am_SH μ (some (.int out.1), am_SH, out.2)) : ∀ {a3 : Int32} {μ : am_Mu} {out : Int32 × am_Mu}, fL_law_381 sL sX k18 a3 μ = some out → am_Ex (some (sL, sX)) (d + 37) 243 381 [.ref am_SCR, .ref 0, .ref 108, .int a3] [] am_SH μ (some (.int out.1), am_SH, out.2) := by
  intro a3 μ out h
  unfold fL_law_381 at h
  refine am_Ex.seg 5 386 [.ref am_SCR, .ref 0, .ref 108, .int a3] [.int (a3 + 1), .ref am_SCR, .ref 0] μ (fun _ => rfl) ?_
  obtain ⟨q1, h⟩ := am_bif h
  refine am_Ex.sld rfl q1 ?_
  refine am_Ex.seg 4 391 [.ref am_SCR, .ref 0, .ref 108, .int a3] [.int (a3 + 2), .ref am_SCR, .int (sX ((a3 + 1)).toNatClampNeg), .ref 0] μ (fun _ => rfl) ?_
  obtain ⟨q2, h⟩ := am_bif h
  refine am_Ex.sld rfl q2 ?_
  rcases am_ite h with ⟨q3, h⟩ | ⟨q3, h⟩
  · refine am_Ex.if_eq_t rfl q3 ?_
    refine am_Ex.seg 1 400 [.ref am_SCR, .ref 0, .ref 108, .int a3] [.int 0, .int (sX ((a3 + 1)).toNatClampNeg), .ref 0] μ (fun _ => rfl) ?_
    exact e_fL_law_400 d hk18 h
  · refine am_Ex.if_eq_f rfl q3 ?_
    refine am_Ex.seg 1 396 [.ref am_SCR, .ref 0, .ref 108, .int a3] [.int 1, .int (sX ((a3 + 1)).toNatClampNeg), .ref 0] μ (fun _ => rfl) ?_
    refine am_Ex.goto rfl ?_
    exact e_fL_law_400 d hk18 h
set_option maxRecDepth 20000 in
set_option maxHeartbeats 1000000 in
theorem e_fL_law_481 {sL : Nat} {sX : Nat → Int32} (d : Nat) {k18 : Int32 → am_Mu → Option (Int32 × am_Mu)} (hk18 : ∀ {a3 : Int32} {μ : am_Mu} {out : Int32 × am_Mu}, k18 a3 μ = some out → am_Ex (some (sL, sX)) (d + 37) 243 18 [.ref am_SCR, .ref 0, .ref 108, .int a3] [] am_SH μ (some (.int out.1), am_SH, out.2)) : ∀ {a3 : Int32} {s0 : Int32} {s2 : Int32} {s3 : Int32} {μ : am_Mu} {out : Int32 × am_Mu}, fL_law_481 sL sX k18 a3 s0 s2 s3 μ = some out → am_Ex (some (sL, sX)) (d + 37) 243 481 [.ref am_SCR, .ref 0, .ref 108, .int a3] [.int s3, .int s2, .ref 108, .int s0] am_SH μ (some (.int out.1), am_SH, out.2) := by
  intro a3 s0 s2 s3 μ out h
  unfold fL_law_481 at h
  obtain ⟨q1, h_q1, h⟩ := am_bind h
  refine am_Ex.ivk (na := 3) (b := 108) (As' := [.int s2, .int s3]) rfl rfl rfl rfl rfl rfl rfl rfl rfl (e_fM_rules (d + 35) h_q1) ?_
  refine am_Ex.same 484 [.ref am_SCR, .ref 0, .ref 108, .int a3] [.int q1.1, .int s0] q1.2 rfl ?_
  rcases am_ite h with ⟨q2, h⟩ | ⟨q2, h⟩
  · refine am_Ex.icmp_eq_t rfl q2 ?_
    exact e_fL_law_1725 d hk18 h
  · refine am_Ex.icmp_eq_f rfl q2 ?_
    refine am_Ex.seg 1 488 [.ref am_SCR, .ref 0, .ref 108, .int a3] [.int 0] q1.2 (fun _ => rfl) ?_
    cases h
    exact am_Ex.zret rfl rfl (by decide)
set_option maxRecDepth 20000 in
set_option maxHeartbeats 1000000 in
theorem e_fL_law_459 {sL : Nat} {sX : Nat → Int32} (d : Nat) {k18 : Int32 → am_Mu → Option (Int32 × am_Mu)} (hk18 : ∀ {a3 : Int32} {μ : am_Mu} {out : Int32 × am_Mu}, k18 a3 μ = some out → am_Ex (some (sL, sX)) (d + 37) 243 18 [.ref am_SCR, .ref 0, .ref 108, .int a3] [] am_SH μ (some (.int out.1), am_SH, out.2)) : ∀ {a3 : Int32} {s1 : Int32} {s2 : Int32} {μ : am_Mu} {out : Int32 × am_Mu}, fL_law_459 sL sX k18 a3 s1 s2 μ = some out → am_Ex (some (sL, sX)) (d + 37) 243 459 [.ref am_SCR, .ref 0, .ref 108, .int a3] [.int s2, .int s1, .ref 0] am_SH μ (some (.int out.1), am_SH, out.2) := by
  intro a3 s1 s2 μ out h
  unfold fL_law_459 at h
  obtain ⟨q1, h_q1, h⟩ := am_bind h
  refine am_Ex.ivk (na := 3) (b := 0) (As' := [.int s1, .int s2]) rfl rfl rfl rfl rfl rfl rfl rfl rfl (e_fB_rules (d + 35) h_q1) ?_
  refine am_Ex.same 462 [.ref am_SCR, .ref 0, .ref 108, .int a3] [.int q1.1] q1.2 rfl ?_
  refine am_Ex.seg 5 467 [.ref am_SCR, .ref 0, .ref 108, .int a3] [.int (a3 + 1), .ref am_SCR, .ref 108, .int q1.1] q1.2 (fun _ => rfl) ?_
  obtain ⟨q2, h⟩ := am_bif h
  refine am_Ex.sld rfl q2 ?_
  refine am_Ex.seg 4 472 [.ref am_SCR, .ref 0, .ref 108, .int a3] [.int (a3 + 2), .ref am_SCR, .int (sX ((a3 + 1)).toNatClampNeg), .ref 108, .int q1.1] q1.2 (fun _ => rfl) ?_
  obtain ⟨q3, h⟩ := am_bif h
  refine am_Ex.sld rfl q3 ?_
  rcases am_ite h with ⟨q4, h⟩ | ⟨q4, h⟩
  · refine am_Ex.if_eq_t rfl q4 ?_
    refine am_Ex.seg 1 481 [.ref am_SCR, .ref 0, .ref 108, .int a3] [.int 0, .int (sX ((a3 + 1)).toNatClampNeg), .ref 108, .int q1.1] q1.2 (fun _ => rfl) ?_
    exact e_fL_law_481 d hk18 h
  · refine am_Ex.if_eq_f rfl q4 ?_
    refine am_Ex.seg 1 477 [.ref am_SCR, .ref 0, .ref 108, .int a3] [.int 1, .int (sX ((a3 + 1)).toNatClampNeg), .ref 108, .int q1.1] q1.2 (fun _ => rfl) ?_
    refine am_Ex.goto rfl ?_
    exact e_fL_law_481 d hk18 h
set_option maxRecDepth 20000 in
set_option maxHeartbeats 1000000 in
theorem e_fL_law_440 {sL : Nat} {sX : Nat → Int32} (d : Nat) {k18 : Int32 → am_Mu → Option (Int32 × am_Mu)} (hk18 : ∀ {a3 : Int32} {μ : am_Mu} {out : Int32 × am_Mu}, k18 a3 μ = some out → am_Ex (some (sL, sX)) (d + 37) 243 18 [.ref am_SCR, .ref 0, .ref 108, .int a3] [] am_SH μ (some (.int out.1), am_SH, out.2)) : ∀ {a3 : Int32} {μ : am_Mu} {out : Int32 × am_Mu}, fL_law_440 sL sX k18 a3 μ = some out → am_Ex (some (sL, sX)) (d + 37) 243 440 [.ref am_SCR, .ref 0, .ref 108, .int a3] [] am_SH μ (some (.int out.1), am_SH, out.2) := by
  intro a3 μ out h
  unfold fL_law_440 at h
  refine am_Ex.seg 5 445 [.ref am_SCR, .ref 0, .ref 108, .int a3] [.int (a3 + 1), .ref am_SCR, .ref 0] μ (fun _ => rfl) ?_
  obtain ⟨q1, h⟩ := am_bif h
  refine am_Ex.sld rfl q1 ?_
  refine am_Ex.seg 4 450 [.ref am_SCR, .ref 0, .ref 108, .int a3] [.int (a3 + 2), .ref am_SCR, .int (sX ((a3 + 1)).toNatClampNeg), .ref 0] μ (fun _ => rfl) ?_
  obtain ⟨q2, h⟩ := am_bif h
  refine am_Ex.sld rfl q2 ?_
  rcases am_ite h with ⟨q3, h⟩ | ⟨q3, h⟩
  · refine am_Ex.if_eq_t rfl q3 ?_
    refine am_Ex.seg 1 459 [.ref am_SCR, .ref 0, .ref 108, .int a3] [.int 0, .int (sX ((a3 + 1)).toNatClampNeg), .ref 0] μ (fun _ => rfl) ?_
    exact e_fL_law_459 d hk18 h
  · refine am_Ex.if_eq_f rfl q3 ?_
    refine am_Ex.seg 1 455 [.ref am_SCR, .ref 0, .ref 108, .int a3] [.int 1, .int (sX ((a3 + 1)).toNatClampNeg), .ref 0] μ (fun _ => rfl) ?_
    refine am_Ex.goto rfl ?_
    exact e_fL_law_459 d hk18 h
set_option maxRecDepth 20000 in
set_option maxHeartbeats 1000000 in
theorem e_fL_law_489 {sL : Nat} {sX : Nat → Int32} (d : Nat) {k18 : Int32 → am_Mu → Option (Int32 × am_Mu)} (hk18 : ∀ {a3 : Int32} {μ : am_Mu} {out : Int32 × am_Mu}, k18 a3 μ = some out → am_Ex (some (sL, sX)) (d + 37) 243 18 [.ref am_SCR, .ref 0, .ref 108, .int a3] [] am_SH μ (some (.int out.1), am_SH, out.2)) : ∀ {a3 : Int32} {μ : am_Mu} {out : Int32 × am_Mu}, fL_law_489 sL sX k18 a3 μ = some out → am_Ex (some (sL, sX)) (d + 37) 243 489 [.ref am_SCR, .ref 0, .ref 108, .int a3] [] am_SH μ (some (.int out.1), am_SH, out.2) := by
  intro a3 μ out h
  unfold fL_law_489 at h
  refine am_Ex.seg 5 494 [.ref am_SCR, .ref 0, .ref 108, .int a3] [.int (a3 + 1), .ref am_SCR, .ref 0] μ (fun _ => rfl) ?_
  obtain ⟨q1, h⟩ := am_bif h
  refine am_Ex.sld rfl q1 ?_
  obtain ⟨q2, h_q2, h⟩ := am_bind h
  refine am_Ex.ivk (na := 2) (b := 0) (As' := [.int (sX ((a3 + 1)).toNatClampNeg)]) rfl rfl rfl rfl rfl rfl rfl rfl rfl (e_fB_thing (d + 34) h_q2) ?_
  refine am_Ex.same 498 [.ref am_SCR, .ref 0, .ref 108, .int a3] [.int q2.1] q2.2 rfl ?_
  refine am_Ex.seg 5 503 [.ref am_SCR, .ref 0, .ref 108, .int a3] [.int (a3 + 1), .ref am_SCR, .ref 108, .int q2.1] q2.2 (fun _ => rfl) ?_
  obtain ⟨q3, h⟩ := am_bif h
  refine am_Ex.sld rfl q3 ?_
  obtain ⟨q4, h_q4, h⟩ := am_bind h
  refine am_Ex.ivk (na := 2) (b := 108) (As' := [.int (sX ((a3 + 1)).toNatClampNeg)]) rfl rfl rfl rfl rfl rfl rfl rfl rfl (e_fM_thing (d + 35) h_q4) ?_
  refine am_Ex.same 507 [.ref am_SCR, .ref 0, .ref 108, .int a3] [.int q4.1, .int q2.1] q4.2 rfl ?_
  rcases am_ite h with ⟨q5, h⟩ | ⟨q5, h⟩
  · refine am_Ex.icmp_eq_t rfl q5 ?_
    exact e_fL_law_1725 d hk18 h
  · refine am_Ex.icmp_eq_f rfl q5 ?_
    refine am_Ex.seg 1 511 [.ref am_SCR, .ref 0, .ref 108, .int a3] [.int 0] q4.2 (fun _ => rfl) ?_
    cases h
    exact am_Ex.zret rfl rfl (by decide)
set_option maxRecDepth 20000 in
set_option maxHeartbeats 1000000 in
theorem e_fL_law_583 {sL : Nat} {sX : Nat → Int32} (d : Nat) {k18 : Int32 → am_Mu → Option (Int32 × am_Mu)} (hk18 : ∀ {a3 : Int32} {μ : am_Mu} {out : Int32 × am_Mu}, k18 a3 μ = some out → am_Ex (some (sL, sX)) (d + 37) 243 18 [.ref am_SCR, .ref 0, .ref 108, .int a3] [] am_SH μ (some (.int out.1), am_SH, out.2)) : ∀ {a3 : Int32} {s0 : Int32} {s2 : Int32} {s3 : Int32} {s4 : Int32} {s5 : Int32} {s6 : Int32} {μ : am_Mu} {out : Int32 × am_Mu}, fL_law_583 sL sX k18 a3 s0 s2 s3 s4 s5 s6 μ = some out → am_Ex (some (sL, sX)) (d + 37) 243 583 [.ref am_SCR, .ref 0, .ref 108, .int a3] [.int s6, .int s5, .int s4, .int s3, .int s2, .ref 108, .int s0] am_SH μ (some (.int out.1), am_SH, out.2) := by
  intro a3 s0 s2 s3 s4 s5 s6 μ out h
  unfold fL_law_583 at h
  obtain ⟨q1, h_q1, h⟩ := am_bind h
  refine am_Ex.ivk (na := 6) (b := 108) (As' := [.int s2, .int s3, .int s4, .int s5, .int s6]) rfl rfl rfl rfl rfl rfl rfl rfl rfl (e_fM_act (d + 33) h_q1) ?_
  refine am_Ex.same 586 [.ref am_SCR, .ref 0, .ref 108, .int a3] [.int q1.1, .int s0] q1.2 rfl ?_
  rcases am_ite h with ⟨q2, h⟩ | ⟨q2, h⟩
  · refine am_Ex.icmp_eq_t rfl q2 ?_
    exact e_fL_law_1725 d hk18 h
  · refine am_Ex.icmp_eq_f rfl q2 ?_
    refine am_Ex.seg 1 590 [.ref am_SCR, .ref 0, .ref 108, .int a3] [.int 0] q1.2 (fun _ => rfl) ?_
    cases h
    exact am_Ex.zret rfl rfl (by decide)
set_option maxRecDepth 20000 in
set_option maxHeartbeats 1000000 in
theorem e_fL_law_546 {sL : Nat} {sX : Nat → Int32} (d : Nat) {k18 : Int32 → am_Mu → Option (Int32 × am_Mu)} (hk18 : ∀ {a3 : Int32} {μ : am_Mu} {out : Int32 × am_Mu}, k18 a3 μ = some out → am_Ex (some (sL, sX)) (d + 37) 243 18 [.ref am_SCR, .ref 0, .ref 108, .int a3] [] am_SH μ (some (.int out.1), am_SH, out.2)) : ∀ {a3 : Int32} {s1 : Int32} {s2 : Int32} {s3 : Int32} {s4 : Int32} {s5 : Int32} {μ : am_Mu} {out : Int32 × am_Mu}, fL_law_546 sL sX k18 a3 s1 s2 s3 s4 s5 μ = some out → am_Ex (some (sL, sX)) (d + 37) 243 546 [.ref am_SCR, .ref 0, .ref 108, .int a3] [.int s5, .int s4, .int s3, .int s2, .int s1, .ref 0] am_SH μ (some (.int out.1), am_SH, out.2) := by
  intro a3 s1 s2 s3 s4 s5 μ out h
  unfold fL_law_546 at h
  obtain ⟨q1, h_q1, h⟩ := am_bind h
  refine am_Ex.ivk (na := 6) (b := 0) (As' := [.int s1, .int s2, .int s3, .int s4, .int s5]) rfl rfl rfl rfl rfl rfl rfl rfl rfl (e_fB_act (d + 31) h_q1) ?_
  refine am_Ex.same 549 [.ref am_SCR, .ref 0, .ref 108, .int a3] [.int q1.1] q1.2 rfl ?_
  refine am_Ex.seg 5 554 [.ref am_SCR, .ref 0, .ref 108, .int a3] [.int (a3 + 1), .ref am_SCR, .ref 108, .int q1.1] q1.2 (fun _ => rfl) ?_
  obtain ⟨q2, h⟩ := am_bif h
  refine am_Ex.sld rfl q2 ?_
  refine am_Ex.seg 4 559 [.ref am_SCR, .ref 0, .ref 108, .int a3] [.int (a3 + 2), .ref am_SCR, .int (sX ((a3 + 1)).toNatClampNeg), .ref 108, .int q1.1] q1.2 (fun _ => rfl) ?_
  obtain ⟨q3, h⟩ := am_bif h
  refine am_Ex.sld rfl q3 ?_
  refine am_Ex.seg 4 564 [.ref am_SCR, .ref 0, .ref 108, .int a3] [.int (a3 + 3), .ref am_SCR, .int (sX ((a3 + 2)).toNatClampNeg), .int (sX ((a3 + 1)).toNatClampNeg), .ref 108, .int q1.1] q1.2 (fun _ => rfl) ?_
  obtain ⟨q4, h⟩ := am_bif h
  refine am_Ex.sld rfl q4 ?_
  refine am_Ex.seg 4 569 [.ref am_SCR, .ref 0, .ref 108, .int a3] [.int (a3 + 4), .ref am_SCR, .int (sX ((a3 + 3)).toNatClampNeg), .int (sX ((a3 + 2)).toNatClampNeg), .int (sX ((a3 + 1)).toNatClampNeg), .ref 108, .int q1.1] q1.2 (fun _ => rfl) ?_
  obtain ⟨q5, h⟩ := am_bif h
  refine am_Ex.sld rfl q5 ?_
  refine am_Ex.seg 4 574 [.ref am_SCR, .ref 0, .ref 108, .int a3] [.int (a3 + 5), .ref am_SCR, .int (sX ((a3 + 4)).toNatClampNeg), .int (sX ((a3 + 3)).toNatClampNeg), .int (sX ((a3 + 2)).toNatClampNeg), .int (sX ((a3 + 1)).toNatClampNeg), .ref 108, .int q1.1] q1.2 (fun _ => rfl) ?_
  obtain ⟨q6, h⟩ := am_bif h
  refine am_Ex.sld rfl q6 ?_
  rcases am_ite h with ⟨q7, h⟩ | ⟨q7, h⟩
  · refine am_Ex.if_eq_t rfl q7 ?_
    refine am_Ex.seg 1 583 [.ref am_SCR, .ref 0, .ref 108, .int a3] [.int 0, .int (sX ((a3 + 4)).toNatClampNeg), .int (sX ((a3 + 3)).toNatClampNeg), .int (sX ((a3 + 2)).toNatClampNeg), .int (sX ((a3 + 1)).toNatClampNeg), .ref 108, .int q1.1] q1.2 (fun _ => rfl) ?_
    exact e_fL_law_583 d hk18 h
  · refine am_Ex.if_eq_f rfl q7 ?_
    refine am_Ex.seg 1 579 [.ref am_SCR, .ref 0, .ref 108, .int a3] [.int 1, .int (sX ((a3 + 4)).toNatClampNeg), .int (sX ((a3 + 3)).toNatClampNeg), .int (sX ((a3 + 2)).toNatClampNeg), .int (sX ((a3 + 1)).toNatClampNeg), .ref 108, .int q1.1] q1.2 (fun _ => rfl) ?_
    refine am_Ex.goto rfl ?_
    exact e_fL_law_583 d hk18 h
set_option maxRecDepth 20000 in
set_option maxHeartbeats 1000000 in
theorem e_fL_law_512 {sL : Nat} {sX : Nat → Int32} (d : Nat) {k18 : Int32 → am_Mu → Option (Int32 × am_Mu)} (hk18 : ∀ {a3 : Int32} {μ : am_Mu} {out : Int32 × am_Mu}, k18 a3 μ = some out → am_Ex (some (sL, sX)) (d + 37) 243 18 [.ref am_SCR, .ref 0, .ref 108, .int a3] [] am_SH μ (some (.int out.1), am_SH, out.2)) : ∀ {a3 : Int32} {μ : am_Mu} {out : Int32 × am_Mu}, fL_law_512 sL sX k18 a3 μ = some out → am_Ex (some (sL, sX)) (d + 37) 243 512 [.ref am_SCR, .ref 0, .ref 108, .int a3] [] am_SH μ (some (.int out.1), am_SH, out.2) := by
  intro a3 μ out h
  unfold fL_law_512 at h
  refine am_Ex.seg 5 517 [.ref am_SCR, .ref 0, .ref 108, .int a3] [.int (a3 + 1), .ref am_SCR, .ref 0] μ (fun _ => rfl) ?_
  obtain ⟨q1, h⟩ := am_bif h
  refine am_Ex.sld rfl q1 ?_
  refine am_Ex.seg 4 522 [.ref am_SCR, .ref 0, .ref 108, .int a3] [.int (a3 + 2), .ref am_SCR, .int (sX ((a3 + 1)).toNatClampNeg), .ref 0] μ (fun _ => rfl) ?_
  obtain ⟨q2, h⟩ := am_bif h
  refine am_Ex.sld rfl q2 ?_
  refine am_Ex.seg 4 527 [.ref am_SCR, .ref 0, .ref 108, .int a3] [.int (a3 + 3), .ref am_SCR, .int (sX ((a3 + 2)).toNatClampNeg), .int (sX ((a3 + 1)).toNatClampNeg), .ref 0] μ (fun _ => rfl) ?_
  obtain ⟨q3, h⟩ := am_bif h
  refine am_Ex.sld rfl q3 ?_
  refine am_Ex.seg 4 532 [.ref am_SCR, .ref 0, .ref 108, .int a3] [.int (a3 + 4), .ref am_SCR, .int (sX ((a3 + 3)).toNatClampNeg), .int (sX ((a3 + 2)).toNatClampNeg), .int (sX ((a3 + 1)).toNatClampNeg), .ref 0] μ (fun _ => rfl) ?_
  obtain ⟨q4, h⟩ := am_bif h
  refine am_Ex.sld rfl q4 ?_
  refine am_Ex.seg 4 537 [.ref am_SCR, .ref 0, .ref 108, .int a3] [.int (a3 + 5), .ref am_SCR, .int (sX ((a3 + 4)).toNatClampNeg), .int (sX ((a3 + 3)).toNatClampNeg), .int (sX ((a3 + 2)).toNatClampNeg), .int (sX ((a3 + 1)).toNatClampNeg), .ref 0] μ (fun _ => rfl) ?_
  obtain ⟨q5, h⟩ := am_bif h
  refine am_Ex.sld rfl q5 ?_
  rcases am_ite h with ⟨q6, h⟩ | ⟨q6, h⟩
  · refine am_Ex.if_eq_t rfl q6 ?_
    refine am_Ex.seg 1 546 [.ref am_SCR, .ref 0, .ref 108, .int a3] [.int 0, .int (sX ((a3 + 4)).toNatClampNeg), .int (sX ((a3 + 3)).toNatClampNeg), .int (sX ((a3 + 2)).toNatClampNeg), .int (sX ((a3 + 1)).toNatClampNeg), .ref 0] μ (fun _ => rfl) ?_
    exact e_fL_law_546 d hk18 h
  · refine am_Ex.if_eq_f rfl q6 ?_
    refine am_Ex.seg 1 542 [.ref am_SCR, .ref 0, .ref 108, .int a3] [.int 1, .int (sX ((a3 + 4)).toNatClampNeg), .int (sX ((a3 + 3)).toNatClampNeg), .int (sX ((a3 + 2)).toNatClampNeg), .int (sX ((a3 + 1)).toNatClampNeg), .ref 0] μ (fun _ => rfl) ?_
    refine am_Ex.goto rfl ?_
    exact e_fL_law_546 d hk18 h
set_option maxRecDepth 20000 in
set_option maxHeartbeats 1000000 in
theorem e_fL_law_591 {sL : Nat} {sX : Nat → Int32} (d : Nat) {k18 : Int32 → am_Mu → Option (Int32 × am_Mu)} (hk18 : ∀ {a3 : Int32} {μ : am_Mu} {out : Int32 × am_Mu}, k18 a3 μ = some out → am_Ex (some (sL, sX)) (d + 37) 243 18 [.ref am_SCR, .ref 0, .ref 108, .int a3] [] am_SH μ (some (.int out.1), am_SH, out.2)) : ∀ {a3 : Int32} {μ : am_Mu} {out : Int32 × am_Mu}, fL_law_591 sL sX k18 a3 μ = some out → am_Ex (some (sL, sX)) (d + 37) 243 591 [.ref am_SCR, .ref 0, .ref 108, .int a3] [] am_SH μ (some (.int out.1), am_SH, out.2) := by
  intro a3 μ out h
  unfold fL_law_591 at h
  refine am_Ex.seg 5 596 [.ref am_SCR, .ref 0, .ref 108, .int a3] [.int (a3 + 1), .ref am_SCR, .ref 0] μ (fun _ => rfl) ?_
  obtain ⟨q1, h⟩ := am_bif h
  refine am_Ex.sld rfl q1 ?_
  obtain ⟨q2, h_q2, h⟩ := am_bind h
  refine am_Ex.ivk (na := 2) (b := 0) (As' := [.int (sX ((a3 + 1)).toNatClampNeg)]) rfl rfl rfl rfl rfl rfl rfl rfl rfl (e_fB_strike (d + 34) h_q2) ?_
  refine am_Ex.same 600 [.ref am_SCR, .ref 0, .ref 108, .int a3] [.int q2.1] q2.2 rfl ?_
  refine am_Ex.seg 5 605 [.ref am_SCR, .ref 0, .ref 108, .int a3] [.int (a3 + 1), .ref am_SCR, .ref 108, .int q2.1] q2.2 (fun _ => rfl) ?_
  obtain ⟨q3, h⟩ := am_bif h
  refine am_Ex.sld rfl q3 ?_
  obtain ⟨q4, h_q4, h⟩ := am_bind h
  refine am_Ex.ivk (na := 2) (b := 108) (As' := [.int (sX ((a3 + 1)).toNatClampNeg)]) rfl rfl rfl rfl rfl rfl rfl rfl rfl (e_fM_strike (d + 35) h_q4) ?_
  refine am_Ex.same 609 [.ref am_SCR, .ref 0, .ref 108, .int a3] [.int q4.1, .int q2.1] q4.2 rfl ?_
  rcases am_ite h with ⟨q5, h⟩ | ⟨q5, h⟩
  · refine am_Ex.icmp_eq_t rfl q5 ?_
    exact e_fL_law_1725 d hk18 h
  · refine am_Ex.icmp_eq_f rfl q5 ?_
    refine am_Ex.seg 1 613 [.ref am_SCR, .ref 0, .ref 108, .int a3] [.int 0] q4.2 (fun _ => rfl) ?_
    cases h
    exact am_Ex.zret rfl rfl (by decide)
set_option maxRecDepth 20000 in
set_option maxHeartbeats 1000000 in
theorem e_fL_law_614 {sL : Nat} {sX : Nat → Int32} (d : Nat) {k18 : Int32 → am_Mu → Option (Int32 × am_Mu)} (hk18 : ∀ {a3 : Int32} {μ : am_Mu} {out : Int32 × am_Mu}, k18 a3 μ = some out → am_Ex (some (sL, sX)) (d + 37) 243 18 [.ref am_SCR, .ref 0, .ref 108, .int a3] [] am_SH μ (some (.int out.1), am_SH, out.2)) : ∀ {a3 : Int32} {μ : am_Mu} {out : Int32 × am_Mu}, fL_law_614 sL sX k18 a3 μ = some out → am_Ex (some (sL, sX)) (d + 37) 243 614 [.ref am_SCR, .ref 0, .ref 108, .int a3] [] am_SH μ (some (.int out.1), am_SH, out.2) := by
  intro a3 μ out h
  unfold fL_law_614 at h
  refine am_Ex.seg 5 619 [.ref am_SCR, .ref 0, .ref 108, .int a3] [.int (a3 + 1), .ref am_SCR, .ref 0] μ (fun _ => rfl) ?_
  obtain ⟨q1, h⟩ := am_bif h
  refine am_Ex.sld rfl q1 ?_
  refine am_Ex.seg 4 624 [.ref am_SCR, .ref 0, .ref 108, .int a3] [.int (a3 + 2), .ref am_SCR, .int (sX ((a3 + 1)).toNatClampNeg), .ref 0] μ (fun _ => rfl) ?_
  obtain ⟨q2, h⟩ := am_bif h
  refine am_Ex.sld rfl q2 ?_
  refine am_Ex.seg 4 629 [.ref am_SCR, .ref 0, .ref 108, .int a3] [.int (a3 + 3), .ref am_SCR, .int (sX ((a3 + 2)).toNatClampNeg), .int (sX ((a3 + 1)).toNatClampNeg), .ref 0] μ (fun _ => rfl) ?_
  obtain ⟨q3, h⟩ := am_bif h
  refine am_Ex.sld rfl q3 ?_
  obtain ⟨q4, h_q4, h⟩ := am_bind h
  refine am_Ex.ivk (na := 4) (b := 0) (As' := [.int (sX ((a3 + 1)).toNatClampNeg), .int (sX ((a3 + 2)).toNatClampNeg), .int (sX ((a3 + 3)).toNatClampNeg)]) rfl rfl rfl rfl rfl rfl rfl rfl rfl (e_fB_mistake (d + 31) h_q4) ?_
  refine am_Ex.same 633 [.ref am_SCR, .ref 0, .ref 108, .int a3] [.int q4.1] q4.2 rfl ?_
  refine am_Ex.seg 5 638 [.ref am_SCR, .ref 0, .ref 108, .int a3] [.int (a3 + 1), .ref am_SCR, .ref 108, .int q4.1] q4.2 (fun _ => rfl) ?_
  obtain ⟨q5, h⟩ := am_bif h
  refine am_Ex.sld rfl q5 ?_
  refine am_Ex.seg 4 643 [.ref am_SCR, .ref 0, .ref 108, .int a3] [.int (a3 + 2), .ref am_SCR, .int (sX ((a3 + 1)).toNatClampNeg), .ref 108, .int q4.1] q4.2 (fun _ => rfl) ?_
  obtain ⟨q6, h⟩ := am_bif h
  refine am_Ex.sld rfl q6 ?_
  refine am_Ex.seg 4 648 [.ref am_SCR, .ref 0, .ref 108, .int a3] [.int (a3 + 3), .ref am_SCR, .int (sX ((a3 + 2)).toNatClampNeg), .int (sX ((a3 + 1)).toNatClampNeg), .ref 108, .int q4.1] q4.2 (fun _ => rfl) ?_
  obtain ⟨q7, h⟩ := am_bif h
  refine am_Ex.sld rfl q7 ?_
  obtain ⟨q8, h_q8, h⟩ := am_bind h
  refine am_Ex.ivk (na := 4) (b := 108) (As' := [.int (sX ((a3 + 1)).toNatClampNeg), .int (sX ((a3 + 2)).toNatClampNeg), .int (sX ((a3 + 3)).toNatClampNeg)]) rfl rfl rfl rfl rfl rfl rfl rfl rfl (e_fM_mistake (d + 33) h_q8) ?_
  refine am_Ex.same 652 [.ref am_SCR, .ref 0, .ref 108, .int a3] [.int q8.1, .int q4.1] q8.2 rfl ?_
  rcases am_ite h with ⟨q9, h⟩ | ⟨q9, h⟩
  · refine am_Ex.icmp_eq_t rfl q9 ?_
    exact e_fL_law_1725 d hk18 h
  · refine am_Ex.icmp_eq_f rfl q9 ?_
    refine am_Ex.seg 1 656 [.ref am_SCR, .ref 0, .ref 108, .int a3] [.int 0] q8.2 (fun _ => rfl) ?_
    cases h
    exact am_Ex.zret rfl rfl (by decide)
set_option maxRecDepth 20000 in
set_option maxHeartbeats 1000000 in
theorem e_fL_law_657 {sL : Nat} {sX : Nat → Int32} (d : Nat) {k18 : Int32 → am_Mu → Option (Int32 × am_Mu)} (hk18 : ∀ {a3 : Int32} {μ : am_Mu} {out : Int32 × am_Mu}, k18 a3 μ = some out → am_Ex (some (sL, sX)) (d + 37) 243 18 [.ref am_SCR, .ref 0, .ref 108, .int a3] [] am_SH μ (some (.int out.1), am_SH, out.2)) : ∀ {a3 : Int32} {μ : am_Mu} {out : Int32 × am_Mu}, fL_law_657 sL sX k18 a3 μ = some out → am_Ex (some (sL, sX)) (d + 37) 243 657 [.ref am_SCR, .ref 0, .ref 108, .int a3] [] am_SH μ (some (.int out.1), am_SH, out.2) := by
  intro a3 μ out h
  unfold fL_law_657 at h
  refine am_Ex.seg 5 662 [.ref am_SCR, .ref 0, .ref 108, .int a3] [.int (a3 + 1), .ref am_SCR, .ref 0] μ (fun _ => rfl) ?_
  obtain ⟨q1, h⟩ := am_bif h
  refine am_Ex.sld rfl q1 ?_
  refine am_Ex.seg 4 667 [.ref am_SCR, .ref 0, .ref 108, .int a3] [.int (a3 + 2), .ref am_SCR, .int (sX ((a3 + 1)).toNatClampNeg), .ref 0] μ (fun _ => rfl) ?_
  obtain ⟨q2, h⟩ := am_bif h
  refine am_Ex.sld rfl q2 ?_
  refine am_Ex.seg 4 672 [.ref am_SCR, .ref 0, .ref 108, .int a3] [.int (a3 + 3), .ref am_SCR, .int (sX ((a3 + 2)).toNatClampNeg), .int (sX ((a3 + 1)).toNatClampNeg), .ref 0] μ (fun _ => rfl) ?_
  obtain ⟨q3, h⟩ := am_bif h
  refine am_Ex.sld rfl q3 ?_
  refine am_Ex.seg 4 677 [.ref am_SCR, .ref 0, .ref 108, .int a3] [.int (a3 + 4), .ref am_SCR, .int (sX ((a3 + 3)).toNatClampNeg), .int (sX ((a3 + 2)).toNatClampNeg), .int (sX ((a3 + 1)).toNatClampNeg), .ref 0] μ (fun _ => rfl) ?_
  obtain ⟨q4, h⟩ := am_bif h
  refine am_Ex.sld rfl q4 ?_
  refine am_Ex.seg 4 682 [.ref am_SCR, .ref 0, .ref 108, .int a3] [.int (a3 + 5), .ref am_SCR, .int (sX ((a3 + 4)).toNatClampNeg), .int (sX ((a3 + 3)).toNatClampNeg), .int (sX ((a3 + 2)).toNatClampNeg), .int (sX ((a3 + 1)).toNatClampNeg), .ref 0] μ (fun _ => rfl) ?_
  obtain ⟨q5, h⟩ := am_bif h
  refine am_Ex.sld rfl q5 ?_
  obtain ⟨q6, h_q6, h⟩ := am_bind h
  refine am_Ex.ivk (na := 6) (b := 0) (As' := [.int (sX ((a3 + 1)).toNatClampNeg), .int (sX ((a3 + 2)).toNatClampNeg), .int (sX ((a3 + 3)).toNatClampNeg), .int (sX ((a3 + 4)).toNatClampNeg), .int (sX ((a3 + 5)).toNatClampNeg)]) rfl rfl rfl rfl rfl rfl rfl rfl rfl (e_fB_mark (d + 30) h_q6) ?_
  refine am_Ex.same 686 [.ref am_SCR, .ref 0, .ref 108, .int a3] [.int q6.1] q6.2 rfl ?_
  refine am_Ex.seg 5 691 [.ref am_SCR, .ref 0, .ref 108, .int a3] [.int (a3 + 1), .ref am_SCR, .ref 108, .int q6.1] q6.2 (fun _ => rfl) ?_
  obtain ⟨q7, h⟩ := am_bif h
  refine am_Ex.sld rfl q7 ?_
  refine am_Ex.seg 4 696 [.ref am_SCR, .ref 0, .ref 108, .int a3] [.int (a3 + 2), .ref am_SCR, .int (sX ((a3 + 1)).toNatClampNeg), .ref 108, .int q6.1] q6.2 (fun _ => rfl) ?_
  obtain ⟨q8, h⟩ := am_bif h
  refine am_Ex.sld rfl q8 ?_
  refine am_Ex.seg 4 701 [.ref am_SCR, .ref 0, .ref 108, .int a3] [.int (a3 + 3), .ref am_SCR, .int (sX ((a3 + 2)).toNatClampNeg), .int (sX ((a3 + 1)).toNatClampNeg), .ref 108, .int q6.1] q6.2 (fun _ => rfl) ?_
  obtain ⟨q9, h⟩ := am_bif h
  refine am_Ex.sld rfl q9 ?_
  refine am_Ex.seg 4 706 [.ref am_SCR, .ref 0, .ref 108, .int a3] [.int (a3 + 4), .ref am_SCR, .int (sX ((a3 + 3)).toNatClampNeg), .int (sX ((a3 + 2)).toNatClampNeg), .int (sX ((a3 + 1)).toNatClampNeg), .ref 108, .int q6.1] q6.2 (fun _ => rfl) ?_
  obtain ⟨q10, h⟩ := am_bif h
  refine am_Ex.sld rfl q10 ?_
  refine am_Ex.seg 4 711 [.ref am_SCR, .ref 0, .ref 108, .int a3] [.int (a3 + 5), .ref am_SCR, .int (sX ((a3 + 4)).toNatClampNeg), .int (sX ((a3 + 3)).toNatClampNeg), .int (sX ((a3 + 2)).toNatClampNeg), .int (sX ((a3 + 1)).toNatClampNeg), .ref 108, .int q6.1] q6.2 (fun _ => rfl) ?_
  obtain ⟨q11, h⟩ := am_bif h
  refine am_Ex.sld rfl q11 ?_
  obtain ⟨q12, h_q12, h⟩ := am_bind h
  refine am_Ex.ivk (na := 6) (b := 108) (As' := [.int (sX ((a3 + 1)).toNatClampNeg), .int (sX ((a3 + 2)).toNatClampNeg), .int (sX ((a3 + 3)).toNatClampNeg), .int (sX ((a3 + 4)).toNatClampNeg), .int (sX ((a3 + 5)).toNatClampNeg)]) rfl rfl rfl rfl rfl rfl rfl rfl rfl (e_fM_mark (d + 29) h_q12) ?_
  refine am_Ex.same 715 [.ref am_SCR, .ref 0, .ref 108, .int a3] [.int q12.1, .int q6.1] q12.2 rfl ?_
  rcases am_ite h with ⟨q13, h⟩ | ⟨q13, h⟩
  · refine am_Ex.icmp_eq_t rfl q13 ?_
    exact e_fL_law_1725 d hk18 h
  · refine am_Ex.icmp_eq_f rfl q13 ?_
    refine am_Ex.seg 1 719 [.ref am_SCR, .ref 0, .ref 108, .int a3] [.int 0] q12.2 (fun _ => rfl) ?_
    cases h
    exact am_Ex.zret rfl rfl (by decide)
set_option maxRecDepth 20000 in
set_option maxHeartbeats 1000000 in
theorem e_fL_law_720 {sL : Nat} {sX : Nat → Int32} (d : Nat) {k18 : Int32 → am_Mu → Option (Int32 × am_Mu)} (hk18 : ∀ {a3 : Int32} {μ : am_Mu} {out : Int32 × am_Mu}, k18 a3 μ = some out → am_Ex (some (sL, sX)) (d + 37) 243 18 [.ref am_SCR, .ref 0, .ref 108, .int a3] [] am_SH μ (some (.int out.1), am_SH, out.2)) : ∀ {a3 : Int32} {μ : am_Mu} {out : Int32 × am_Mu}, fL_law_720 sL sX k18 a3 μ = some out → am_Ex (some (sL, sX)) (d + 37) 243 720 [.ref am_SCR, .ref 0, .ref 108, .int a3] [] am_SH μ (some (.int out.1), am_SH, out.2) := by
  intro a3 μ out h
  unfold fL_law_720 at h
  refine am_Ex.seg 5 725 [.ref am_SCR, .ref 0, .ref 108, .int a3] [.int (a3 + 1), .ref am_SCR, .ref 0] μ (fun _ => rfl) ?_
  obtain ⟨q1, h⟩ := am_bif h
  refine am_Ex.sld rfl q1 ?_
  refine am_Ex.seg 4 730 [.ref am_SCR, .ref 0, .ref 108, .int a3] [.int (a3 + 2), .ref am_SCR, .int (sX ((a3 + 1)).toNatClampNeg), .ref 0] μ (fun _ => rfl) ?_
  obtain ⟨q2, h⟩ := am_bif h
  refine am_Ex.sld rfl q2 ?_
  refine am_Ex.seg 4 735 [.ref am_SCR, .ref 0, .ref 108, .int a3] [.int (a3 + 3), .ref am_SCR, .int (sX ((a3 + 2)).toNatClampNeg), .int (sX ((a3 + 1)).toNatClampNeg), .ref 0] μ (fun _ => rfl) ?_
  obtain ⟨q3, h⟩ := am_bif h
  refine am_Ex.sld rfl q3 ?_
  refine am_Ex.seg 4 740 [.ref am_SCR, .ref 0, .ref 108, .int a3] [.int (a3 + 4), .ref am_SCR, .int (sX ((a3 + 3)).toNatClampNeg), .int (sX ((a3 + 2)).toNatClampNeg), .int (sX ((a3 + 1)).toNatClampNeg), .ref 0] μ (fun _ => rfl) ?_
  obtain ⟨q4, h⟩ := am_bif h
  refine am_Ex.sld rfl q4 ?_
  refine am_Ex.seg 4 745 [.ref am_SCR, .ref 0, .ref 108, .int a3] [.int (a3 + 5), .ref am_SCR, .int (sX ((a3 + 4)).toNatClampNeg), .int (sX ((a3 + 3)).toNatClampNeg), .int (sX ((a3 + 2)).toNatClampNeg), .int (sX ((a3 + 1)).toNatClampNeg), .ref 0] μ (fun _ => rfl) ?_
  obtain ⟨q5, h⟩ := am_bif h
  refine am_Ex.sld rfl q5 ?_
  refine am_Ex.seg 4 751 [.ref am_SCR, .ref 0, .ref 108, .int a3] [.int (a3 + 6), .ref am_SCR, .int (sX ((a3 + 5)).toNatClampNeg), .int (sX ((a3 + 4)).toNatClampNeg), .int (sX ((a3 + 3)).toNatClampNeg), .int (sX ((a3 + 2)).toNatClampNeg), .int (sX ((a3 + 1)).toNatClampNeg), .ref 0] μ (fun _ => rfl) ?_
  obtain ⟨q6, h⟩ := am_bif h
  refine am_Ex.sld rfl q6 ?_
  obtain ⟨q7, h_q7, h⟩ := am_bind h
  refine am_Ex.ivk (na := 7) (b := 0) (As' := [.int (sX ((a3 + 1)).toNatClampNeg), .int (sX ((a3 + 2)).toNatClampNeg), .int (sX ((a3 + 3)).toNatClampNeg), .int (sX ((a3 + 4)).toNatClampNeg), .int (sX ((a3 + 5)).toNatClampNeg), .int (sX ((a3 + 6)).toNatClampNeg)]) rfl rfl rfl rfl rfl rfl rfl rfl rfl (e_fB_since (d + 30) h_q7) ?_
  refine am_Ex.same 755 [.ref am_SCR, .ref 0, .ref 108, .int a3] [.int q7.1] q7.2 rfl ?_
  refine am_Ex.seg 5 760 [.ref am_SCR, .ref 0, .ref 108, .int a3] [.int (a3 + 1), .ref am_SCR, .ref 108, .int q7.1] q7.2 (fun _ => rfl) ?_
  obtain ⟨q8, h⟩ := am_bif h
  refine am_Ex.sld rfl q8 ?_
  refine am_Ex.seg 4 765 [.ref am_SCR, .ref 0, .ref 108, .int a3] [.int (a3 + 2), .ref am_SCR, .int (sX ((a3 + 1)).toNatClampNeg), .ref 108, .int q7.1] q7.2 (fun _ => rfl) ?_
  obtain ⟨q9, h⟩ := am_bif h
  refine am_Ex.sld rfl q9 ?_
  refine am_Ex.seg 4 770 [.ref am_SCR, .ref 0, .ref 108, .int a3] [.int (a3 + 3), .ref am_SCR, .int (sX ((a3 + 2)).toNatClampNeg), .int (sX ((a3 + 1)).toNatClampNeg), .ref 108, .int q7.1] q7.2 (fun _ => rfl) ?_
  obtain ⟨q10, h⟩ := am_bif h
  refine am_Ex.sld rfl q10 ?_
  refine am_Ex.seg 4 775 [.ref am_SCR, .ref 0, .ref 108, .int a3] [.int (a3 + 4), .ref am_SCR, .int (sX ((a3 + 3)).toNatClampNeg), .int (sX ((a3 + 2)).toNatClampNeg), .int (sX ((a3 + 1)).toNatClampNeg), .ref 108, .int q7.1] q7.2 (fun _ => rfl) ?_
  obtain ⟨q11, h⟩ := am_bif h
  refine am_Ex.sld rfl q11 ?_
  refine am_Ex.seg 4 780 [.ref am_SCR, .ref 0, .ref 108, .int a3] [.int (a3 + 5), .ref am_SCR, .int (sX ((a3 + 4)).toNatClampNeg), .int (sX ((a3 + 3)).toNatClampNeg), .int (sX ((a3 + 2)).toNatClampNeg), .int (sX ((a3 + 1)).toNatClampNeg), .ref 108, .int q7.1] q7.2 (fun _ => rfl) ?_
  obtain ⟨q12, h⟩ := am_bif h
  refine am_Ex.sld rfl q12 ?_
  refine am_Ex.seg 4 786 [.ref am_SCR, .ref 0, .ref 108, .int a3] [.int (a3 + 6), .ref am_SCR, .int (sX ((a3 + 5)).toNatClampNeg), .int (sX ((a3 + 4)).toNatClampNeg), .int (sX ((a3 + 3)).toNatClampNeg), .int (sX ((a3 + 2)).toNatClampNeg), .int (sX ((a3 + 1)).toNatClampNeg), .ref 108, .int q7.1] q7.2 (fun _ => rfl) ?_
  obtain ⟨q13, h⟩ := am_bif h
  refine am_Ex.sld rfl q13 ?_
  obtain ⟨q14, h_q14, h⟩ := am_bind h
  refine am_Ex.ivk (na := 7) (b := 108) (As' := [.int (sX ((a3 + 1)).toNatClampNeg), .int (sX ((a3 + 2)).toNatClampNeg), .int (sX ((a3 + 3)).toNatClampNeg), .int (sX ((a3 + 4)).toNatClampNeg), .int (sX ((a3 + 5)).toNatClampNeg), .int (sX ((a3 + 6)).toNatClampNeg)]) rfl rfl rfl rfl rfl rfl rfl rfl rfl (e_fM_since (d + 28) h_q14) ?_
  refine am_Ex.same 790 [.ref am_SCR, .ref 0, .ref 108, .int a3] [.int q14.1, .int q7.1] q14.2 rfl ?_
  rcases am_ite h with ⟨q15, h⟩ | ⟨q15, h⟩
  · refine am_Ex.icmp_eq_t rfl q15 ?_
    exact e_fL_law_1725 d hk18 h
  · refine am_Ex.icmp_eq_f rfl q15 ?_
    refine am_Ex.seg 1 794 [.ref am_SCR, .ref 0, .ref 108, .int a3] [.int 0] q14.2 (fun _ => rfl) ?_
    cases h
    exact am_Ex.zret rfl rfl (by decide)
set_option maxRecDepth 20000 in
set_option maxHeartbeats 1000000 in
theorem e_fL_law_795 {sL : Nat} {sX : Nat → Int32} (d : Nat) {k18 : Int32 → am_Mu → Option (Int32 × am_Mu)} (hk18 : ∀ {a3 : Int32} {μ : am_Mu} {out : Int32 × am_Mu}, k18 a3 μ = some out → am_Ex (some (sL, sX)) (d + 37) 243 18 [.ref am_SCR, .ref 0, .ref 108, .int a3] [] am_SH μ (some (.int out.1), am_SH, out.2)) : ∀ {a3 : Int32} {μ : am_Mu} {out : Int32 × am_Mu}, fL_law_795 sL sX k18 a3 μ = some out → am_Ex (some (sL, sX)) (d + 37) 243 795 [.ref am_SCR, .ref 0, .ref 108, .int a3] [] am_SH μ (some (.int out.1), am_SH, out.2) := by
  intro a3 μ out h
  unfold fL_law_795 at h
  refine am_Ex.seg 5 800 [.ref am_SCR, .ref 0, .ref 108, .int a3] [.int (a3 + 1), .ref am_SCR, .ref 0] μ (fun _ => rfl) ?_
  obtain ⟨q1, h⟩ := am_bif h
  refine am_Ex.sld rfl q1 ?_
  refine am_Ex.seg 4 805 [.ref am_SCR, .ref 0, .ref 108, .int a3] [.int (a3 + 2), .ref am_SCR, .int (sX ((a3 + 1)).toNatClampNeg), .ref 0] μ (fun _ => rfl) ?_
  obtain ⟨q2, h⟩ := am_bif h
  refine am_Ex.sld rfl q2 ?_
  obtain ⟨q3, h_q3, h⟩ := am_bind h
  refine am_Ex.ivk (na := 3) (b := 0) (As' := [.int (sX ((a3 + 1)).toNatClampNeg), .int (sX ((a3 + 2)).toNatClampNeg)]) rfl rfl rfl rfl rfl rfl rfl rfl rfl (e_fB_quarrel (d + 29) h_q3) ?_
  refine am_Ex.same 809 [.ref am_SCR, .ref 0, .ref 108, .int a3] [.int q3.1] q3.2 rfl ?_
  refine am_Ex.seg 5 814 [.ref am_SCR, .ref 0, .ref 108, .int a3] [.int (a3 + 1), .ref am_SCR, .ref 108, .int q3.1] q3.2 (fun _ => rfl) ?_
  obtain ⟨q4, h⟩ := am_bif h
  refine am_Ex.sld rfl q4 ?_
  refine am_Ex.seg 4 819 [.ref am_SCR, .ref 0, .ref 108, .int a3] [.int (a3 + 2), .ref am_SCR, .int (sX ((a3 + 1)).toNatClampNeg), .ref 108, .int q3.1] q3.2 (fun _ => rfl) ?_
  obtain ⟨q5, h⟩ := am_bif h
  refine am_Ex.sld rfl q5 ?_
  obtain ⟨q6, h_q6, h⟩ := am_bind h
  refine am_Ex.ivk (na := 3) (b := 108) (As' := [.int (sX ((a3 + 1)).toNatClampNeg), .int (sX ((a3 + 2)).toNatClampNeg)]) rfl rfl rfl rfl rfl rfl rfl rfl rfl (e_fM_quarrel (d + 28) h_q6) ?_
  refine am_Ex.same 823 [.ref am_SCR, .ref 0, .ref 108, .int a3] [.int q6.1, .int q3.1] q6.2 rfl ?_
  rcases am_ite h with ⟨q7, h⟩ | ⟨q7, h⟩
  · refine am_Ex.icmp_eq_t rfl q7 ?_
    exact e_fL_law_1725 d hk18 h
  · refine am_Ex.icmp_eq_f rfl q7 ?_
    refine am_Ex.seg 1 827 [.ref am_SCR, .ref 0, .ref 108, .int a3] [.int 0] q6.2 (fun _ => rfl) ?_
    cases h
    exact am_Ex.zret rfl rfl (by decide)
set_option maxRecDepth 20000 in
set_option maxHeartbeats 1000000 in
theorem e_fL_law_828 {sL : Nat} {sX : Nat → Int32} (d : Nat) {k18 : Int32 → am_Mu → Option (Int32 × am_Mu)} (hk18 : ∀ {a3 : Int32} {μ : am_Mu} {out : Int32 × am_Mu}, k18 a3 μ = some out → am_Ex (some (sL, sX)) (d + 37) 243 18 [.ref am_SCR, .ref 0, .ref 108, .int a3] [] am_SH μ (some (.int out.1), am_SH, out.2)) : ∀ {a3 : Int32} {μ : am_Mu} {out : Int32 × am_Mu}, fL_law_828 sL sX k18 a3 μ = some out → am_Ex (some (sL, sX)) (d + 37) 243 828 [.ref am_SCR, .ref 0, .ref 108, .int a3] [] am_SH μ (some (.int out.1), am_SH, out.2) := by
  intro a3 μ out h
  unfold fL_law_828 at h
  refine am_Ex.seg 5 833 [.ref am_SCR, .ref 0, .ref 108, .int a3] [.int (a3 + 1), .ref am_SCR, .ref 0] μ (fun _ => rfl) ?_
  obtain ⟨q1, h⟩ := am_bif h
  refine am_Ex.sld rfl q1 ?_
  refine am_Ex.seg 4 838 [.ref am_SCR, .ref 0, .ref 108, .int a3] [.int (a3 + 2), .ref am_SCR, .int (sX ((a3 + 1)).toNatClampNeg), .ref 0] μ (fun _ => rfl) ?_
  obtain ⟨q2, h⟩ := am_bif h
  refine am_Ex.sld rfl q2 ?_
  refine am_Ex.seg 4 843 [.ref am_SCR, .ref 0, .ref 108, .int a3] [.int (a3 + 3), .ref am_SCR, .int (sX ((a3 + 2)).toNatClampNeg), .int (sX ((a3 + 1)).toNatClampNeg), .ref 0] μ (fun _ => rfl) ?_
  obtain ⟨q3, h⟩ := am_bif h
  refine am_Ex.sld rfl q3 ?_
  refine am_Ex.seg 4 848 [.ref am_SCR, .ref 0, .ref 108, .int a3] [.int (a3 + 4), .ref am_SCR, .int (sX ((a3 + 3)).toNatClampNeg), .int (sX ((a3 + 2)).toNatClampNeg), .int (sX ((a3 + 1)).toNatClampNeg), .ref 0] μ (fun _ => rfl) ?_
  obtain ⟨q4, h⟩ := am_bif h
  refine am_Ex.sld rfl q4 ?_
  obtain ⟨q5, h_q5, h⟩ := am_bind h
  refine am_Ex.ivk (na := 5) (b := 0) (As' := [.int (sX ((a3 + 1)).toNatClampNeg), .int (sX ((a3 + 2)).toNatClampNeg), .int (sX ((a3 + 3)).toNatClampNeg), .int (sX ((a3 + 4)).toNatClampNeg)]) rfl rfl rfl rfl rfl rfl rfl rfl rfl (e_fB_leads (d + 30) h_q5) ?_
  refine am_Ex.same 852 [.ref am_SCR, .ref 0, .ref 108, .int a3] [.int q5.1] q5.2 rfl ?_
  refine am_Ex.seg 5 857 [.ref am_SCR, .ref 0, .ref 108, .int a3] [.int (a3 + 1), .ref am_SCR, .ref 108, .int q5.1] q5.2 (fun _ => rfl) ?_
  obtain ⟨q6, h⟩ := am_bif h
  refine am_Ex.sld rfl q6 ?_
  refine am_Ex.seg 4 862 [.ref am_SCR, .ref 0, .ref 108, .int a3] [.int (a3 + 2), .ref am_SCR, .int (sX ((a3 + 1)).toNatClampNeg), .ref 108, .int q5.1] q5.2 (fun _ => rfl) ?_
  obtain ⟨q7, h⟩ := am_bif h
  refine am_Ex.sld rfl q7 ?_
  refine am_Ex.seg 4 867 [.ref am_SCR, .ref 0, .ref 108, .int a3] [.int (a3 + 3), .ref am_SCR, .int (sX ((a3 + 2)).toNatClampNeg), .int (sX ((a3 + 1)).toNatClampNeg), .ref 108, .int q5.1] q5.2 (fun _ => rfl) ?_
  obtain ⟨q8, h⟩ := am_bif h
  refine am_Ex.sld rfl q8 ?_
  refine am_Ex.seg 4 872 [.ref am_SCR, .ref 0, .ref 108, .int a3] [.int (a3 + 4), .ref am_SCR, .int (sX ((a3 + 3)).toNatClampNeg), .int (sX ((a3 + 2)).toNatClampNeg), .int (sX ((a3 + 1)).toNatClampNeg), .ref 108, .int q5.1] q5.2 (fun _ => rfl) ?_
  obtain ⟨q9, h⟩ := am_bif h
  refine am_Ex.sld rfl q9 ?_
  obtain ⟨q10, h_q10, h⟩ := am_bind h
  refine am_Ex.ivk (na := 5) (b := 108) (As' := [.int (sX ((a3 + 1)).toNatClampNeg), .int (sX ((a3 + 2)).toNatClampNeg), .int (sX ((a3 + 3)).toNatClampNeg), .int (sX ((a3 + 4)).toNatClampNeg)]) rfl rfl rfl rfl rfl rfl rfl rfl rfl (e_fM_leads (d + 29) h_q10) ?_
  refine am_Ex.same 876 [.ref am_SCR, .ref 0, .ref 108, .int a3] [.int q10.1, .int q5.1] q10.2 rfl ?_
  rcases am_ite h with ⟨q11, h⟩ | ⟨q11, h⟩
  · refine am_Ex.icmp_eq_t rfl q11 ?_
    exact e_fL_law_1725 d hk18 h
  · refine am_Ex.icmp_eq_f rfl q11 ?_
    refine am_Ex.seg 1 880 [.ref am_SCR, .ref 0, .ref 108, .int a3] [.int 0] q10.2 (fun _ => rfl) ?_
    cases h
    exact am_Ex.zret rfl rfl (by decide)
set_option maxRecDepth 20000 in
set_option maxHeartbeats 1000000 in
theorem e_fL_law_881 {sL : Nat} {sX : Nat → Int32} (d : Nat) {k18 : Int32 → am_Mu → Option (Int32 × am_Mu)} (hk18 : ∀ {a3 : Int32} {μ : am_Mu} {out : Int32 × am_Mu}, k18 a3 μ = some out → am_Ex (some (sL, sX)) (d + 37) 243 18 [.ref am_SCR, .ref 0, .ref 108, .int a3] [] am_SH μ (some (.int out.1), am_SH, out.2)) : ∀ {a3 : Int32} {μ : am_Mu} {out : Int32 × am_Mu}, fL_law_881 sL sX k18 a3 μ = some out → am_Ex (some (sL, sX)) (d + 37) 243 881 [.ref am_SCR, .ref 0, .ref 108, .int a3] [] am_SH μ (some (.int out.1), am_SH, out.2) := by
  intro a3 μ out h
  unfold fL_law_881 at h
  refine am_Ex.seg 5 886 [.ref am_SCR, .ref 0, .ref 108, .int a3] [.int (a3 + 1), .ref am_SCR, .ref 0] μ (fun _ => rfl) ?_
  obtain ⟨q1, h⟩ := am_bif h
  refine am_Ex.sld rfl q1 ?_
  refine am_Ex.seg 4 891 [.ref am_SCR, .ref 0, .ref 108, .int a3] [.int (a3 + 2), .ref am_SCR, .int (sX ((a3 + 1)).toNatClampNeg), .ref 0] μ (fun _ => rfl) ?_
  obtain ⟨q2, h⟩ := am_bif h
  refine am_Ex.sld rfl q2 ?_
  refine am_Ex.seg 4 896 [.ref am_SCR, .ref 0, .ref 108, .int a3] [.int (a3 + 3), .ref am_SCR, .int (sX ((a3 + 2)).toNatClampNeg), .int (sX ((a3 + 1)).toNatClampNeg), .ref 0] μ (fun _ => rfl) ?_
  obtain ⟨q3, h⟩ := am_bif h
  refine am_Ex.sld rfl q3 ?_
  obtain ⟨q4, h_q4, h⟩ := am_bind h
  refine am_Ex.ivk (na := 4) (b := 0) (As' := [.int (sX ((a3 + 1)).toNatClampNeg), .int (sX ((a3 + 2)).toNatClampNeg), .int (sX ((a3 + 3)).toNatClampNeg)]) rfl rfl rfl rfl rfl rfl rfl rfl rfl (e_fB_reached (d + 30) h_q4) ?_
  refine am_Ex.same 900 [.ref am_SCR, .ref 0, .ref 108, .int a3] [.int q4.1] q4.2 rfl ?_
  refine am_Ex.seg 5 905 [.ref am_SCR, .ref 0, .ref 108, .int a3] [.int (a3 + 1), .ref am_SCR, .ref 108, .int q4.1] q4.2 (fun _ => rfl) ?_
  obtain ⟨q5, h⟩ := am_bif h
  refine am_Ex.sld rfl q5 ?_
  refine am_Ex.seg 4 910 [.ref am_SCR, .ref 0, .ref 108, .int a3] [.int (a3 + 2), .ref am_SCR, .int (sX ((a3 + 1)).toNatClampNeg), .ref 108, .int q4.1] q4.2 (fun _ => rfl) ?_
  obtain ⟨q6, h⟩ := am_bif h
  refine am_Ex.sld rfl q6 ?_
  refine am_Ex.seg 4 915 [.ref am_SCR, .ref 0, .ref 108, .int a3] [.int (a3 + 3), .ref am_SCR, .int (sX ((a3 + 2)).toNatClampNeg), .int (sX ((a3 + 1)).toNatClampNeg), .ref 108, .int q4.1] q4.2 (fun _ => rfl) ?_
  obtain ⟨q7, h⟩ := am_bif h
  refine am_Ex.sld rfl q7 ?_
  obtain ⟨q8, h_q8, h⟩ := am_bind h
  refine am_Ex.ivk (na := 4) (b := 108) (As' := [.int (sX ((a3 + 1)).toNatClampNeg), .int (sX ((a3 + 2)).toNatClampNeg), .int (sX ((a3 + 3)).toNatClampNeg)]) rfl rfl rfl rfl rfl rfl rfl rfl rfl (e_fM_reached (d + 29) h_q8) ?_
  refine am_Ex.same 919 [.ref am_SCR, .ref 0, .ref 108, .int a3] [.int q8.1, .int q4.1] q8.2 rfl ?_
  rcases am_ite h with ⟨q9, h⟩ | ⟨q9, h⟩
  · refine am_Ex.icmp_eq_t rfl q9 ?_
    exact e_fL_law_1725 d hk18 h
  · refine am_Ex.icmp_eq_f rfl q9 ?_
    refine am_Ex.seg 1 923 [.ref am_SCR, .ref 0, .ref 108, .int a3] [.int 0] q8.2 (fun _ => rfl) ?_
    cases h
    exact am_Ex.zret rfl rfl (by decide)
set_option maxRecDepth 20000 in
set_option maxHeartbeats 1000000 in
theorem e_fL_law_924 {sL : Nat} {sX : Nat → Int32} (d : Nat) {k18 : Int32 → am_Mu → Option (Int32 × am_Mu)} (hk18 : ∀ {a3 : Int32} {μ : am_Mu} {out : Int32 × am_Mu}, k18 a3 μ = some out → am_Ex (some (sL, sX)) (d + 37) 243 18 [.ref am_SCR, .ref 0, .ref 108, .int a3] [] am_SH μ (some (.int out.1), am_SH, out.2)) : ∀ {a3 : Int32} {μ : am_Mu} {out : Int32 × am_Mu}, fL_law_924 sL sX k18 a3 μ = some out → am_Ex (some (sL, sX)) (d + 37) 243 924 [.ref am_SCR, .ref 0, .ref 108, .int a3] [] am_SH μ (some (.int out.1), am_SH, out.2) := by
  intro a3 μ out h
  unfold fL_law_924 at h
  refine am_Ex.seg 5 929 [.ref am_SCR, .ref 0, .ref 108, .int a3] [.int (a3 + 1), .ref am_SCR, .ref 0] μ (fun _ => rfl) ?_
  obtain ⟨q1, h⟩ := am_bif h
  refine am_Ex.sld rfl q1 ?_
  refine am_Ex.seg 4 934 [.ref am_SCR, .ref 0, .ref 108, .int a3] [.int (a3 + 2), .ref am_SCR, .int (sX ((a3 + 1)).toNatClampNeg), .ref 0] μ (fun _ => rfl) ?_
  obtain ⟨q2, h⟩ := am_bif h
  refine am_Ex.sld rfl q2 ?_
  refine am_Ex.seg 4 939 [.ref am_SCR, .ref 0, .ref 108, .int a3] [.int (a3 + 3), .ref am_SCR, .int (sX ((a3 + 2)).toNatClampNeg), .int (sX ((a3 + 1)).toNatClampNeg), .ref 0] μ (fun _ => rfl) ?_
  obtain ⟨q3, h⟩ := am_bif h
  refine am_Ex.sld rfl q3 ?_
  refine am_Ex.seg 4 944 [.ref am_SCR, .ref 0, .ref 108, .int a3] [.int (a3 + 4), .ref am_SCR, .int (sX ((a3 + 3)).toNatClampNeg), .int (sX ((a3 + 2)).toNatClampNeg), .int (sX ((a3 + 1)).toNatClampNeg), .ref 0] μ (fun _ => rfl) ?_
  obtain ⟨q4, h⟩ := am_bif h
  refine am_Ex.sld rfl q4 ?_
  obtain ⟨q5, h_q5, h⟩ := am_bind h
  refine am_Ex.ivk (na := 5) (b := 0) (As' := [.int (sX ((a3 + 1)).toNatClampNeg), .int (sX ((a3 + 2)).toNatClampNeg), .int (sX ((a3 + 3)).toNatClampNeg), .int (sX ((a3 + 4)).toNatClampNeg)]) rfl rfl rfl rfl rfl rfl rfl rfl rfl (e_fB_way (d + 30) h_q5) ?_
  refine am_Ex.same 948 [.ref am_SCR, .ref 0, .ref 108, .int a3] [.int q5.1] q5.2 rfl ?_
  refine am_Ex.seg 5 953 [.ref am_SCR, .ref 0, .ref 108, .int a3] [.int (a3 + 1), .ref am_SCR, .ref 108, .int q5.1] q5.2 (fun _ => rfl) ?_
  obtain ⟨q6, h⟩ := am_bif h
  refine am_Ex.sld rfl q6 ?_
  refine am_Ex.seg 4 958 [.ref am_SCR, .ref 0, .ref 108, .int a3] [.int (a3 + 2), .ref am_SCR, .int (sX ((a3 + 1)).toNatClampNeg), .ref 108, .int q5.1] q5.2 (fun _ => rfl) ?_
  obtain ⟨q7, h⟩ := am_bif h
  refine am_Ex.sld rfl q7 ?_
  refine am_Ex.seg 4 963 [.ref am_SCR, .ref 0, .ref 108, .int a3] [.int (a3 + 3), .ref am_SCR, .int (sX ((a3 + 2)).toNatClampNeg), .int (sX ((a3 + 1)).toNatClampNeg), .ref 108, .int q5.1] q5.2 (fun _ => rfl) ?_
  obtain ⟨q8, h⟩ := am_bif h
  refine am_Ex.sld rfl q8 ?_
  refine am_Ex.seg 4 968 [.ref am_SCR, .ref 0, .ref 108, .int a3] [.int (a3 + 4), .ref am_SCR, .int (sX ((a3 + 3)).toNatClampNeg), .int (sX ((a3 + 2)).toNatClampNeg), .int (sX ((a3 + 1)).toNatClampNeg), .ref 108, .int q5.1] q5.2 (fun _ => rfl) ?_
  obtain ⟨q9, h⟩ := am_bif h
  refine am_Ex.sld rfl q9 ?_
  obtain ⟨q10, h_q10, h⟩ := am_bind h
  refine am_Ex.ivk (na := 5) (b := 108) (As' := [.int (sX ((a3 + 1)).toNatClampNeg), .int (sX ((a3 + 2)).toNatClampNeg), .int (sX ((a3 + 3)).toNatClampNeg), .int (sX ((a3 + 4)).toNatClampNeg)]) rfl rfl rfl rfl rfl rfl rfl rfl rfl (e_fM_way (d + 29) h_q10) ?_
  refine am_Ex.same 972 [.ref am_SCR, .ref 0, .ref 108, .int a3] [.int q10.1, .int q5.1] q10.2 rfl ?_
  rcases am_ite h with ⟨q11, h⟩ | ⟨q11, h⟩
  · refine am_Ex.icmp_eq_t rfl q11 ?_
    exact e_fL_law_1725 d hk18 h
  · refine am_Ex.icmp_eq_f rfl q11 ?_
    refine am_Ex.seg 1 976 [.ref am_SCR, .ref 0, .ref 108, .int a3] [.int 0] q10.2 (fun _ => rfl) ?_
    cases h
    exact am_Ex.zret rfl rfl (by decide)
set_option maxRecDepth 20000 in
set_option maxHeartbeats 1000000 in
theorem e_fL_law_977 {sL : Nat} {sX : Nat → Int32} (d : Nat) {k18 : Int32 → am_Mu → Option (Int32 × am_Mu)} (hk18 : ∀ {a3 : Int32} {μ : am_Mu} {out : Int32 × am_Mu}, k18 a3 μ = some out → am_Ex (some (sL, sX)) (d + 37) 243 18 [.ref am_SCR, .ref 0, .ref 108, .int a3] [] am_SH μ (some (.int out.1), am_SH, out.2)) : ∀ {a3 : Int32} {μ : am_Mu} {out : Int32 × am_Mu}, fL_law_977 sL sX k18 a3 μ = some out → am_Ex (some (sL, sX)) (d + 37) 243 977 [.ref am_SCR, .ref 0, .ref 108, .int a3] [] am_SH μ (some (.int out.1), am_SH, out.2) := by
  intro a3 μ out h
  unfold fL_law_977 at h
  refine am_Ex.seg 5 982 [.ref am_SCR, .ref 0, .ref 108, .int a3] [.int (a3 + 1), .ref am_SCR, .ref 0] μ (fun _ => rfl) ?_
  obtain ⟨q1, h⟩ := am_bif h
  refine am_Ex.sld rfl q1 ?_
  refine am_Ex.seg 4 987 [.ref am_SCR, .ref 0, .ref 108, .int a3] [.int (a3 + 2), .ref am_SCR, .int (sX ((a3 + 1)).toNatClampNeg), .ref 0] μ (fun _ => rfl) ?_
  obtain ⟨q2, h⟩ := am_bif h
  refine am_Ex.sld rfl q2 ?_
  refine am_Ex.seg 4 992 [.ref am_SCR, .ref 0, .ref 108, .int a3] [.int (a3 + 3), .ref am_SCR, .int (sX ((a3 + 2)).toNatClampNeg), .int (sX ((a3 + 1)).toNatClampNeg), .ref 0] μ (fun _ => rfl) ?_
  obtain ⟨q3, h⟩ := am_bif h
  refine am_Ex.sld rfl q3 ?_
  obtain ⟨q4, h_q4, h⟩ := am_bind h
  refine am_Ex.ivk (na := 4) (b := 0) (As' := [.int (sX ((a3 + 1)).toNatClampNeg), .int (sX ((a3 + 2)).toNatClampNeg), .int (sX ((a3 + 3)).toNatClampNeg)]) rfl rfl rfl rfl rfl rfl rfl rfl rfl (e_fB_mend (d + 30) h_q4) ?_
  refine am_Ex.same 996 [.ref am_SCR, .ref 0, .ref 108, .int a3] [.int q4.1] q4.2 rfl ?_
  refine am_Ex.seg 5 1001 [.ref am_SCR, .ref 0, .ref 108, .int a3] [.int (a3 + 1), .ref am_SCR, .ref 108, .int q4.1] q4.2 (fun _ => rfl) ?_
  obtain ⟨q5, h⟩ := am_bif h
  refine am_Ex.sld rfl q5 ?_
  refine am_Ex.seg 4 1006 [.ref am_SCR, .ref 0, .ref 108, .int a3] [.int (a3 + 2), .ref am_SCR, .int (sX ((a3 + 1)).toNatClampNeg), .ref 108, .int q4.1] q4.2 (fun _ => rfl) ?_
  obtain ⟨q6, h⟩ := am_bif h
  refine am_Ex.sld rfl q6 ?_
  refine am_Ex.seg 4 1011 [.ref am_SCR, .ref 0, .ref 108, .int a3] [.int (a3 + 3), .ref am_SCR, .int (sX ((a3 + 2)).toNatClampNeg), .int (sX ((a3 + 1)).toNatClampNeg), .ref 108, .int q4.1] q4.2 (fun _ => rfl) ?_
  obtain ⟨q7, h⟩ := am_bif h
  refine am_Ex.sld rfl q7 ?_
  obtain ⟨q8, h_q8, h⟩ := am_bind h
  refine am_Ex.ivk (na := 4) (b := 108) (As' := [.int (sX ((a3 + 1)).toNatClampNeg), .int (sX ((a3 + 2)).toNatClampNeg), .int (sX ((a3 + 3)).toNatClampNeg)]) rfl rfl rfl rfl rfl rfl rfl rfl rfl (e_fM_mend (d + 29) h_q8) ?_
  refine am_Ex.same 1015 [.ref am_SCR, .ref 0, .ref 108, .int a3] [.int q8.1, .int q4.1] q8.2 rfl ?_
  rcases am_ite h with ⟨q9, h⟩ | ⟨q9, h⟩
  · refine am_Ex.icmp_eq_t rfl q9 ?_
    exact e_fL_law_1725 d hk18 h
  · refine am_Ex.icmp_eq_f rfl q9 ?_
    refine am_Ex.seg 1 1019 [.ref am_SCR, .ref 0, .ref 108, .int a3] [.int 0] q8.2 (fun _ => rfl) ?_
    cases h
    exact am_Ex.zret rfl rfl (by decide)
set_option maxRecDepth 20000 in
set_option maxHeartbeats 1000000 in
theorem e_fL_law_1020 {sL : Nat} {sX : Nat → Int32} (d : Nat) {k18 : Int32 → am_Mu → Option (Int32 × am_Mu)} (hk18 : ∀ {a3 : Int32} {μ : am_Mu} {out : Int32 × am_Mu}, k18 a3 μ = some out → am_Ex (some (sL, sX)) (d + 37) 243 18 [.ref am_SCR, .ref 0, .ref 108, .int a3] [] am_SH μ (some (.int out.1), am_SH, out.2)) : ∀ {a3 : Int32} {μ : am_Mu} {out : Int32 × am_Mu}, fL_law_1020 sL sX k18 a3 μ = some out → am_Ex (some (sL, sX)) (d + 37) 243 1020 [.ref am_SCR, .ref 0, .ref 108, .int a3] [] am_SH μ (some (.int out.1), am_SH, out.2) := by
  intro a3 μ out h
  unfold fL_law_1020 at h
  refine am_Ex.seg 5 1025 [.ref am_SCR, .ref 0, .ref 108, .int a3] [.int (a3 + 1), .ref am_SCR, .ref 0] μ (fun _ => rfl) ?_
  obtain ⟨q1, h⟩ := am_bif h
  refine am_Ex.sld rfl q1 ?_
  refine am_Ex.seg 4 1030 [.ref am_SCR, .ref 0, .ref 108, .int a3] [.int (a3 + 2), .ref am_SCR, .int (sX ((a3 + 1)).toNatClampNeg), .ref 0] μ (fun _ => rfl) ?_
  obtain ⟨q2, h⟩ := am_bif h
  refine am_Ex.sld rfl q2 ?_
  refine am_Ex.seg 4 1035 [.ref am_SCR, .ref 0, .ref 108, .int a3] [.int (a3 + 3), .ref am_SCR, .int (sX ((a3 + 2)).toNatClampNeg), .int (sX ((a3 + 1)).toNatClampNeg), .ref 0] μ (fun _ => rfl) ?_
  obtain ⟨q3, h⟩ := am_bif h
  refine am_Ex.sld rfl q3 ?_
  refine am_Ex.seg 4 1040 [.ref am_SCR, .ref 0, .ref 108, .int a3] [.int (a3 + 4), .ref am_SCR, .int (sX ((a3 + 3)).toNatClampNeg), .int (sX ((a3 + 2)).toNatClampNeg), .int (sX ((a3 + 1)).toNatClampNeg), .ref 0] μ (fun _ => rfl) ?_
  obtain ⟨q4, h⟩ := am_bif h
  refine am_Ex.sld rfl q4 ?_
  obtain ⟨q5, h_q5, h⟩ := am_bind h
  refine am_Ex.ivk (na := 5) (b := 0) (As' := [.int (sX ((a3 + 1)).toNatClampNeg), .int (sX ((a3 + 2)).toNatClampNeg), .int (sX ((a3 + 3)).toNatClampNeg), .int (sX ((a3 + 4)).toNatClampNeg)]) rfl rfl rfl rfl rfl rfl rfl rfl rfl (e_fB_kitchen (d + 34) h_q5) ?_
  refine am_Ex.same 1044 [.ref am_SCR, .ref 0, .ref 108, .int a3] [.int q5.1] q5.2 rfl ?_
  refine am_Ex.seg 5 1049 [.ref am_SCR, .ref 0, .ref 108, .int a3] [.int (a3 + 1), .ref am_SCR, .ref 108, .int q5.1] q5.2 (fun _ => rfl) ?_
  obtain ⟨q6, h⟩ := am_bif h
  refine am_Ex.sld rfl q6 ?_
  refine am_Ex.seg 4 1054 [.ref am_SCR, .ref 0, .ref 108, .int a3] [.int (a3 + 2), .ref am_SCR, .int (sX ((a3 + 1)).toNatClampNeg), .ref 108, .int q5.1] q5.2 (fun _ => rfl) ?_
  obtain ⟨q7, h⟩ := am_bif h
  refine am_Ex.sld rfl q7 ?_
  refine am_Ex.seg 4 1059 [.ref am_SCR, .ref 0, .ref 108, .int a3] [.int (a3 + 3), .ref am_SCR, .int (sX ((a3 + 2)).toNatClampNeg), .int (sX ((a3 + 1)).toNatClampNeg), .ref 108, .int q5.1] q5.2 (fun _ => rfl) ?_
  obtain ⟨q8, h⟩ := am_bif h
  refine am_Ex.sld rfl q8 ?_
  refine am_Ex.seg 4 1064 [.ref am_SCR, .ref 0, .ref 108, .int a3] [.int (a3 + 4), .ref am_SCR, .int (sX ((a3 + 3)).toNatClampNeg), .int (sX ((a3 + 2)).toNatClampNeg), .int (sX ((a3 + 1)).toNatClampNeg), .ref 108, .int q5.1] q5.2 (fun _ => rfl) ?_
  obtain ⟨q9, h⟩ := am_bif h
  refine am_Ex.sld rfl q9 ?_
  obtain ⟨q10, h_q10, h⟩ := am_bind h
  refine am_Ex.ivk (na := 5) (b := 108) (As' := [.int (sX ((a3 + 1)).toNatClampNeg), .int (sX ((a3 + 2)).toNatClampNeg), .int (sX ((a3 + 3)).toNatClampNeg), .int (sX ((a3 + 4)).toNatClampNeg)]) rfl rfl rfl rfl rfl rfl rfl rfl rfl (e_fM_kitchen (d + 35) h_q10) ?_
  refine am_Ex.same 1068 [.ref am_SCR, .ref 0, .ref 108, .int a3] [.int q10.1, .int q5.1] q10.2 rfl ?_
  rcases am_ite h with ⟨q11, h⟩ | ⟨q11, h⟩
  · refine am_Ex.icmp_eq_t rfl q11 ?_
    exact e_fL_law_1725 d hk18 h
  · refine am_Ex.icmp_eq_f rfl q11 ?_
    refine am_Ex.seg 1 1072 [.ref am_SCR, .ref 0, .ref 108, .int a3] [.int 0] q10.2 (fun _ => rfl) ?_
    cases h
    exact am_Ex.zret rfl rfl (by decide)
set_option maxRecDepth 20000 in
set_option maxHeartbeats 1000000 in
theorem e_fL_law_1073 {sL : Nat} {sX : Nat → Int32} (d : Nat) {k18 : Int32 → am_Mu → Option (Int32 × am_Mu)} (hk18 : ∀ {a3 : Int32} {μ : am_Mu} {out : Int32 × am_Mu}, k18 a3 μ = some out → am_Ex (some (sL, sX)) (d + 37) 243 18 [.ref am_SCR, .ref 0, .ref 108, .int a3] [] am_SH μ (some (.int out.1), am_SH, out.2)) : ∀ {a3 : Int32} {μ : am_Mu} {out : Int32 × am_Mu}, fL_law_1073 sL sX k18 a3 μ = some out → am_Ex (some (sL, sX)) (d + 37) 243 1073 [.ref am_SCR, .ref 0, .ref 108, .int a3] [] am_SH μ (some (.int out.1), am_SH, out.2) := by
  intro a3 μ out h
  unfold fL_law_1073 at h
  refine am_Ex.seg 5 1078 [.ref am_SCR, .ref 0, .ref 108, .int a3] [.int (a3 + 1), .ref am_SCR, .ref 0] μ (fun _ => rfl) ?_
  obtain ⟨q1, h⟩ := am_bif h
  refine am_Ex.sld rfl q1 ?_
  refine am_Ex.seg 4 1083 [.ref am_SCR, .ref 0, .ref 108, .int a3] [.int (a3 + 2), .ref am_SCR, .int (sX ((a3 + 1)).toNatClampNeg), .ref 0] μ (fun _ => rfl) ?_
  obtain ⟨q2, h⟩ := am_bif h
  refine am_Ex.sld rfl q2 ?_
  obtain ⟨q3, h_q3, h⟩ := am_bind h
  refine am_Ex.ivk (na := 3) (b := 0) (As' := [.int (sX ((a3 + 1)).toNatClampNeg), .int (sX ((a3 + 2)).toNatClampNeg)]) rfl rfl rfl rfl rfl rfl rfl rfl rfl (e_fB_oversee (d + 35) h_q3) ?_
  refine am_Ex.same 1087 [.ref am_SCR, .ref 0, .ref 108, .int a3] [.int q3.1] q3.2 rfl ?_
  refine am_Ex.seg 5 1092 [.ref am_SCR, .ref 0, .ref 108, .int a3] [.int (a3 + 1), .ref am_SCR, .ref 108, .int q3.1] q3.2 (fun _ => rfl) ?_
  obtain ⟨q4, h⟩ := am_bif h
  refine am_Ex.sld rfl q4 ?_
  refine am_Ex.seg 4 1097 [.ref am_SCR, .ref 0, .ref 108, .int a3] [.int (a3 + 2), .ref am_SCR, .int (sX ((a3 + 1)).toNatClampNeg), .ref 108, .int q3.1] q3.2 (fun _ => rfl) ?_
  obtain ⟨q5, h⟩ := am_bif h
  refine am_Ex.sld rfl q5 ?_
  obtain ⟨q6, h_q6, h⟩ := am_bind h
  refine am_Ex.ivk (na := 3) (b := 108) (As' := [.int (sX ((a3 + 1)).toNatClampNeg), .int (sX ((a3 + 2)).toNatClampNeg)]) rfl rfl rfl rfl rfl rfl rfl rfl rfl (e_fM_oversee (d + 34) h_q6) ?_
  refine am_Ex.same 1101 [.ref am_SCR, .ref 0, .ref 108, .int a3] [.int q6.1, .int q3.1] q6.2 rfl ?_
  rcases am_ite h with ⟨q7, h⟩ | ⟨q7, h⟩
  · refine am_Ex.icmp_eq_t rfl q7 ?_
    exact e_fL_law_1725 d hk18 h
  · refine am_Ex.icmp_eq_f rfl q7 ?_
    refine am_Ex.seg 1 1105 [.ref am_SCR, .ref 0, .ref 108, .int a3] [.int 0] q6.2 (fun _ => rfl) ?_
    cases h
    exact am_Ex.zret rfl rfl (by decide)
set_option maxRecDepth 20000 in
set_option maxHeartbeats 1000000 in
theorem e_fL_law_1157 {sL : Nat} {sX : Nat → Int32} (d : Nat) {k18 : Int32 → am_Mu → Option (Int32 × am_Mu)} (hk18 : ∀ {a3 : Int32} {μ : am_Mu} {out : Int32 × am_Mu}, k18 a3 μ = some out → am_Ex (some (sL, sX)) (d + 37) 243 18 [.ref am_SCR, .ref 0, .ref 108, .int a3] [] am_SH μ (some (.int out.1), am_SH, out.2)) : ∀ {a3 : Int32} {s0 : Int32} {s2 : Int32} {s3 : Int32} {s4 : Int32} {μ : am_Mu} {out : Int32 × am_Mu}, fL_law_1157 sL sX k18 a3 s0 s2 s3 s4 μ = some out → am_Ex (some (sL, sX)) (d + 37) 243 1157 [.ref am_SCR, .ref 0, .ref 108, .int a3] [.int s4, .int s3, .int s2, .ref 108, .int s0] am_SH μ (some (.int out.1), am_SH, out.2) := by
  intro a3 s0 s2 s3 s4 μ out h
  unfold fL_law_1157 at h
  obtain ⟨q1, h_q1, h⟩ := am_bind h
  refine am_Ex.ivk (na := 4) (b := 108) (As' := [.int s2, .int s3, .int s4]) rfl rfl rfl rfl rfl rfl rfl rfl rfl (e_fM_trust (d + 35) h_q1) ?_
  refine am_Ex.same 1160 [.ref am_SCR, .ref 0, .ref 108, .int a3] [.int q1.1, .int s0] q1.2 rfl ?_
  rcases am_ite h with ⟨q2, h⟩ | ⟨q2, h⟩
  · refine am_Ex.icmp_eq_t rfl q2 ?_
    exact e_fL_law_1725 d hk18 h
  · refine am_Ex.icmp_eq_f rfl q2 ?_
    refine am_Ex.seg 1 1164 [.ref am_SCR, .ref 0, .ref 108, .int a3] [.int 0] q1.2 (fun _ => rfl) ?_
    cases h
    exact am_Ex.zret rfl rfl (by decide)
set_option maxRecDepth 20000 in
set_option maxHeartbeats 1000000 in
theorem e_fL_law_1130 {sL : Nat} {sX : Nat → Int32} (d : Nat) {k18 : Int32 → am_Mu → Option (Int32 × am_Mu)} (hk18 : ∀ {a3 : Int32} {μ : am_Mu} {out : Int32 × am_Mu}, k18 a3 μ = some out → am_Ex (some (sL, sX)) (d + 37) 243 18 [.ref am_SCR, .ref 0, .ref 108, .int a3] [] am_SH μ (some (.int out.1), am_SH, out.2)) : ∀ {a3 : Int32} {s1 : Int32} {s2 : Int32} {s3 : Int32} {μ : am_Mu} {out : Int32 × am_Mu}, fL_law_1130 sL sX k18 a3 s1 s2 s3 μ = some out → am_Ex (some (sL, sX)) (d + 37) 243 1130 [.ref am_SCR, .ref 0, .ref 108, .int a3] [.int s3, .int s2, .int s1, .ref 0] am_SH μ (some (.int out.1), am_SH, out.2) := by
  intro a3 s1 s2 s3 μ out h
  unfold fL_law_1130 at h
  obtain ⟨q1, h_q1, h⟩ := am_bind h
  refine am_Ex.ivk (na := 4) (b := 0) (As' := [.int s1, .int s2, .int s3]) rfl rfl rfl rfl rfl rfl rfl rfl rfl (e_fB_trust (d + 35) h_q1) ?_
  refine am_Ex.same 1133 [.ref am_SCR, .ref 0, .ref 108, .int a3] [.int q1.1] q1.2 rfl ?_
  refine am_Ex.seg 5 1138 [.ref am_SCR, .ref 0, .ref 108, .int a3] [.int (a3 + 1), .ref am_SCR, .ref 108, .int q1.1] q1.2 (fun _ => rfl) ?_
  obtain ⟨q2, h⟩ := am_bif h
  refine am_Ex.sld rfl q2 ?_
  refine am_Ex.seg 4 1143 [.ref am_SCR, .ref 0, .ref 108, .int a3] [.int (a3 + 2), .ref am_SCR, .int (sX ((a3 + 1)).toNatClampNeg), .ref 108, .int q1.1] q1.2 (fun _ => rfl) ?_
  obtain ⟨q3, h⟩ := am_bif h
  refine am_Ex.sld rfl q3 ?_
  refine am_Ex.seg 4 1148 [.ref am_SCR, .ref 0, .ref 108, .int a3] [.int (a3 + 3), .ref am_SCR, .int (sX ((a3 + 2)).toNatClampNeg), .int (sX ((a3 + 1)).toNatClampNeg), .ref 108, .int q1.1] q1.2 (fun _ => rfl) ?_
  obtain ⟨q4, h⟩ := am_bif h
  refine am_Ex.sld rfl q4 ?_
  rcases am_ite h with ⟨q5, h⟩ | ⟨q5, h⟩
  · refine am_Ex.if_eq_t rfl q5 ?_
    refine am_Ex.seg 1 1157 [.ref am_SCR, .ref 0, .ref 108, .int a3] [.int 0, .int (sX ((a3 + 2)).toNatClampNeg), .int (sX ((a3 + 1)).toNatClampNeg), .ref 108, .int q1.1] q1.2 (fun _ => rfl) ?_
    exact e_fL_law_1157 d hk18 h
  · refine am_Ex.if_eq_f rfl q5 ?_
    refine am_Ex.seg 1 1153 [.ref am_SCR, .ref 0, .ref 108, .int a3] [.int 1, .int (sX ((a3 + 2)).toNatClampNeg), .int (sX ((a3 + 1)).toNatClampNeg), .ref 108, .int q1.1] q1.2 (fun _ => rfl) ?_
    refine am_Ex.goto rfl ?_
    exact e_fL_law_1157 d hk18 h
set_option maxRecDepth 20000 in
set_option maxHeartbeats 1000000 in
theorem e_fL_law_1106 {sL : Nat} {sX : Nat → Int32} (d : Nat) {k18 : Int32 → am_Mu → Option (Int32 × am_Mu)} (hk18 : ∀ {a3 : Int32} {μ : am_Mu} {out : Int32 × am_Mu}, k18 a3 μ = some out → am_Ex (some (sL, sX)) (d + 37) 243 18 [.ref am_SCR, .ref 0, .ref 108, .int a3] [] am_SH μ (some (.int out.1), am_SH, out.2)) : ∀ {a3 : Int32} {μ : am_Mu} {out : Int32 × am_Mu}, fL_law_1106 sL sX k18 a3 μ = some out → am_Ex (some (sL, sX)) (d + 37) 243 1106 [.ref am_SCR, .ref 0, .ref 108, .int a3] [] am_SH μ (some (.int out.1), am_SH, out.2) := by
  intro a3 μ out h
  unfold fL_law_1106 at h
  refine am_Ex.seg 5 1111 [.ref am_SCR, .ref 0, .ref 108, .int a3] [.int (a3 + 1), .ref am_SCR, .ref 0] μ (fun _ => rfl) ?_
  obtain ⟨q1, h⟩ := am_bif h
  refine am_Ex.sld rfl q1 ?_
  refine am_Ex.seg 4 1116 [.ref am_SCR, .ref 0, .ref 108, .int a3] [.int (a3 + 2), .ref am_SCR, .int (sX ((a3 + 1)).toNatClampNeg), .ref 0] μ (fun _ => rfl) ?_
  obtain ⟨q2, h⟩ := am_bif h
  refine am_Ex.sld rfl q2 ?_
  refine am_Ex.seg 4 1121 [.ref am_SCR, .ref 0, .ref 108, .int a3] [.int (a3 + 3), .ref am_SCR, .int (sX ((a3 + 2)).toNatClampNeg), .int (sX ((a3 + 1)).toNatClampNeg), .ref 0] μ (fun _ => rfl) ?_
  obtain ⟨q3, h⟩ := am_bif h
  refine am_Ex.sld rfl q3 ?_
  rcases am_ite h with ⟨q4, h⟩ | ⟨q4, h⟩
  · refine am_Ex.if_eq_t rfl q4 ?_
    refine am_Ex.seg 1 1130 [.ref am_SCR, .ref 0, .ref 108, .int a3] [.int 0, .int (sX ((a3 + 2)).toNatClampNeg), .int (sX ((a3 + 1)).toNatClampNeg), .ref 0] μ (fun _ => rfl) ?_
    exact e_fL_law_1130 d hk18 h
  · refine am_Ex.if_eq_f rfl q4 ?_
    refine am_Ex.seg 1 1126 [.ref am_SCR, .ref 0, .ref 108, .int a3] [.int 1, .int (sX ((a3 + 2)).toNatClampNeg), .int (sX ((a3 + 1)).toNatClampNeg), .ref 0] μ (fun _ => rfl) ?_
    refine am_Ex.goto rfl ?_
    exact e_fL_law_1130 d hk18 h
set_option maxRecDepth 20000 in
set_option maxHeartbeats 1000000 in
theorem e_fL_law_1165 {sL : Nat} {sX : Nat → Int32} (d : Nat) {k18 : Int32 → am_Mu → Option (Int32 × am_Mu)} (hk18 : ∀ {a3 : Int32} {μ : am_Mu} {out : Int32 × am_Mu}, k18 a3 μ = some out → am_Ex (some (sL, sX)) (d + 37) 243 18 [.ref am_SCR, .ref 0, .ref 108, .int a3] [] am_SH μ (some (.int out.1), am_SH, out.2)) : ∀ {a3 : Int32} {μ : am_Mu} {out : Int32 × am_Mu}, fL_law_1165 sL sX k18 a3 μ = some out → am_Ex (some (sL, sX)) (d + 37) 243 1165 [.ref am_SCR, .ref 0, .ref 108, .int a3] [] am_SH μ (some (.int out.1), am_SH, out.2) := by
  intro a3 μ out h
  unfold fL_law_1165 at h
  refine am_Ex.seg 5 1170 [.ref am_SCR, .ref 0, .ref 108, .int a3] [.int (a3 + 1), .ref am_SCR, .ref 0] μ (fun _ => rfl) ?_
  obtain ⟨q1, h⟩ := am_bif h
  refine am_Ex.sld rfl q1 ?_
  refine am_Ex.seg 4 1175 [.ref am_SCR, .ref 0, .ref 108, .int a3] [.int (a3 + 2), .ref am_SCR, .int (sX ((a3 + 1)).toNatClampNeg), .ref 0] μ (fun _ => rfl) ?_
  obtain ⟨q2, h⟩ := am_bif h
  refine am_Ex.sld rfl q2 ?_
  obtain ⟨q3, h_q3, h⟩ := am_bind h
  refine am_Ex.ivk (na := 3) (b := 0) (As' := [.int (sX ((a3 + 1)).toNatClampNeg), .int (sX ((a3 + 2)).toNatClampNeg)]) rfl rfl rfl rfl rfl rfl rfl rfl rfl (e_fB_lot (d + 34) h_q3) ?_
  refine am_Ex.same 1179 [.ref am_SCR, .ref 0, .ref 108, .int a3] [.int q3.1] q3.2 rfl ?_
  refine am_Ex.seg 5 1184 [.ref am_SCR, .ref 0, .ref 108, .int a3] [.int (a3 + 1), .ref am_SCR, .ref 108, .int q3.1] q3.2 (fun _ => rfl) ?_
  obtain ⟨q4, h⟩ := am_bif h
  refine am_Ex.sld rfl q4 ?_
  refine am_Ex.seg 4 1189 [.ref am_SCR, .ref 0, .ref 108, .int a3] [.int (a3 + 2), .ref am_SCR, .int (sX ((a3 + 1)).toNatClampNeg), .ref 108, .int q3.1] q3.2 (fun _ => rfl) ?_
  obtain ⟨q5, h⟩ := am_bif h
  refine am_Ex.sld rfl q5 ?_
  obtain ⟨q6, h_q6, h⟩ := am_bind h
  refine am_Ex.ivk (na := 3) (b := 108) (As' := [.int (sX ((a3 + 1)).toNatClampNeg), .int (sX ((a3 + 2)).toNatClampNeg)]) rfl rfl rfl rfl rfl rfl rfl rfl rfl (e_fM_lot (d + 34) h_q6) ?_
  refine am_Ex.same 1193 [.ref am_SCR, .ref 0, .ref 108, .int a3] [.int q6.1, .int q3.1] q6.2 rfl ?_
  rcases am_ite h with ⟨q7, h⟩ | ⟨q7, h⟩
  · refine am_Ex.icmp_eq_t rfl q7 ?_
    exact e_fL_law_1725 d hk18 h
  · refine am_Ex.icmp_eq_f rfl q7 ?_
    refine am_Ex.seg 1 1197 [.ref am_SCR, .ref 0, .ref 108, .int a3] [.int 0] q6.2 (fun _ => rfl) ?_
    cases h
    exact am_Ex.zret rfl rfl (by decide)
set_option maxRecDepth 20000 in
set_option maxHeartbeats 1000000 in
theorem e_fL_law_1269 {sL : Nat} {sX : Nat → Int32} (d : Nat) {k18 : Int32 → am_Mu → Option (Int32 × am_Mu)} (hk18 : ∀ {a3 : Int32} {μ : am_Mu} {out : Int32 × am_Mu}, k18 a3 μ = some out → am_Ex (some (sL, sX)) (d + 37) 243 18 [.ref am_SCR, .ref 0, .ref 108, .int a3] [] am_SH μ (some (.int out.1), am_SH, out.2)) : ∀ {a3 : Int32} {s0 : Int32} {s2 : Int32} {s3 : Int32} {s4 : Int32} {s5 : Int32} {s6 : Int32} {μ : am_Mu} {out : Int32 × am_Mu}, fL_law_1269 sL sX k18 a3 s0 s2 s3 s4 s5 s6 μ = some out → am_Ex (some (sL, sX)) (d + 37) 243 1269 [.ref am_SCR, .ref 0, .ref 108, .int a3] [.int s6, .int s5, .int s4, .int s3, .int s2, .ref 108, .int s0] am_SH μ (some (.int out.1), am_SH, out.2) := by
  intro a3 s0 s2 s3 s4 s5 s6 μ out h
  unfold fL_law_1269 at h
  obtain ⟨q1, h_q1, h⟩ := am_bind h
  refine am_Ex.ivk (na := 6) (b := 108) (As' := [.int s2, .int s3, .int s4, .int s5, .int s6]) rfl rfl rfl rfl rfl rfl rfl rfl rfl (e_fM_pass (d + 33) h_q1) ?_
  refine am_Ex.same 1272 [.ref am_SCR, .ref 0, .ref 108, .int a3] [.int q1.1, .int s0] q1.2 rfl ?_
  rcases am_ite h with ⟨q2, h⟩ | ⟨q2, h⟩
  · refine am_Ex.icmp_eq_t rfl q2 ?_
    exact e_fL_law_1725 d hk18 h
  · refine am_Ex.icmp_eq_f rfl q2 ?_
    refine am_Ex.seg 1 1276 [.ref am_SCR, .ref 0, .ref 108, .int a3] [.int 0] q1.2 (fun _ => rfl) ?_
    cases h
    exact am_Ex.zret rfl rfl (by decide)
set_option maxRecDepth 20000 in
set_option maxHeartbeats 1000000 in
theorem e_fL_law_1232 {sL : Nat} {sX : Nat → Int32} (d : Nat) {k18 : Int32 → am_Mu → Option (Int32 × am_Mu)} (hk18 : ∀ {a3 : Int32} {μ : am_Mu} {out : Int32 × am_Mu}, k18 a3 μ = some out → am_Ex (some (sL, sX)) (d + 37) 243 18 [.ref am_SCR, .ref 0, .ref 108, .int a3] [] am_SH μ (some (.int out.1), am_SH, out.2)) : ∀ {a3 : Int32} {s1 : Int32} {s2 : Int32} {s3 : Int32} {s4 : Int32} {s5 : Int32} {μ : am_Mu} {out : Int32 × am_Mu}, fL_law_1232 sL sX k18 a3 s1 s2 s3 s4 s5 μ = some out → am_Ex (some (sL, sX)) (d + 37) 243 1232 [.ref am_SCR, .ref 0, .ref 108, .int a3] [.int s5, .int s4, .int s3, .int s2, .int s1, .ref 0] am_SH μ (some (.int out.1), am_SH, out.2) := by
  intro a3 s1 s2 s3 s4 s5 μ out h
  unfold fL_law_1232 at h
  obtain ⟨q1, h_q1, h⟩ := am_bind h
  refine am_Ex.ivk (na := 6) (b := 0) (As' := [.int s1, .int s2, .int s3, .int s4, .int s5]) rfl rfl rfl rfl rfl rfl rfl rfl rfl (e_fB_pass (d + 34) h_q1) ?_
  refine am_Ex.same 1235 [.ref am_SCR, .ref 0, .ref 108, .int a3] [.int q1.1] q1.2 rfl ?_
  refine am_Ex.seg 5 1240 [.ref am_SCR, .ref 0, .ref 108, .int a3] [.int (a3 + 1), .ref am_SCR, .ref 108, .int q1.1] q1.2 (fun _ => rfl) ?_
  obtain ⟨q2, h⟩ := am_bif h
  refine am_Ex.sld rfl q2 ?_
  refine am_Ex.seg 4 1245 [.ref am_SCR, .ref 0, .ref 108, .int a3] [.int (a3 + 2), .ref am_SCR, .int (sX ((a3 + 1)).toNatClampNeg), .ref 108, .int q1.1] q1.2 (fun _ => rfl) ?_
  obtain ⟨q3, h⟩ := am_bif h
  refine am_Ex.sld rfl q3 ?_
  refine am_Ex.seg 4 1250 [.ref am_SCR, .ref 0, .ref 108, .int a3] [.int (a3 + 3), .ref am_SCR, .int (sX ((a3 + 2)).toNatClampNeg), .int (sX ((a3 + 1)).toNatClampNeg), .ref 108, .int q1.1] q1.2 (fun _ => rfl) ?_
  obtain ⟨q4, h⟩ := am_bif h
  refine am_Ex.sld rfl q4 ?_
  refine am_Ex.seg 4 1255 [.ref am_SCR, .ref 0, .ref 108, .int a3] [.int (a3 + 4), .ref am_SCR, .int (sX ((a3 + 3)).toNatClampNeg), .int (sX ((a3 + 2)).toNatClampNeg), .int (sX ((a3 + 1)).toNatClampNeg), .ref 108, .int q1.1] q1.2 (fun _ => rfl) ?_
  obtain ⟨q5, h⟩ := am_bif h
  refine am_Ex.sld rfl q5 ?_
  refine am_Ex.seg 4 1260 [.ref am_SCR, .ref 0, .ref 108, .int a3] [.int (a3 + 5), .ref am_SCR, .int (sX ((a3 + 4)).toNatClampNeg), .int (sX ((a3 + 3)).toNatClampNeg), .int (sX ((a3 + 2)).toNatClampNeg), .int (sX ((a3 + 1)).toNatClampNeg), .ref 108, .int q1.1] q1.2 (fun _ => rfl) ?_
  obtain ⟨q6, h⟩ := am_bif h
  refine am_Ex.sld rfl q6 ?_
  rcases am_ite h with ⟨q7, h⟩ | ⟨q7, h⟩
  · refine am_Ex.if_eq_t rfl q7 ?_
    refine am_Ex.seg 1 1269 [.ref am_SCR, .ref 0, .ref 108, .int a3] [.int 0, .int (sX ((a3 + 4)).toNatClampNeg), .int (sX ((a3 + 3)).toNatClampNeg), .int (sX ((a3 + 2)).toNatClampNeg), .int (sX ((a3 + 1)).toNatClampNeg), .ref 108, .int q1.1] q1.2 (fun _ => rfl) ?_
    exact e_fL_law_1269 d hk18 h
  · refine am_Ex.if_eq_f rfl q7 ?_
    refine am_Ex.seg 1 1265 [.ref am_SCR, .ref 0, .ref 108, .int a3] [.int 1, .int (sX ((a3 + 4)).toNatClampNeg), .int (sX ((a3 + 3)).toNatClampNeg), .int (sX ((a3 + 2)).toNatClampNeg), .int (sX ((a3 + 1)).toNatClampNeg), .ref 108, .int q1.1] q1.2 (fun _ => rfl) ?_
    refine am_Ex.goto rfl ?_
    exact e_fL_law_1269 d hk18 h
set_option maxRecDepth 20000 in
set_option maxHeartbeats 1000000 in
theorem e_fL_law_1198 {sL : Nat} {sX : Nat → Int32} (d : Nat) {k18 : Int32 → am_Mu → Option (Int32 × am_Mu)} (hk18 : ∀ {a3 : Int32} {μ : am_Mu} {out : Int32 × am_Mu}, k18 a3 μ = some out → am_Ex (some (sL, sX)) (d + 37) 243 18 [.ref am_SCR, .ref 0, .ref 108, .int a3] [] am_SH μ (some (.int out.1), am_SH, out.2)) : ∀ {a3 : Int32} {μ : am_Mu} {out : Int32 × am_Mu}, fL_law_1198 sL sX k18 a3 μ = some out → am_Ex (some (sL, sX)) (d + 37) 243 1198 [.ref am_SCR, .ref 0, .ref 108, .int a3] [] am_SH μ (some (.int out.1), am_SH, out.2) := by
  intro a3 μ out h
  unfold fL_law_1198 at h
  refine am_Ex.seg 5 1203 [.ref am_SCR, .ref 0, .ref 108, .int a3] [.int (a3 + 1), .ref am_SCR, .ref 0] μ (fun _ => rfl) ?_
  obtain ⟨q1, h⟩ := am_bif h
  refine am_Ex.sld rfl q1 ?_
  refine am_Ex.seg 4 1208 [.ref am_SCR, .ref 0, .ref 108, .int a3] [.int (a3 + 2), .ref am_SCR, .int (sX ((a3 + 1)).toNatClampNeg), .ref 0] μ (fun _ => rfl) ?_
  obtain ⟨q2, h⟩ := am_bif h
  refine am_Ex.sld rfl q2 ?_
  refine am_Ex.seg 4 1213 [.ref am_SCR, .ref 0, .ref 108, .int a3] [.int (a3 + 3), .ref am_SCR, .int (sX ((a3 + 2)).toNatClampNeg), .int (sX ((a3 + 1)).toNatClampNeg), .ref 0] μ (fun _ => rfl) ?_
  obtain ⟨q3, h⟩ := am_bif h
  refine am_Ex.sld rfl q3 ?_
  refine am_Ex.seg 4 1218 [.ref am_SCR, .ref 0, .ref 108, .int a3] [.int (a3 + 4), .ref am_SCR, .int (sX ((a3 + 3)).toNatClampNeg), .int (sX ((a3 + 2)).toNatClampNeg), .int (sX ((a3 + 1)).toNatClampNeg), .ref 0] μ (fun _ => rfl) ?_
  obtain ⟨q4, h⟩ := am_bif h
  refine am_Ex.sld rfl q4 ?_
  refine am_Ex.seg 4 1223 [.ref am_SCR, .ref 0, .ref 108, .int a3] [.int (a3 + 5), .ref am_SCR, .int (sX ((a3 + 4)).toNatClampNeg), .int (sX ((a3 + 3)).toNatClampNeg), .int (sX ((a3 + 2)).toNatClampNeg), .int (sX ((a3 + 1)).toNatClampNeg), .ref 0] μ (fun _ => rfl) ?_
  obtain ⟨q5, h⟩ := am_bif h
  refine am_Ex.sld rfl q5 ?_
  rcases am_ite h with ⟨q6, h⟩ | ⟨q6, h⟩
  · refine am_Ex.if_eq_t rfl q6 ?_
    refine am_Ex.seg 1 1232 [.ref am_SCR, .ref 0, .ref 108, .int a3] [.int 0, .int (sX ((a3 + 4)).toNatClampNeg), .int (sX ((a3 + 3)).toNatClampNeg), .int (sX ((a3 + 2)).toNatClampNeg), .int (sX ((a3 + 1)).toNatClampNeg), .ref 0] μ (fun _ => rfl) ?_
    exact e_fL_law_1232 d hk18 h
  · refine am_Ex.if_eq_f rfl q6 ?_
    refine am_Ex.seg 1 1228 [.ref am_SCR, .ref 0, .ref 108, .int a3] [.int 1, .int (sX ((a3 + 4)).toNatClampNeg), .int (sX ((a3 + 3)).toNatClampNeg), .int (sX ((a3 + 2)).toNatClampNeg), .int (sX ((a3 + 1)).toNatClampNeg), .ref 0] μ (fun _ => rfl) ?_
    refine am_Ex.goto rfl ?_
    exact e_fL_law_1232 d hk18 h
set_option maxRecDepth 20000 in
set_option maxHeartbeats 1000000 in
theorem e_fL_law_1277 {sL : Nat} {sX : Nat → Int32} (d : Nat) {k18 : Int32 → am_Mu → Option (Int32 × am_Mu)} (hk18 : ∀ {a3 : Int32} {μ : am_Mu} {out : Int32 × am_Mu}, k18 a3 μ = some out → am_Ex (some (sL, sX)) (d + 37) 243 18 [.ref am_SCR, .ref 0, .ref 108, .int a3] [] am_SH μ (some (.int out.1), am_SH, out.2)) : ∀ {a3 : Int32} {μ : am_Mu} {out : Int32 × am_Mu}, fL_law_1277 sL sX k18 a3 μ = some out → am_Ex (some (sL, sX)) (d + 37) 243 1277 [.ref am_SCR, .ref 0, .ref 108, .int a3] [] am_SH μ (some (.int out.1), am_SH, out.2) := by
  intro a3 μ out h
  unfold fL_law_1277 at h
  refine am_Ex.seg 5 1282 [.ref am_SCR, .ref 0, .ref 108, .int a3] [.int (a3 + 1), .ref am_SCR, .ref 0] μ (fun _ => rfl) ?_
  obtain ⟨q1, h⟩ := am_bif h
  refine am_Ex.sld rfl q1 ?_
  refine am_Ex.seg 4 1287 [.ref am_SCR, .ref 0, .ref 108, .int a3] [.int (a3 + 2), .ref am_SCR, .int (sX ((a3 + 1)).toNatClampNeg), .ref 0] μ (fun _ => rfl) ?_
  obtain ⟨q2, h⟩ := am_bif h
  refine am_Ex.sld rfl q2 ?_
  obtain ⟨q3, h_q3, h⟩ := am_bind h
  refine am_Ex.ivk (na := 3) (b := 0) (As' := [.int (sX ((a3 + 1)).toNatClampNeg), .int (sX ((a3 + 2)).toNatClampNeg)]) rfl rfl rfl rfl rfl rfl rfl rfl rfl (e_fB_units (d + 35) h_q3) ?_
  refine am_Ex.same 1291 [.ref am_SCR, .ref 0, .ref 108, .int a3] [.int q3.1] q3.2 rfl ?_
  refine am_Ex.seg 5 1296 [.ref am_SCR, .ref 0, .ref 108, .int a3] [.int (a3 + 1), .ref am_SCR, .ref 108, .int q3.1] q3.2 (fun _ => rfl) ?_
  obtain ⟨q4, h⟩ := am_bif h
  refine am_Ex.sld rfl q4 ?_
  refine am_Ex.seg 4 1301 [.ref am_SCR, .ref 0, .ref 108, .int a3] [.int (a3 + 2), .ref am_SCR, .int (sX ((a3 + 1)).toNatClampNeg), .ref 108, .int q3.1] q3.2 (fun _ => rfl) ?_
  obtain ⟨q5, h⟩ := am_bif h
  refine am_Ex.sld rfl q5 ?_
  obtain ⟨q6, h_q6, h⟩ := am_bind h
  refine am_Ex.ivk (na := 3) (b := 108) (As' := [.int (sX ((a3 + 1)).toNatClampNeg), .int (sX ((a3 + 2)).toNatClampNeg)]) rfl rfl rfl rfl rfl rfl rfl rfl rfl (e_fM_units (d + 33) h_q6) ?_
  refine am_Ex.same 1305 [.ref am_SCR, .ref 0, .ref 108, .int a3] [.int q6.1, .int q3.1] q6.2 rfl ?_
  rcases am_ite h with ⟨q7, h⟩ | ⟨q7, h⟩
  · refine am_Ex.icmp_eq_t rfl q7 ?_
    exact e_fL_law_1725 d hk18 h
  · refine am_Ex.icmp_eq_f rfl q7 ?_
    refine am_Ex.seg 1 1309 [.ref am_SCR, .ref 0, .ref 108, .int a3] [.int 0] q6.2 (fun _ => rfl) ?_
    cases h
    exact am_Ex.zret rfl rfl (by decide)
set_option maxRecDepth 20000 in
set_option maxHeartbeats 1000000 in
theorem e_fL_law_1310 {sL : Nat} {sX : Nat → Int32} (d : Nat) {k18 : Int32 → am_Mu → Option (Int32 × am_Mu)} (hk18 : ∀ {a3 : Int32} {μ : am_Mu} {out : Int32 × am_Mu}, k18 a3 μ = some out → am_Ex (some (sL, sX)) (d + 37) 243 18 [.ref am_SCR, .ref 0, .ref 108, .int a3] [] am_SH μ (some (.int out.1), am_SH, out.2)) : ∀ {a3 : Int32} {μ : am_Mu} {out : Int32 × am_Mu}, fL_law_1310 sL sX k18 a3 μ = some out → am_Ex (some (sL, sX)) (d + 37) 243 1310 [.ref am_SCR, .ref 0, .ref 108, .int a3] [] am_SH μ (some (.int out.1), am_SH, out.2) := by
  intro a3 μ out h
  unfold fL_law_1310 at h
  refine am_Ex.seg 5 1315 [.ref am_SCR, .ref 0, .ref 108, .int a3] [.int (a3 + 1), .ref am_SCR, .ref 0] μ (fun _ => rfl) ?_
  obtain ⟨q1, h⟩ := am_bif h
  refine am_Ex.sld rfl q1 ?_
  refine am_Ex.seg 4 1320 [.ref am_SCR, .ref 0, .ref 108, .int a3] [.int (a3 + 2), .ref am_SCR, .int (sX ((a3 + 1)).toNatClampNeg), .ref 0] μ (fun _ => rfl) ?_
  obtain ⟨q2, h⟩ := am_bif h
  refine am_Ex.sld rfl q2 ?_
  refine am_Ex.seg 4 1325 [.ref am_SCR, .ref 0, .ref 108, .int a3] [.int (a3 + 3), .ref am_SCR, .int (sX ((a3 + 2)).toNatClampNeg), .int (sX ((a3 + 1)).toNatClampNeg), .ref 0] μ (fun _ => rfl) ?_
  obtain ⟨q3, h⟩ := am_bif h
  refine am_Ex.sld rfl q3 ?_
  refine am_Ex.seg 4 1330 [.ref am_SCR, .ref 0, .ref 108, .int a3] [.int (a3 + 4), .ref am_SCR, .int (sX ((a3 + 3)).toNatClampNeg), .int (sX ((a3 + 2)).toNatClampNeg), .int (sX ((a3 + 1)).toNatClampNeg), .ref 0] μ (fun _ => rfl) ?_
  obtain ⟨q4, h⟩ := am_bif h
  refine am_Ex.sld rfl q4 ?_
  obtain ⟨q5, h_q5, h⟩ := am_bind h
  refine am_Ex.ivk (na := 5) (b := 0) (As' := [.int (sX ((a3 + 1)).toNatClampNeg), .int (sX ((a3 + 2)).toNatClampNeg), .int (sX ((a3 + 3)).toNatClampNeg), .int (sX ((a3 + 4)).toNatClampNeg)]) rfl rfl rfl rfl rfl rfl rfl rfl rfl (e_fB_good (d + 33) h_q5) ?_
  refine am_Ex.same 1334 [.ref am_SCR, .ref 0, .ref 108, .int a3] [.int q5.1] q5.2 rfl ?_
  refine am_Ex.seg 5 1339 [.ref am_SCR, .ref 0, .ref 108, .int a3] [.int (a3 + 1), .ref am_SCR, .ref 108, .int q5.1] q5.2 (fun _ => rfl) ?_
  obtain ⟨q6, h⟩ := am_bif h
  refine am_Ex.sld rfl q6 ?_
  refine am_Ex.seg 4 1344 [.ref am_SCR, .ref 0, .ref 108, .int a3] [.int (a3 + 2), .ref am_SCR, .int (sX ((a3 + 1)).toNatClampNeg), .ref 108, .int q5.1] q5.2 (fun _ => rfl) ?_
  obtain ⟨q7, h⟩ := am_bif h
  refine am_Ex.sld rfl q7 ?_
  refine am_Ex.seg 4 1349 [.ref am_SCR, .ref 0, .ref 108, .int a3] [.int (a3 + 3), .ref am_SCR, .int (sX ((a3 + 2)).toNatClampNeg), .int (sX ((a3 + 1)).toNatClampNeg), .ref 108, .int q5.1] q5.2 (fun _ => rfl) ?_
  obtain ⟨q8, h⟩ := am_bif h
  refine am_Ex.sld rfl q8 ?_
  refine am_Ex.seg 4 1354 [.ref am_SCR, .ref 0, .ref 108, .int a3] [.int (a3 + 4), .ref am_SCR, .int (sX ((a3 + 3)).toNatClampNeg), .int (sX ((a3 + 2)).toNatClampNeg), .int (sX ((a3 + 1)).toNatClampNeg), .ref 108, .int q5.1] q5.2 (fun _ => rfl) ?_
  obtain ⟨q9, h⟩ := am_bif h
  refine am_Ex.sld rfl q9 ?_
  obtain ⟨q10, h_q10, h⟩ := am_bind h
  refine am_Ex.ivk (na := 5) (b := 108) (As' := [.int (sX ((a3 + 1)).toNatClampNeg), .int (sX ((a3 + 2)).toNatClampNeg), .int (sX ((a3 + 3)).toNatClampNeg), .int (sX ((a3 + 4)).toNatClampNeg)]) rfl rfl rfl rfl rfl rfl rfl rfl rfl (e_fM_good (d + 33) h_q10) ?_
  refine am_Ex.same 1358 [.ref am_SCR, .ref 0, .ref 108, .int a3] [.int q10.1, .int q5.1] q10.2 rfl ?_
  rcases am_ite h with ⟨q11, h⟩ | ⟨q11, h⟩
  · refine am_Ex.icmp_eq_t rfl q11 ?_
    exact e_fL_law_1725 d hk18 h
  · refine am_Ex.icmp_eq_f rfl q11 ?_
    refine am_Ex.seg 1 1362 [.ref am_SCR, .ref 0, .ref 108, .int a3] [.int 0] q10.2 (fun _ => rfl) ?_
    cases h
    exact am_Ex.zret rfl rfl (by decide)
set_option maxRecDepth 20000 in
set_option maxHeartbeats 1000000 in
theorem e_fL_law_1363 {sL : Nat} {sX : Nat → Int32} (d : Nat) {k18 : Int32 → am_Mu → Option (Int32 × am_Mu)} (hk18 : ∀ {a3 : Int32} {μ : am_Mu} {out : Int32 × am_Mu}, k18 a3 μ = some out → am_Ex (some (sL, sX)) (d + 37) 243 18 [.ref am_SCR, .ref 0, .ref 108, .int a3] [] am_SH μ (some (.int out.1), am_SH, out.2)) : ∀ {a3 : Int32} {μ : am_Mu} {out : Int32 × am_Mu}, fL_law_1363 sL sX k18 a3 μ = some out → am_Ex (some (sL, sX)) (d + 37) 243 1363 [.ref am_SCR, .ref 0, .ref 108, .int a3] [] am_SH μ (some (.int out.1), am_SH, out.2) := by
  intro a3 μ out h
  unfold fL_law_1363 at h
  refine am_Ex.seg 5 1368 [.ref am_SCR, .ref 0, .ref 108, .int a3] [.int (a3 + 1), .ref am_SCR, .ref 0] μ (fun _ => rfl) ?_
  obtain ⟨q1, h⟩ := am_bif h
  refine am_Ex.sld rfl q1 ?_
  obtain ⟨q2, h_q2, h⟩ := am_bind h
  refine am_Ex.ivk (na := 2) (b := 0) (As' := [.int (sX ((a3 + 1)).toNatClampNeg)]) rfl rfl rfl rfl rfl rfl rfl rfl rfl (e_fB_recall (d + 35) h_q2) ?_
  refine am_Ex.same 1372 [.ref am_SCR, .ref 0, .ref 108, .int a3] [.int q2.1] q2.2 rfl ?_
  refine am_Ex.seg 5 1377 [.ref am_SCR, .ref 0, .ref 108, .int a3] [.int (a3 + 1), .ref am_SCR, .ref 108, .int q2.1] q2.2 (fun _ => rfl) ?_
  obtain ⟨q3, h⟩ := am_bif h
  refine am_Ex.sld rfl q3 ?_
  obtain ⟨q4, h_q4, h⟩ := am_bind h
  refine am_Ex.ivk (na := 2) (b := 108) (As' := [.int (sX ((a3 + 1)).toNatClampNeg)]) rfl rfl rfl rfl rfl rfl rfl rfl rfl (e_fM_recall (d + 33) h_q4) ?_
  refine am_Ex.same 1381 [.ref am_SCR, .ref 0, .ref 108, .int a3] [.int q4.1, .int q2.1] q4.2 rfl ?_
  rcases am_ite h with ⟨q5, h⟩ | ⟨q5, h⟩
  · refine am_Ex.icmp_eq_t rfl q5 ?_
    exact e_fL_law_1725 d hk18 h
  · refine am_Ex.icmp_eq_f rfl q5 ?_
    refine am_Ex.seg 1 1385 [.ref am_SCR, .ref 0, .ref 108, .int a3] [.int 0] q4.2 (fun _ => rfl) ?_
    cases h
    exact am_Ex.zret rfl rfl (by decide)
set_option maxRecDepth 20000 in
set_option maxHeartbeats 1000000 in
theorem e_fL_law_1386 {sL : Nat} {sX : Nat → Int32} (d : Nat) {k18 : Int32 → am_Mu → Option (Int32 × am_Mu)} (hk18 : ∀ {a3 : Int32} {μ : am_Mu} {out : Int32 × am_Mu}, k18 a3 μ = some out → am_Ex (some (sL, sX)) (d + 37) 243 18 [.ref am_SCR, .ref 0, .ref 108, .int a3] [] am_SH μ (some (.int out.1), am_SH, out.2)) : ∀ {a3 : Int32} {μ : am_Mu} {out : Int32 × am_Mu}, fL_law_1386 sL sX k18 a3 μ = some out → am_Ex (some (sL, sX)) (d + 37) 243 1386 [.ref am_SCR, .ref 0, .ref 108, .int a3] [] am_SH μ (some (.int out.1), am_SH, out.2) := by
  intro a3 μ out h
  unfold fL_law_1386 at h
  refine am_Ex.seg 5 1391 [.ref am_SCR, .ref 0, .ref 108, .int a3] [.int (a3 + 1), .ref am_SCR, .ref 0] μ (fun _ => rfl) ?_
  obtain ⟨q1, h⟩ := am_bif h
  refine am_Ex.sld rfl q1 ?_
  refine am_Ex.seg 4 1396 [.ref am_SCR, .ref 0, .ref 108, .int a3] [.int (a3 + 2), .ref am_SCR, .int (sX ((a3 + 1)).toNatClampNeg), .ref 0] μ (fun _ => rfl) ?_
  obtain ⟨q2, h⟩ := am_bif h
  refine am_Ex.sld rfl q2 ?_
  obtain ⟨q3, h_q3, h⟩ := am_bind h
  refine am_Ex.ivk (na := 3) (b := 0) (As' := [.int (sX ((a3 + 1)).toNatClampNeg), .int (sX ((a3 + 2)).toNatClampNeg)]) rfl rfl rfl rfl rfl rfl rfl rfl rfl (e_fB_visitor (d + 34) h_q3) ?_
  refine am_Ex.same 1400 [.ref am_SCR, .ref 0, .ref 108, .int a3] [.int q3.1] q3.2 rfl ?_
  refine am_Ex.seg 5 1405 [.ref am_SCR, .ref 0, .ref 108, .int a3] [.int (a3 + 1), .ref am_SCR, .ref 108, .int q3.1] q3.2 (fun _ => rfl) ?_
  obtain ⟨q4, h⟩ := am_bif h
  refine am_Ex.sld rfl q4 ?_
  refine am_Ex.seg 4 1410 [.ref am_SCR, .ref 0, .ref 108, .int a3] [.int (a3 + 2), .ref am_SCR, .int (sX ((a3 + 1)).toNatClampNeg), .ref 108, .int q3.1] q3.2 (fun _ => rfl) ?_
  obtain ⟨q5, h⟩ := am_bif h
  refine am_Ex.sld rfl q5 ?_
  obtain ⟨q6, h_q6, h⟩ := am_bind h
  refine am_Ex.ivk (na := 3) (b := 108) (As' := [.int (sX ((a3 + 1)).toNatClampNeg), .int (sX ((a3 + 2)).toNatClampNeg)]) rfl rfl rfl rfl rfl rfl rfl rfl rfl (e_fM_visitor (d + 35) h_q6) ?_
  refine am_Ex.same 1414 [.ref am_SCR, .ref 0, .ref 108, .int a3] [.int q6.1, .int q3.1] q6.2 rfl ?_
  rcases am_ite h with ⟨q7, h⟩ | ⟨q7, h⟩
  · refine am_Ex.icmp_eq_t rfl q7 ?_
    exact e_fL_law_1725 d hk18 h
  · refine am_Ex.icmp_eq_f rfl q7 ?_
    refine am_Ex.seg 1 1418 [.ref am_SCR, .ref 0, .ref 108, .int a3] [.int 0] q6.2 (fun _ => rfl) ?_
    cases h
    exact am_Ex.zret rfl rfl (by decide)
set_option maxRecDepth 20000 in
set_option maxHeartbeats 1000000 in
theorem e_fL_law_1419 {sL : Nat} {sX : Nat → Int32} (d : Nat) {k18 : Int32 → am_Mu → Option (Int32 × am_Mu)} (hk18 : ∀ {a3 : Int32} {μ : am_Mu} {out : Int32 × am_Mu}, k18 a3 μ = some out → am_Ex (some (sL, sX)) (d + 37) 243 18 [.ref am_SCR, .ref 0, .ref 108, .int a3] [] am_SH μ (some (.int out.1), am_SH, out.2)) : ∀ {a3 : Int32} {μ : am_Mu} {out : Int32 × am_Mu}, fL_law_1419 sL sX k18 a3 μ = some out → am_Ex (some (sL, sX)) (d + 37) 243 1419 [.ref am_SCR, .ref 0, .ref 108, .int a3] [] am_SH μ (some (.int out.1), am_SH, out.2) := by
  intro a3 μ out h
  unfold fL_law_1419 at h
  refine am_Ex.seg 5 1424 [.ref am_SCR, .ref 0, .ref 108, .int a3] [.int (a3 + 1), .ref am_SCR, .ref 0] μ (fun _ => rfl) ?_
  obtain ⟨q1, h⟩ := am_bif h
  refine am_Ex.sld rfl q1 ?_
  refine am_Ex.seg 4 1429 [.ref am_SCR, .ref 0, .ref 108, .int a3] [.int (a3 + 2), .ref am_SCR, .int (sX ((a3 + 1)).toNatClampNeg), .ref 0] μ (fun _ => rfl) ?_
  obtain ⟨q2, h⟩ := am_bif h
  refine am_Ex.sld rfl q2 ?_
  obtain ⟨q3, h_q3, h⟩ := am_bind h
  refine am_Ex.ivk (na := 3) (b := 0) (As' := [.int (sX ((a3 + 1)).toNatClampNeg), .int (sX ((a3 + 2)).toNatClampNeg)]) rfl rfl rfl rfl rfl rfl rfl rfl rfl (e_fB_seed (d + 35) h_q3) ?_
  refine am_Ex.same 1433 [.ref am_SCR, .ref 0, .ref 108, .int a3] [.int q3.1] q3.2 rfl ?_
  refine am_Ex.seg 5 1438 [.ref am_SCR, .ref 0, .ref 108, .int a3] [.int (a3 + 1), .ref am_SCR, .ref 108, .int q3.1] q3.2 (fun _ => rfl) ?_
  obtain ⟨q4, h⟩ := am_bif h
  refine am_Ex.sld rfl q4 ?_
  refine am_Ex.seg 4 1443 [.ref am_SCR, .ref 0, .ref 108, .int a3] [.int (a3 + 2), .ref am_SCR, .int (sX ((a3 + 1)).toNatClampNeg), .ref 108, .int q3.1] q3.2 (fun _ => rfl) ?_
  obtain ⟨q5, h⟩ := am_bif h
  refine am_Ex.sld rfl q5 ?_
  obtain ⟨q6, h_q6, h⟩ := am_bind h
  refine am_Ex.ivk (na := 3) (b := 108) (As' := [.int (sX ((a3 + 1)).toNatClampNeg), .int (sX ((a3 + 2)).toNatClampNeg)]) rfl rfl rfl rfl rfl rfl rfl rfl rfl (e_fM_seed (d + 35) h_q6) ?_
  refine am_Ex.same 1447 [.ref am_SCR, .ref 0, .ref 108, .int a3] [.int q6.1, .int q3.1] q6.2 rfl ?_
  rcases am_ite h with ⟨q7, h⟩ | ⟨q7, h⟩
  · refine am_Ex.icmp_eq_t rfl q7 ?_
    exact e_fL_law_1725 d hk18 h
  · refine am_Ex.icmp_eq_f rfl q7 ?_
    refine am_Ex.seg 1 1451 [.ref am_SCR, .ref 0, .ref 108, .int a3] [.int 0] q6.2 (fun _ => rfl) ?_
    cases h
    exact am_Ex.zret rfl rfl (by decide)
set_option maxRecDepth 20000 in
set_option maxHeartbeats 1000000 in
theorem e_fL_law_1452 {sL : Nat} {sX : Nat → Int32} (d : Nat) {k18 : Int32 → am_Mu → Option (Int32 × am_Mu)} (hk18 : ∀ {a3 : Int32} {μ : am_Mu} {out : Int32 × am_Mu}, k18 a3 μ = some out → am_Ex (some (sL, sX)) (d + 37) 243 18 [.ref am_SCR, .ref 0, .ref 108, .int a3] [] am_SH μ (some (.int out.1), am_SH, out.2)) : ∀ {a3 : Int32} {μ : am_Mu} {out : Int32 × am_Mu}, fL_law_1452 sL sX k18 a3 μ = some out → am_Ex (some (sL, sX)) (d + 37) 243 1452 [.ref am_SCR, .ref 0, .ref 108, .int a3] [] am_SH μ (some (.int out.1), am_SH, out.2) := by
  intro a3 μ out h
  unfold fL_law_1452 at h
  refine am_Ex.seg 1 1453 [.ref am_SCR, .ref 0, .ref 108, .int a3] [.ref 0] μ (fun _ => rfl) ?_
  obtain ⟨q1, h_q1, h⟩ := am_bind h
  refine am_Ex.ivk (na := 1) (b := 0) (As' := []) rfl rfl rfl rfl rfl rfl rfl rfl rfl (e_fB_draw (d + 33) h_q1) ?_
  refine am_Ex.same 1456 [.ref am_SCR, .ref 0, .ref 108, .int a3] [.int q1.1] q1.2 rfl ?_
  refine am_Ex.seg 1 1457 [.ref am_SCR, .ref 0, .ref 108, .int a3] [.ref 108, .int q1.1] q1.2 (fun _ => rfl) ?_
  obtain ⟨q2, h_q2, h⟩ := am_bind h
  refine am_Ex.ivk (na := 1) (b := 108) (As' := []) rfl rfl rfl rfl rfl rfl rfl rfl rfl (e_fM_draw (d + 32) h_q2) ?_
  refine am_Ex.same 1460 [.ref am_SCR, .ref 0, .ref 108, .int a3] [.int q2.1, .int q1.1] q2.2 rfl ?_
  rcases am_ite h with ⟨q3, h⟩ | ⟨q3, h⟩
  · refine am_Ex.icmp_eq_t rfl q3 ?_
    exact e_fL_law_1725 d hk18 h
  · refine am_Ex.icmp_eq_f rfl q3 ?_
    refine am_Ex.seg 1 1464 [.ref am_SCR, .ref 0, .ref 108, .int a3] [.int 0] q2.2 (fun _ => rfl) ?_
    cases h
    exact am_Ex.zret rfl rfl (by decide)
set_option maxRecDepth 20000 in
set_option maxHeartbeats 1000000 in
theorem e_fL_law_1465 {sL : Nat} {sX : Nat → Int32} (d : Nat) {k18 : Int32 → am_Mu → Option (Int32 × am_Mu)} (hk18 : ∀ {a3 : Int32} {μ : am_Mu} {out : Int32 × am_Mu}, k18 a3 μ = some out → am_Ex (some (sL, sX)) (d + 37) 243 18 [.ref am_SCR, .ref 0, .ref 108, .int a3] [] am_SH μ (some (.int out.1), am_SH, out.2)) : ∀ {a3 : Int32} {μ : am_Mu} {out : Int32 × am_Mu}, fL_law_1465 sL sX k18 a3 μ = some out → am_Ex (some (sL, sX)) (d + 37) 243 1465 [.ref am_SCR, .ref 0, .ref 108, .int a3] [] am_SH μ (some (.int out.1), am_SH, out.2) := by
  intro a3 μ out h
  unfold fL_law_1465 at h
  refine am_Ex.seg 1 1466 [.ref am_SCR, .ref 0, .ref 108, .int a3] [.ref 0] μ (fun _ => rfl) ?_
  obtain ⟨q1, h_q1, h⟩ := am_bind h
  refine am_Ex.ivk (na := 1) (b := 0) (As' := []) rfl rfl rfl rfl rfl rfl rfl rfl rfl (e_fB_row (d + 34) h_q1) ?_
  refine am_Ex.same 1469 [.ref am_SCR, .ref 0, .ref 108, .int a3] [.int q1.1] q1.2 rfl ?_
  refine am_Ex.seg 1 1470 [.ref am_SCR, .ref 0, .ref 108, .int a3] [.ref 108, .int q1.1] q1.2 (fun _ => rfl) ?_
  obtain ⟨q2, h_q2, h⟩ := am_bind h
  refine am_Ex.ivk (na := 1) (b := 108) (As' := []) rfl rfl rfl rfl rfl rfl rfl rfl rfl (e_fM_row (d + 32) h_q2) ?_
  refine am_Ex.same 1473 [.ref am_SCR, .ref 0, .ref 108, .int a3] [.int q2.1, .int q1.1] q2.2 rfl ?_
  rcases am_ite h with ⟨q3, h⟩ | ⟨q3, h⟩
  · refine am_Ex.icmp_eq_t rfl q3 ?_
    exact e_fL_law_1725 d hk18 h
  · refine am_Ex.icmp_eq_f rfl q3 ?_
    refine am_Ex.seg 1 1477 [.ref am_SCR, .ref 0, .ref 108, .int a3] [.int 0] q2.2 (fun _ => rfl) ?_
    cases h
    exact am_Ex.zret rfl rfl (by decide)
set_option maxRecDepth 20000 in
set_option maxHeartbeats 1000000 in
theorem e_fL_law_1478 {sL : Nat} {sX : Nat → Int32} (d : Nat) {k18 : Int32 → am_Mu → Option (Int32 × am_Mu)} (hk18 : ∀ {a3 : Int32} {μ : am_Mu} {out : Int32 × am_Mu}, k18 a3 μ = some out → am_Ex (some (sL, sX)) (d + 37) 243 18 [.ref am_SCR, .ref 0, .ref 108, .int a3] [] am_SH μ (some (.int out.1), am_SH, out.2)) : ∀ {a3 : Int32} {μ : am_Mu} {out : Int32 × am_Mu}, fL_law_1478 sL sX k18 a3 μ = some out → am_Ex (some (sL, sX)) (d + 37) 243 1478 [.ref am_SCR, .ref 0, .ref 108, .int a3] [] am_SH μ (some (.int out.1), am_SH, out.2) := by
  intro a3 μ out h
  unfold fL_law_1478 at h
  refine am_Ex.seg 5 1483 [.ref am_SCR, .ref 0, .ref 108, .int a3] [.int (a3 + 1), .ref am_SCR, .ref 0] μ (fun _ => rfl) ?_
  obtain ⟨q1, h⟩ := am_bif h
  refine am_Ex.sld rfl q1 ?_
  refine am_Ex.seg 4 1488 [.ref am_SCR, .ref 0, .ref 108, .int a3] [.int (a3 + 2), .ref am_SCR, .int (sX ((a3 + 1)).toNatClampNeg), .ref 0] μ (fun _ => rfl) ?_
  obtain ⟨q2, h⟩ := am_bif h
  refine am_Ex.sld rfl q2 ?_
  obtain ⟨q3, h_q3, h⟩ := am_bind h
  refine am_Ex.ivk (na := 3) (b := 0) (As' := [.int (sX ((a3 + 1)).toNatClampNeg), .int (sX ((a3 + 2)).toNatClampNeg)]) rfl rfl rfl rfl rfl rfl rfl rfl rfl (e_fB_visit (d + 35) h_q3) ?_
  refine am_Ex.same 1492 [.ref am_SCR, .ref 0, .ref 108, .int a3] [.int q3.1] q3.2 rfl ?_
  refine am_Ex.seg 5 1497 [.ref am_SCR, .ref 0, .ref 108, .int a3] [.int (a3 + 1), .ref am_SCR, .ref 108, .int q3.1] q3.2 (fun _ => rfl) ?_
  obtain ⟨q4, h⟩ := am_bif h
  refine am_Ex.sld rfl q4 ?_
  refine am_Ex.seg 4 1502 [.ref am_SCR, .ref 0, .ref 108, .int a3] [.int (a3 + 2), .ref am_SCR, .int (sX ((a3 + 1)).toNatClampNeg), .ref 108, .int q3.1] q3.2 (fun _ => rfl) ?_
  obtain ⟨q5, h⟩ := am_bif h
  refine am_Ex.sld rfl q5 ?_
  obtain ⟨q6, h_q6, h⟩ := am_bind h
  refine am_Ex.ivk (na := 3) (b := 108) (As' := [.int (sX ((a3 + 1)).toNatClampNeg), .int (sX ((a3 + 2)).toNatClampNeg)]) rfl rfl rfl rfl rfl rfl rfl rfl rfl (e_fM_visit (d + 35) h_q6) ?_
  refine am_Ex.same 1506 [.ref am_SCR, .ref 0, .ref 108, .int a3] [.int q6.1, .int q3.1] q6.2 rfl ?_
  rcases am_ite h with ⟨q7, h⟩ | ⟨q7, h⟩
  · refine am_Ex.icmp_eq_t rfl q7 ?_
    exact e_fL_law_1725 d hk18 h
  · refine am_Ex.icmp_eq_f rfl q7 ?_
    refine am_Ex.seg 1 1510 [.ref am_SCR, .ref 0, .ref 108, .int a3] [.int 0] q6.2 (fun _ => rfl) ?_
    cases h
    exact am_Ex.zret rfl rfl (by decide)
set_option maxRecDepth 20000 in
set_option maxHeartbeats 1000000 in
theorem e_fL_law_1511 {sL : Nat} {sX : Nat → Int32} (d : Nat) {k18 : Int32 → am_Mu → Option (Int32 × am_Mu)} (hk18 : ∀ {a3 : Int32} {μ : am_Mu} {out : Int32 × am_Mu}, k18 a3 μ = some out → am_Ex (some (sL, sX)) (d + 37) 243 18 [.ref am_SCR, .ref 0, .ref 108, .int a3] [] am_SH μ (some (.int out.1), am_SH, out.2)) : ∀ {a3 : Int32} {μ : am_Mu} {out : Int32 × am_Mu}, fL_law_1511 sL sX k18 a3 μ = some out → am_Ex (some (sL, sX)) (d + 37) 243 1511 [.ref am_SCR, .ref 0, .ref 108, .int a3] [] am_SH μ (some (.int out.1), am_SH, out.2) := by
  intro a3 μ out h
  unfold fL_law_1511 at h
  refine am_Ex.seg 5 1516 [.ref am_SCR, .ref 0, .ref 108, .int a3] [.int (a3 + 1), .ref am_SCR, .ref 0] μ (fun _ => rfl) ?_
  obtain ⟨q1, h⟩ := am_bif h
  refine am_Ex.sld rfl q1 ?_
  obtain ⟨q2, h_q2, h⟩ := am_bind h
  refine am_Ex.ivk (na := 2) (b := 0) (As' := [.int (sX ((a3 + 1)).toNatClampNeg)]) rfl rfl rfl rfl rfl rfl rfl rfl rfl (e_fB_tour (d + 30) h_q2) ?_
  refine am_Ex.same 1520 [.ref am_SCR, .ref 0, .ref 108, .int a3] [.int q2.1] q2.2 rfl ?_
  refine am_Ex.seg 5 1525 [.ref am_SCR, .ref 0, .ref 108, .int a3] [.int (a3 + 1), .ref am_SCR, .ref 108, .int q2.1] q2.2 (fun _ => rfl) ?_
  obtain ⟨q3, h⟩ := am_bif h
  refine am_Ex.sld rfl q3 ?_
  obtain ⟨q4, h_q4, h⟩ := am_bind h
  refine am_Ex.ivk (na := 2) (b := 108) (As' := [.int (sX ((a3 + 1)).toNatClampNeg)]) rfl rfl rfl rfl rfl rfl rfl rfl rfl (e_fM_tour (d + 33) h_q4) ?_
  refine am_Ex.same 1529 [.ref am_SCR, .ref 0, .ref 108, .int a3] [.int q4.1, .int q2.1] q4.2 rfl ?_
  rcases am_ite h with ⟨q5, h⟩ | ⟨q5, h⟩
  · refine am_Ex.icmp_eq_t rfl q5 ?_
    exact e_fL_law_1725 d hk18 h
  · refine am_Ex.icmp_eq_f rfl q5 ?_
    refine am_Ex.seg 1 1533 [.ref am_SCR, .ref 0, .ref 108, .int a3] [.int 0] q4.2 (fun _ => rfl) ?_
    cases h
    exact am_Ex.zret rfl rfl (by decide)
set_option maxRecDepth 20000 in
set_option maxHeartbeats 1000000 in
theorem e_fL_law_1534 {sL : Nat} {sX : Nat → Int32} (d : Nat) {k18 : Int32 → am_Mu → Option (Int32 × am_Mu)} (hk18 : ∀ {a3 : Int32} {μ : am_Mu} {out : Int32 × am_Mu}, k18 a3 μ = some out → am_Ex (some (sL, sX)) (d + 37) 243 18 [.ref am_SCR, .ref 0, .ref 108, .int a3] [] am_SH μ (some (.int out.1), am_SH, out.2)) : ∀ {a3 : Int32} {μ : am_Mu} {out : Int32 × am_Mu}, fL_law_1534 sL sX k18 a3 μ = some out → am_Ex (some (sL, sX)) (d + 37) 243 1534 [.ref am_SCR, .ref 0, .ref 108, .int a3] [] am_SH μ (some (.int out.1), am_SH, out.2) := by
  intro a3 μ out h
  unfold fL_law_1534 at h
  refine am_Ex.seg 5 1539 [.ref am_SCR, .ref 0, .ref 108, .int a3] [.int (a3 + 1), .ref am_SCR, .ref 0] μ (fun _ => rfl) ?_
  obtain ⟨q1, h⟩ := am_bif h
  refine am_Ex.sld rfl q1 ?_
  refine am_Ex.seg 4 1544 [.ref am_SCR, .ref 0, .ref 108, .int a3] [.int (a3 + 2), .ref am_SCR, .int (sX ((a3 + 1)).toNatClampNeg), .ref 0] μ (fun _ => rfl) ?_
  obtain ⟨q2, h⟩ := am_bif h
  refine am_Ex.sld rfl q2 ?_
  obtain ⟨q3, h_q3, h⟩ := am_bind h
  refine am_Ex.ivk (na := 3) (b := 0) (As' := [.int (sX ((a3 + 1)).toNatClampNeg), .int (sX ((a3 + 2)).toNatClampNeg)]) rfl rfl rfl rfl rfl rfl rfl rfl rfl (e_fB_stop (d + 30) h_q3) ?_
  refine am_Ex.same 1548 [.ref am_SCR, .ref 0, .ref 108, .int a3] [.int q3.1] q3.2 rfl ?_
  refine am_Ex.seg 5 1553 [.ref am_SCR, .ref 0, .ref 108, .int a3] [.int (a3 + 1), .ref am_SCR, .ref 108, .int q3.1] q3.2 (fun _ => rfl) ?_
  obtain ⟨q4, h⟩ := am_bif h
  refine am_Ex.sld rfl q4 ?_
  refine am_Ex.seg 4 1558 [.ref am_SCR, .ref 0, .ref 108, .int a3] [.int (a3 + 2), .ref am_SCR, .int (sX ((a3 + 1)).toNatClampNeg), .ref 108, .int q3.1] q3.2 (fun _ => rfl) ?_
  obtain ⟨q5, h⟩ := am_bif h
  refine am_Ex.sld rfl q5 ?_
  obtain ⟨q6, h_q6, h⟩ := am_bind h
  refine am_Ex.ivk (na := 3) (b := 108) (As' := [.int (sX ((a3 + 1)).toNatClampNeg), .int (sX ((a3 + 2)).toNatClampNeg)]) rfl rfl rfl rfl rfl rfl rfl rfl rfl (e_fM_stop (d + 33) h_q6) ?_
  refine am_Ex.same 1562 [.ref am_SCR, .ref 0, .ref 108, .int a3] [.int q6.1, .int q3.1] q6.2 rfl ?_
  rcases am_ite h with ⟨q7, h⟩ | ⟨q7, h⟩
  · refine am_Ex.icmp_eq_t rfl q7 ?_
    exact e_fL_law_1725 d hk18 h
  · refine am_Ex.icmp_eq_f rfl q7 ?_
    refine am_Ex.seg 1 1566 [.ref am_SCR, .ref 0, .ref 108, .int a3] [.int 0] q6.2 (fun _ => rfl) ?_
    cases h
    exact am_Ex.zret rfl rfl (by decide)
set_option maxRecDepth 20000 in
set_option maxHeartbeats 1000000 in
theorem e_fL_law_1628 {sL : Nat} {sX : Nat → Int32} (d : Nat) {k18 : Int32 → am_Mu → Option (Int32 × am_Mu)} (hk18 : ∀ {a3 : Int32} {μ : am_Mu} {out : Int32 × am_Mu}, k18 a3 μ = some out → am_Ex (some (sL, sX)) (d + 37) 243 18 [.ref am_SCR, .ref 0, .ref 108, .int a3] [] am_SH μ (some (.int out.1), am_SH, out.2)) : ∀ {a3 : Int32} {s0 : Int32} {s2 : Int32} {s3 : Int32} {s4 : Int32} {s5 : Int32} {μ : am_Mu} {out : Int32 × am_Mu}, fL_law_1628 sL sX k18 a3 s0 s2 s3 s4 s5 μ = some out → am_Ex (some (sL, sX)) (d + 37) 243 1628 [.ref am_SCR, .ref 0, .ref 108, .int a3] [.int s5, .int s4, .int s3, .int s2, .ref 108, .int s0] am_SH μ (some (.int out.1), am_SH, out.2) := by
  intro a3 s0 s2 s3 s4 s5 μ out h
  unfold fL_law_1628 at h
  obtain ⟨q1, h_q1, h⟩ := am_bind h
  refine am_Ex.ivk (na := 5) (b := 108) (As' := [.int s2, .int s3, .int s4, .int s5]) rfl rfl rfl rfl rfl rfl rfl rfl rfl (e_fM_word (d + 34) h_q1) ?_
  refine am_Ex.same 1631 [.ref am_SCR, .ref 0, .ref 108, .int a3] [.int q1.1, .int s0] q1.2 rfl ?_
  rcases am_ite h with ⟨q2, h⟩ | ⟨q2, h⟩
  · refine am_Ex.icmp_eq_t rfl q2 ?_
    exact e_fL_law_1725 d hk18 h
  · refine am_Ex.icmp_eq_f rfl q2 ?_
    refine am_Ex.seg 1 1635 [.ref am_SCR, .ref 0, .ref 108, .int a3] [.int 0] q1.2 (fun _ => rfl) ?_
    cases h
    exact am_Ex.zret rfl rfl (by decide)
set_option maxRecDepth 20000 in
set_option maxHeartbeats 1000000 in
theorem e_fL_law_1596 {sL : Nat} {sX : Nat → Int32} (d : Nat) {k18 : Int32 → am_Mu → Option (Int32 × am_Mu)} (hk18 : ∀ {a3 : Int32} {μ : am_Mu} {out : Int32 × am_Mu}, k18 a3 μ = some out → am_Ex (some (sL, sX)) (d + 37) 243 18 [.ref am_SCR, .ref 0, .ref 108, .int a3] [] am_SH μ (some (.int out.1), am_SH, out.2)) : ∀ {a3 : Int32} {s1 : Int32} {s2 : Int32} {s3 : Int32} {s4 : Int32} {μ : am_Mu} {out : Int32 × am_Mu}, fL_law_1596 sL sX k18 a3 s1 s2 s3 s4 μ = some out → am_Ex (some (sL, sX)) (d + 37) 243 1596 [.ref am_SCR, .ref 0, .ref 108, .int a3] [.int s4, .int s3, .int s2, .int s1, .ref 0] am_SH μ (some (.int out.1), am_SH, out.2) := by
  intro a3 s1 s2 s3 s4 μ out h
  unfold fL_law_1596 at h
  obtain ⟨q1, h_q1, h⟩ := am_bind h
  refine am_Ex.ivk (na := 5) (b := 0) (As' := [.int s1, .int s2, .int s3, .int s4]) rfl rfl rfl rfl rfl rfl rfl rfl rfl (e_fB_word (d + 35) h_q1) ?_
  refine am_Ex.same 1599 [.ref am_SCR, .ref 0, .ref 108, .int a3] [.int q1.1] q1.2 rfl ?_
  refine am_Ex.seg 5 1604 [.ref am_SCR, .ref 0, .ref 108, .int a3] [.int (a3 + 1), .ref am_SCR, .ref 108, .int q1.1] q1.2 (fun _ => rfl) ?_
  obtain ⟨q2, h⟩ := am_bif h
  refine am_Ex.sld rfl q2 ?_
  refine am_Ex.seg 4 1609 [.ref am_SCR, .ref 0, .ref 108, .int a3] [.int (a3 + 2), .ref am_SCR, .int (sX ((a3 + 1)).toNatClampNeg), .ref 108, .int q1.1] q1.2 (fun _ => rfl) ?_
  obtain ⟨q3, h⟩ := am_bif h
  refine am_Ex.sld rfl q3 ?_
  refine am_Ex.seg 4 1614 [.ref am_SCR, .ref 0, .ref 108, .int a3] [.int (a3 + 3), .ref am_SCR, .int (sX ((a3 + 2)).toNatClampNeg), .int (sX ((a3 + 1)).toNatClampNeg), .ref 108, .int q1.1] q1.2 (fun _ => rfl) ?_
  obtain ⟨q4, h⟩ := am_bif h
  refine am_Ex.sld rfl q4 ?_
  refine am_Ex.seg 4 1619 [.ref am_SCR, .ref 0, .ref 108, .int a3] [.int (a3 + 4), .ref am_SCR, .int (sX ((a3 + 3)).toNatClampNeg), .int (sX ((a3 + 2)).toNatClampNeg), .int (sX ((a3 + 1)).toNatClampNeg), .ref 108, .int q1.1] q1.2 (fun _ => rfl) ?_
  obtain ⟨q5, h⟩ := am_bif h
  refine am_Ex.sld rfl q5 ?_
  rcases am_ite h with ⟨q6, h⟩ | ⟨q6, h⟩
  · refine am_Ex.if_eq_t rfl q6 ?_
    refine am_Ex.seg 1 1628 [.ref am_SCR, .ref 0, .ref 108, .int a3] [.int 0, .int (sX ((a3 + 3)).toNatClampNeg), .int (sX ((a3 + 2)).toNatClampNeg), .int (sX ((a3 + 1)).toNatClampNeg), .ref 108, .int q1.1] q1.2 (fun _ => rfl) ?_
    exact e_fL_law_1628 d hk18 h
  · refine am_Ex.if_eq_f rfl q6 ?_
    refine am_Ex.seg 1 1624 [.ref am_SCR, .ref 0, .ref 108, .int a3] [.int 1, .int (sX ((a3 + 3)).toNatClampNeg), .int (sX ((a3 + 2)).toNatClampNeg), .int (sX ((a3 + 1)).toNatClampNeg), .ref 108, .int q1.1] q1.2 (fun _ => rfl) ?_
    refine am_Ex.goto rfl ?_
    exact e_fL_law_1628 d hk18 h
set_option maxRecDepth 20000 in
set_option maxHeartbeats 1000000 in
theorem e_fL_law_1567 {sL : Nat} {sX : Nat → Int32} (d : Nat) {k18 : Int32 → am_Mu → Option (Int32 × am_Mu)} (hk18 : ∀ {a3 : Int32} {μ : am_Mu} {out : Int32 × am_Mu}, k18 a3 μ = some out → am_Ex (some (sL, sX)) (d + 37) 243 18 [.ref am_SCR, .ref 0, .ref 108, .int a3] [] am_SH μ (some (.int out.1), am_SH, out.2)) : ∀ {a3 : Int32} {μ : am_Mu} {out : Int32 × am_Mu}, fL_law_1567 sL sX k18 a3 μ = some out → am_Ex (some (sL, sX)) (d + 37) 243 1567 [.ref am_SCR, .ref 0, .ref 108, .int a3] [] am_SH μ (some (.int out.1), am_SH, out.2) := by
  intro a3 μ out h
  unfold fL_law_1567 at h
  refine am_Ex.seg 5 1572 [.ref am_SCR, .ref 0, .ref 108, .int a3] [.int (a3 + 1), .ref am_SCR, .ref 0] μ (fun _ => rfl) ?_
  obtain ⟨q1, h⟩ := am_bif h
  refine am_Ex.sld rfl q1 ?_
  refine am_Ex.seg 4 1577 [.ref am_SCR, .ref 0, .ref 108, .int a3] [.int (a3 + 2), .ref am_SCR, .int (sX ((a3 + 1)).toNatClampNeg), .ref 0] μ (fun _ => rfl) ?_
  obtain ⟨q2, h⟩ := am_bif h
  refine am_Ex.sld rfl q2 ?_
  refine am_Ex.seg 4 1582 [.ref am_SCR, .ref 0, .ref 108, .int a3] [.int (a3 + 3), .ref am_SCR, .int (sX ((a3 + 2)).toNatClampNeg), .int (sX ((a3 + 1)).toNatClampNeg), .ref 0] μ (fun _ => rfl) ?_
  obtain ⟨q3, h⟩ := am_bif h
  refine am_Ex.sld rfl q3 ?_
  refine am_Ex.seg 4 1587 [.ref am_SCR, .ref 0, .ref 108, .int a3] [.int (a3 + 4), .ref am_SCR, .int (sX ((a3 + 3)).toNatClampNeg), .int (sX ((a3 + 2)).toNatClampNeg), .int (sX ((a3 + 1)).toNatClampNeg), .ref 0] μ (fun _ => rfl) ?_
  obtain ⟨q4, h⟩ := am_bif h
  refine am_Ex.sld rfl q4 ?_
  rcases am_ite h with ⟨q5, h⟩ | ⟨q5, h⟩
  · refine am_Ex.if_eq_t rfl q5 ?_
    refine am_Ex.seg 1 1596 [.ref am_SCR, .ref 0, .ref 108, .int a3] [.int 0, .int (sX ((a3 + 3)).toNatClampNeg), .int (sX ((a3 + 2)).toNatClampNeg), .int (sX ((a3 + 1)).toNatClampNeg), .ref 0] μ (fun _ => rfl) ?_
    exact e_fL_law_1596 d hk18 h
  · refine am_Ex.if_eq_f rfl q5 ?_
    refine am_Ex.seg 1 1592 [.ref am_SCR, .ref 0, .ref 108, .int a3] [.int 1, .int (sX ((a3 + 3)).toNatClampNeg), .int (sX ((a3 + 2)).toNatClampNeg), .int (sX ((a3 + 1)).toNatClampNeg), .ref 0] μ (fun _ => rfl) ?_
    refine am_Ex.goto rfl ?_
    exact e_fL_law_1596 d hk18 h
set_option maxRecDepth 20000 in
set_option maxHeartbeats 1000000 in
theorem e_fL_law_1636 {sL : Nat} {sX : Nat → Int32} (d : Nat) {k18 : Int32 → am_Mu → Option (Int32 × am_Mu)} (hk18 : ∀ {a3 : Int32} {μ : am_Mu} {out : Int32 × am_Mu}, k18 a3 μ = some out → am_Ex (some (sL, sX)) (d + 37) 243 18 [.ref am_SCR, .ref 0, .ref 108, .int a3] [] am_SH μ (some (.int out.1), am_SH, out.2)) : ∀ {a3 : Int32} {μ : am_Mu} {out : Int32 × am_Mu}, fL_law_1636 sL sX k18 a3 μ = some out → am_Ex (some (sL, sX)) (d + 37) 243 1636 [.ref am_SCR, .ref 0, .ref 108, .int a3] [] am_SH μ (some (.int out.1), am_SH, out.2) := by
  intro a3 μ out h
  unfold fL_law_1636 at h
  refine am_Ex.seg 5 1641 [.ref am_SCR, .ref 0, .ref 108, .int a3] [.int (a3 + 1), .ref am_SCR, .ref 0] μ (fun _ => rfl) ?_
  obtain ⟨q1, h⟩ := am_bif h
  refine am_Ex.sld rfl q1 ?_
  refine am_Ex.seg 4 1646 [.ref am_SCR, .ref 0, .ref 108, .int a3] [.int (a3 + 2), .ref am_SCR, .int (sX ((a3 + 1)).toNatClampNeg), .ref 0] μ (fun _ => rfl) ?_
  obtain ⟨q2, h⟩ := am_bif h
  refine am_Ex.sld rfl q2 ?_
  obtain ⟨q3, h_q3, h⟩ := am_bind h
  refine am_Ex.ivk (na := 3) (b := 0) (As' := [.int (sX ((a3 + 1)).toNatClampNeg), .int (sX ((a3 + 2)).toNatClampNeg)]) rfl rfl rfl rfl rfl rfl rfl rfl rfl (e_fB_believed (d + 34) h_q3) ?_
  refine am_Ex.same 1650 [.ref am_SCR, .ref 0, .ref 108, .int a3] [.int q3.1] q3.2 rfl ?_
  refine am_Ex.seg 5 1655 [.ref am_SCR, .ref 0, .ref 108, .int a3] [.int (a3 + 1), .ref am_SCR, .ref 108, .int q3.1] q3.2 (fun _ => rfl) ?_
  obtain ⟨q4, h⟩ := am_bif h
  refine am_Ex.sld rfl q4 ?_
  refine am_Ex.seg 4 1660 [.ref am_SCR, .ref 0, .ref 108, .int a3] [.int (a3 + 2), .ref am_SCR, .int (sX ((a3 + 1)).toNatClampNeg), .ref 108, .int q3.1] q3.2 (fun _ => rfl) ?_
  obtain ⟨q5, h⟩ := am_bif h
  refine am_Ex.sld rfl q5 ?_
  obtain ⟨q6, h_q6, h⟩ := am_bind h
  refine am_Ex.ivk (na := 3) (b := 108) (As' := [.int (sX ((a3 + 1)).toNatClampNeg), .int (sX ((a3 + 2)).toNatClampNeg)]) rfl rfl rfl rfl rfl rfl rfl rfl rfl (e_fM_believed (d + 34) h_q6) ?_
  refine am_Ex.same 1664 [.ref am_SCR, .ref 0, .ref 108, .int a3] [.int q6.1, .int q3.1] q6.2 rfl ?_
  rcases am_ite h with ⟨q7, h⟩ | ⟨q7, h⟩
  · refine am_Ex.icmp_eq_t rfl q7 ?_
    exact e_fL_law_1725 d hk18 h
  · refine am_Ex.icmp_eq_f rfl q7 ?_
    refine am_Ex.seg 1 1668 [.ref am_SCR, .ref 0, .ref 108, .int a3] [.int 0] q6.2 (fun _ => rfl) ?_
    cases h
    exact am_Ex.zret rfl rfl (by decide)
set_option maxRecDepth 20000 in
set_option maxHeartbeats 1000000 in
theorem e_fL_law_1669 {sL : Nat} {sX : Nat → Int32} (d : Nat) {k18 : Int32 → am_Mu → Option (Int32 × am_Mu)} (hk18 : ∀ {a3 : Int32} {μ : am_Mu} {out : Int32 × am_Mu}, k18 a3 μ = some out → am_Ex (some (sL, sX)) (d + 37) 243 18 [.ref am_SCR, .ref 0, .ref 108, .int a3] [] am_SH μ (some (.int out.1), am_SH, out.2)) : ∀ {a3 : Int32} {μ : am_Mu} {out : Int32 × am_Mu}, fL_law_1669 sL sX k18 a3 μ = some out → am_Ex (some (sL, sX)) (d + 37) 243 1669 [.ref am_SCR, .ref 0, .ref 108, .int a3] [] am_SH μ (some (.int out.1), am_SH, out.2) := by
  intro a3 μ out h
  unfold fL_law_1669 at h
  refine am_Ex.seg 5 1674 [.ref am_SCR, .ref 0, .ref 108, .int a3] [.int (a3 + 1), .ref am_SCR, .ref 0] μ (fun _ => rfl) ?_
  obtain ⟨q1, h⟩ := am_bif h
  refine am_Ex.sld rfl q1 ?_
  refine am_Ex.seg 4 1679 [.ref am_SCR, .ref 0, .ref 108, .int a3] [.int (a3 + 2), .ref am_SCR, .int (sX ((a3 + 1)).toNatClampNeg), .ref 0] μ (fun _ => rfl) ?_
  obtain ⟨q2, h⟩ := am_bif h
  refine am_Ex.sld rfl q2 ?_
  obtain ⟨q3, h_q3, h⟩ := am_bind h
  refine am_Ex.ivk (na := 3) (b := 0) (As' := [.int (sX ((a3 + 1)).toNatClampNeg), .int (sX ((a3 + 2)).toNatClampNeg)]) rfl rfl rfl rfl rfl rfl rfl rfl rfl (e_fB_look (d + 35) h_q3) ?_
  refine am_Ex.same 1683 [.ref am_SCR, .ref 0, .ref 108, .int a3] [.int q3.1] q3.2 rfl ?_
  refine am_Ex.seg 5 1688 [.ref am_SCR, .ref 0, .ref 108, .int a3] [.int (a3 + 1), .ref am_SCR, .ref 108, .int q3.1] q3.2 (fun _ => rfl) ?_
  obtain ⟨q4, h⟩ := am_bif h
  refine am_Ex.sld rfl q4 ?_
  refine am_Ex.seg 4 1693 [.ref am_SCR, .ref 0, .ref 108, .int a3] [.int (a3 + 2), .ref am_SCR, .int (sX ((a3 + 1)).toNatClampNeg), .ref 108, .int q3.1] q3.2 (fun _ => rfl) ?_
  obtain ⟨q5, h⟩ := am_bif h
  refine am_Ex.sld rfl q5 ?_
  obtain ⟨q6, h_q6, h⟩ := am_bind h
  refine am_Ex.ivk (na := 3) (b := 108) (As' := [.int (sX ((a3 + 1)).toNatClampNeg), .int (sX ((a3 + 2)).toNatClampNeg)]) rfl rfl rfl rfl rfl rfl rfl rfl rfl (e_fM_look (d + 35) h_q6) ?_
  refine am_Ex.same 1697 [.ref am_SCR, .ref 0, .ref 108, .int a3] [.int q6.1, .int q3.1] q6.2 rfl ?_
  rcases am_ite h with ⟨q7, h⟩ | ⟨q7, h⟩
  · refine am_Ex.icmp_eq_t rfl q7 ?_
    exact e_fL_law_1725 d hk18 h
  · refine am_Ex.icmp_eq_f rfl q7 ?_
    refine am_Ex.seg 1 1701 [.ref am_SCR, .ref 0, .ref 108, .int a3] [.int 0] q6.2 (fun _ => rfl) ?_
    cases h
    exact am_Ex.zret rfl rfl (by decide)
set_option maxRecDepth 20000 in
set_option maxHeartbeats 1000000 in
theorem e_fL_law_1702 {sL : Nat} {sX : Nat → Int32} (d : Nat) {k18 : Int32 → am_Mu → Option (Int32 × am_Mu)} (hk18 : ∀ {a3 : Int32} {μ : am_Mu} {out : Int32 × am_Mu}, k18 a3 μ = some out → am_Ex (some (sL, sX)) (d + 37) 243 18 [.ref am_SCR, .ref 0, .ref 108, .int a3] [] am_SH μ (some (.int out.1), am_SH, out.2)) : ∀ {a3 : Int32} {μ : am_Mu} {out : Int32 × am_Mu}, fL_law_1702 sL sX k18 a3 μ = some out → am_Ex (some (sL, sX)) (d + 37) 243 1702 [.ref am_SCR, .ref 0, .ref 108, .int a3] [] am_SH μ (some (.int out.1), am_SH, out.2) := by
  intro a3 μ out h
  unfold fL_law_1702 at h
  refine am_Ex.seg 5 1707 [.ref am_SCR, .ref 0, .ref 108, .int a3] [.int (a3 + 1), .ref am_SCR, .ref 0] μ (fun _ => rfl) ?_
  obtain ⟨q1, h⟩ := am_bif h
  refine am_Ex.sld rfl q1 ?_
  obtain ⟨q2, h_q2, h⟩ := am_bind h
  refine am_Ex.ivk (na := 2) (b := 0) (As' := [.int (sX ((a3 + 1)).toNatClampNeg)]) rfl rfl rfl rfl rfl rfl rfl rfl rfl (e_fB_count (d + 29) h_q2) ?_
  refine am_Ex.same 1711 [.ref am_SCR, .ref 0, .ref 108, .int a3] [.int q2.1] q2.2 rfl ?_
  refine am_Ex.seg 5 1716 [.ref am_SCR, .ref 0, .ref 108, .int a3] [.int (a3 + 1), .ref am_SCR, .ref 108, .int q2.1] q2.2 (fun _ => rfl) ?_
  obtain ⟨q3, h⟩ := am_bif h
  refine am_Ex.sld rfl q3 ?_
  obtain ⟨q4, h_q4, h⟩ := am_bind h
  refine am_Ex.ivk (na := 2) (b := 108) (As' := [.int (sX ((a3 + 1)).toNatClampNeg)]) rfl rfl rfl rfl rfl rfl rfl rfl rfl (e_fM_count (d + 28) h_q4) ?_
  refine am_Ex.same 1720 [.ref am_SCR, .ref 0, .ref 108, .int a3] [.int q4.1, .int q2.1] q4.2 rfl ?_
  rcases am_ite h with ⟨q5, h⟩ | ⟨q5, h⟩
  · refine am_Ex.icmp_eq_t rfl q5 ?_
    exact e_fL_law_1725 d hk18 h
  · refine am_Ex.icmp_eq_f rfl q5 ?_
    refine am_Ex.seg 1 1724 [.ref am_SCR, .ref 0, .ref 108, .int a3] [.int 0] q4.2 (fun _ => rfl) ?_
    cases h
    exact am_Ex.zret rfl rfl (by decide)
set_option maxRecDepth 20000 in
set_option maxHeartbeats 1000000 in
theorem e_fL_law_18 {sL : Nat} {sX : Nat → Int32} (d : Nat) : ∀ n : Nat, ∀ {a3 : Int32} {μ : am_Mu} {out : Int32 × am_Mu}, fL_law_18 sL sX n a3 μ = some out → am_Ex (some (sL, sX)) (d + 37) 243 18 [.ref am_SCR, .ref 0, .ref 108, .int a3] [] am_SH μ (some (.int out.1), am_SH, out.2) := by
  intro n
  induction n with
  | zero => intros; contradiction
  | succ n ih =>
    have hk18 : ∀ {a3 : Int32} {μ : am_Mu} {out : Int32 × am_Mu}, (fL_law_18 sL sX n) a3 μ = some out → am_Ex (some (sL, sX)) (d + 37) 243 18 [.ref am_SCR, .ref 0, .ref 108, .int a3] [] am_SH μ (some (.int out.1), am_SH, out.2) := ih
    intro a3 μ out h
    unfold fL_law_18 at h
    refine am_Ex.seg 2 20 [.ref am_SCR, .ref 0, .ref 108, .int a3] [.ref am_SCR, .int a3] μ (fun _ => rfl) ?_
    refine am_Ex.slen rfl ?_
    refine am_Ex.seg 2 24 [.ref am_SCR, .ref 0, .ref 108, .int a3] [.int ((Int32.ofNat sL) - 7), .int a3] μ (fun _ => rfl) ?_
    rcases am_ite h with ⟨q1, h⟩ | ⟨q1, h⟩
    · refine am_Ex.icmp_gt_t rfl q1 ?_
      refine am_Ex.seg 1 1732 [.ref am_SCR, .ref 0, .ref 108, .int a3] [.int 1] μ (fun _ => rfl) ?_
      cases h
      exact am_Ex.zret rfl rfl (by decide)
    · refine am_Ex.icmp_gt_f rfl q1 ?_
      refine am_Ex.seg 2 29 [.ref am_SCR, .ref 0, .ref 108, .int a3] [.int a3, .ref am_SCR] μ (fun _ => rfl) ?_
      obtain ⟨q2, h⟩ := am_bif h
      refine am_Ex.sld rfl q2 ?_
      refine am_Ex.seg 2 33 [.ref am_SCR, .ref 0, .ref 108, .int a3] [.int ((sX (a3).toNatClampNeg) &&& 63)] μ (fun _ => rfl) ?_
      rcases am_ite h with ⟨q3, h⟩ | ⟨q3, h⟩
      · refine am_Ex.tblIn 196 (v := 0) rfl q3 (by decide) rfl rfl ?_
        exact e_fL_law_196 d hk18 h
      rcases am_ite h with ⟨q4, h⟩ | ⟨q4, h⟩
      · refine am_Ex.tblIn 219 (v := 1) rfl q4 (by decide) rfl rfl ?_
        exact e_fL_law_219 d hk18 h
      rcases am_ite h with ⟨q5, h⟩ | ⟨q5, h⟩
      · refine am_Ex.tblIn 262 (v := 2) rfl q5 (by decide) rfl rfl ?_
        exact e_fL_law_262 d hk18 h
      rcases am_ite h with ⟨q6, h⟩ | ⟨q6, h⟩
      · refine am_Ex.tblIn 285 (v := 3) rfl q6 (by decide) rfl rfl ?_
        exact e_fL_law_285 d hk18 h
      rcases am_ite h with ⟨q7, h⟩ | ⟨q7, h⟩
      · refine am_Ex.tblIn 318 (v := 4) rfl q7 (by decide) rfl rfl ?_
        exact e_fL_law_318 d hk18 h
      rcases am_ite h with ⟨q8, h⟩ | ⟨q8, h⟩
      · refine am_Ex.tblIn 381 (v := 5) rfl q8 (by decide) rfl rfl ?_
        exact e_fL_law_381 d hk18 h
      rcases am_ite h with ⟨q9, h⟩ | ⟨q9, h⟩
      · refine am_Ex.tblIn 440 (v := 6) rfl q9 (by decide) rfl rfl ?_
        exact e_fL_law_440 d hk18 h
      rcases am_ite h with ⟨q10, h⟩ | ⟨q10, h⟩
      · refine am_Ex.tblIn 489 (v := 7) rfl q10 (by decide) rfl rfl ?_
        exact e_fL_law_489 d hk18 h
      rcases am_ite h with ⟨q11, h⟩ | ⟨q11, h⟩
      · refine am_Ex.tblIn 512 (v := 8) rfl q11 (by decide) rfl rfl ?_
        exact e_fL_law_512 d hk18 h
      rcases am_ite h with ⟨q12, h⟩ | ⟨q12, h⟩
      · refine am_Ex.tblIn 591 (v := 9) rfl q12 (by decide) rfl rfl ?_
        exact e_fL_law_591 d hk18 h
      rcases am_ite h with ⟨q13, h⟩ | ⟨q13, h⟩
      · refine am_Ex.tblIn 614 (v := 10) rfl q13 (by decide) rfl rfl ?_
        exact e_fL_law_614 d hk18 h
      rcases am_ite h with ⟨q14, h⟩ | ⟨q14, h⟩
      · refine am_Ex.tblIn 657 (v := 11) rfl q14 (by decide) rfl rfl ?_
        exact e_fL_law_657 d hk18 h
      rcases am_ite h with ⟨q15, h⟩ | ⟨q15, h⟩
      · refine am_Ex.tblIn 720 (v := 12) rfl q15 (by decide) rfl rfl ?_
        exact e_fL_law_720 d hk18 h
      rcases am_ite h with ⟨q16, h⟩ | ⟨q16, h⟩
      · refine am_Ex.tblIn 795 (v := 13) rfl q16 (by decide) rfl rfl ?_
        exact e_fL_law_795 d hk18 h
      rcases am_ite h with ⟨q17, h⟩ | ⟨q17, h⟩
      · refine am_Ex.tblIn 828 (v := 14) rfl q17 (by decide) rfl rfl ?_
        exact e_fL_law_828 d hk18 h
      rcases am_ite h with ⟨q18, h⟩ | ⟨q18, h⟩
      · refine am_Ex.tblIn 881 (v := 15) rfl q18 (by decide) rfl rfl ?_
        exact e_fL_law_881 d hk18 h
      rcases am_ite h with ⟨q19, h⟩ | ⟨q19, h⟩
      · refine am_Ex.tblIn 924 (v := 16) rfl q19 (by decide) rfl rfl ?_
        exact e_fL_law_924 d hk18 h
      rcases am_ite h with ⟨q20, h⟩ | ⟨q20, h⟩
      · refine am_Ex.tblIn 977 (v := 17) rfl q20 (by decide) rfl rfl ?_
        exact e_fL_law_977 d hk18 h
      rcases am_ite h with ⟨q21, h⟩ | ⟨q21, h⟩
      · refine am_Ex.tblIn 1020 (v := 18) rfl q21 (by decide) rfl rfl ?_
        exact e_fL_law_1020 d hk18 h
      rcases am_ite h with ⟨q22, h⟩ | ⟨q22, h⟩
      · refine am_Ex.tblIn 1073 (v := 19) rfl q22 (by decide) rfl rfl ?_
        exact e_fL_law_1073 d hk18 h
      rcases am_ite h with ⟨q23, h⟩ | ⟨q23, h⟩
      · refine am_Ex.tblIn 1106 (v := 20) rfl q23 (by decide) rfl rfl ?_
        exact e_fL_law_1106 d hk18 h
      rcases am_ite h with ⟨q24, h⟩ | ⟨q24, h⟩
      · refine am_Ex.tblIn 1165 (v := 21) rfl q24 (by decide) rfl rfl ?_
        exact e_fL_law_1165 d hk18 h
      rcases am_ite h with ⟨q25, h⟩ | ⟨q25, h⟩
      · refine am_Ex.tblIn 1198 (v := 22) rfl q25 (by decide) rfl rfl ?_
        exact e_fL_law_1198 d hk18 h
      rcases am_ite h with ⟨q26, h⟩ | ⟨q26, h⟩
      · refine am_Ex.tblIn 1277 (v := 23) rfl q26 (by decide) rfl rfl ?_
        exact e_fL_law_1277 d hk18 h
      rcases am_ite h with ⟨q27, h⟩ | ⟨q27, h⟩
      · refine am_Ex.tblIn 1310 (v := 24) rfl q27 (by decide) rfl rfl ?_
        exact e_fL_law_1310 d hk18 h
      rcases am_ite h with ⟨q28, h⟩ | ⟨q28, h⟩
      · refine am_Ex.tblIn 1363 (v := 25) rfl q28 (by decide) rfl rfl ?_
        exact e_fL_law_1363 d hk18 h
      rcases am_ite h with ⟨q29, h⟩ | ⟨q29, h⟩
      · refine am_Ex.tblIn 1386 (v := 26) rfl q29 (by decide) rfl rfl ?_
        exact e_fL_law_1386 d hk18 h
      rcases am_ite h with ⟨q30, h⟩ | ⟨q30, h⟩
      · refine am_Ex.tblIn 1419 (v := 27) rfl q30 (by decide) rfl rfl ?_
        exact e_fL_law_1419 d hk18 h
      rcases am_ite h with ⟨q31, h⟩ | ⟨q31, h⟩
      · refine am_Ex.tblIn 1452 (v := 28) rfl q31 (by decide) rfl rfl ?_
        exact e_fL_law_1452 d hk18 h
      rcases am_ite h with ⟨q32, h⟩ | ⟨q32, h⟩
      · refine am_Ex.tblIn 1465 (v := 29) rfl q32 (by decide) rfl rfl ?_
        exact e_fL_law_1465 d hk18 h
      rcases am_ite h with ⟨q33, h⟩ | ⟨q33, h⟩
      · refine am_Ex.tblIn 1478 (v := 30) rfl q33 (by decide) rfl rfl ?_
        exact e_fL_law_1478 d hk18 h
      rcases am_ite h with ⟨q34, h⟩ | ⟨q34, h⟩
      · refine am_Ex.tblIn 1511 (v := 31) rfl q34 (by decide) rfl rfl ?_
        exact e_fL_law_1511 d hk18 h
      rcases am_ite h with ⟨q35, h⟩ | ⟨q35, h⟩
      · refine am_Ex.tblIn 1534 (v := 32) rfl q35 (by decide) rfl rfl ?_
        exact e_fL_law_1534 d hk18 h
      rcases am_ite h with ⟨q36, h⟩ | ⟨q36, h⟩
      · refine am_Ex.tblIn 1567 (v := 33) rfl q36 (by decide) rfl rfl ?_
        exact e_fL_law_1567 d hk18 h
      rcases am_ite h with ⟨q37, h⟩ | ⟨q37, h⟩
      · refine am_Ex.tblIn 1636 (v := 34) rfl q37 (by decide) rfl rfl ?_
        exact e_fL_law_1636 d hk18 h
      rcases am_ite h with ⟨q38, h⟩ | ⟨q38, h⟩
      · refine am_Ex.tblIn 1669 (v := 35) rfl q38 (by decide) rfl rfl ?_
        exact e_fL_law_1669 d hk18 h
      rcases am_ite h with ⟨q39, h⟩ | ⟨q39, h⟩
      · refine am_Ex.tblIn 1702 (v := 36) rfl q39 (by decide) rfl rfl ?_
        exact e_fL_law_1702 d hk18 h
      refine am_Ex.tblOut 1725 rfl (by have := lv_neT q3 (a := 0) rfl; have := lv_neT q4 (a := 1) rfl; have := lv_neT q5 (a := 2) rfl; have := lv_neT q6 (a := 3) rfl; have := lv_neT q7 (a := 4) rfl; have := lv_neT q8 (a := 5) rfl; have := lv_neT q9 (a := 6) rfl; have := lv_neT q10 (a := 7) rfl; have := lv_neT q11 (a := 8) rfl; have := lv_neT q12 (a := 9) rfl; have := lv_neT q13 (a := 10) rfl; have := lv_neT q14 (a := 11) rfl; have := lv_neT q15 (a := 12) rfl; have := lv_neT q16 (a := 13) rfl; have := lv_neT q17 (a := 14) rfl; have := lv_neT q18 (a := 15) rfl; have := lv_neT q19 (a := 16) rfl; have := lv_neT q20 (a := 17) rfl; have := lv_neT q21 (a := 18) rfl; have := lv_neT q22 (a := 19) rfl; have := lv_neT q23 (a := 20) rfl; have := lv_neT q24 (a := 21) rfl; have := lv_neT q25 (a := 22) rfl; have := lv_neT q26 (a := 23) rfl; have := lv_neT q27 (a := 24) rfl; have := lv_neT q28 (a := 25) rfl; have := lv_neT q29 (a := 26) rfl; have := lv_neT q30 (a := 27) rfl; have := lv_neT q31 (a := 28) rfl; have := lv_neT q32 (a := 29) rfl; have := lv_neT q33 (a := 30) rfl; have := lv_neT q34 (a := 31) rfl; have := lv_neT q35 (a := 32) rfl; have := lv_neT q36 (a := 33) rfl; have := lv_neT q37 (a := 34) rfl; have := lv_neT q38 (a := 35) rfl; have := lv_neT q39 (a := 36) rfl; omega) rfl ?_
      exact e_fL_law_1725 d hk18 h
