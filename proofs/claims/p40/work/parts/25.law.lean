def fL_law_1271 (sL : Nat) (sX : Nat → Int32) (μ : am_Mu) : Option (Int32 × am_Mu) := some (0, μ)
def fL_law_1205 (sL : Nat) (sX : Nat → Int32) (a2 : Int32) (a3 : Int32) (μ : am_Mu) : Option (Int32 × am_Mu) := (if a3 = 0 then fL_law_1271 sL sX μ else ((fB_leads 2 0 0 0 μ).bind fun q2 => (if ¬ q2.1 = (-1) then fL_law_1271 sL sX q2.2 else ((fB_reached 0 2 0 q2.2).bind fun q4 => (if ¬ q4.1 = (-1) then fL_law_1271 sL sX q4.2 else ((fB_way 0 0 a2 0 q4.2).bind fun q6 => (if ¬ q6.1 = (-1) then fL_law_1271 sL sX q6.2 else ((fB_mend 0 0 a2 q6.2).bind fun q8 => (if ¬ q8.1 = (-1) then fL_law_1271 sL sX q8.2 else ((fB_way 0 0 0 (-1) q8.2).bind fun q10 => (if ¬ q10.1 = (-1) then fL_law_1271 sL sX q10.2 else some (1, q10.2))))))))))))
def fL_law_1198 (sL : Nat) (sX : Nat → Int32) (k694 : Int32 → Int32 → Int32 → Int32 → am_Mu → Option (Int32 × am_Mu)) (a2 : Int32) (a12 : Int32) (a15 : Int32) (s0 : Int32) (μ : am_Mu) : Option (Int32 × am_Mu) := k694 a2 s0 a12 (a15 + 1) μ
def fL_law_1197 (sL : Nat) (sX : Nat → Int32) (k694 : Int32 → Int32 → Int32 → Int32 → am_Mu → Option (Int32 × am_Mu)) (a2 : Int32) (a12 : Int32) (a15 : Int32) (μ : am_Mu) : Option (Int32 × am_Mu) := fL_law_1198 sL sX k694 a2 a12 a15 0 μ
def fL_law_1174 (sL : Nat) (sX : Nat → Int32) (k694 : Int32 → Int32 → Int32 → Int32 → am_Mu → Option (Int32 × am_Mu)) (a2 : Int32) (a3 : Int32) (a12 : Int32) (a15 : Int32) (s0 : Int32) (μ : am_Mu) : Option (Int32 × am_Mu) := (if a3 = 0 then fL_law_1197 sL sX k694 a2 a12 a15 μ else ((fB_mend 0 0 a15 μ).bind fun q2 => (if ¬ q2.1 = s0 then fL_law_1197 sL sX k694 a2 a12 a15 q2.2 else fL_law_1198 sL sX k694 a2 a12 a15 1 q2.2)))
def fL_law_1135 (sL : Nat) (sX : Nat → Int32) (k694 : Int32 → Int32 → Int32 → Int32 → am_Mu → Option (Int32 × am_Mu)) (a2 : Int32) (a12 : Int32) (a15 : Int32) (s0 : Int32) (μ : am_Mu) : Option (Int32 × am_Mu) := (bif am_inb a15 6 then (if ¬ (μ 115 ((a15).toNatClampNeg)) = (μ 116 ((a15).toNatClampNeg)) then (if ¬ ((μ 115 ((a15).toNatClampNeg)) &&& (-2)) = (μ 116 ((a15).toNatClampNeg)) then fL_law_1174 sL sX k694 a2 s0 a12 a15 (-1) μ else fL_law_1174 sL sX k694 a2 s0 a12 a15 1 μ) else fL_law_1174 sL sX k694 a2 s0 a12 a15 0 μ) else none)
def fL_law_1134 (sL : Nat) (sX : Nat → Int32) (k694 : Int32 → Int32 → Int32 → Int32 → am_Mu → Option (Int32 × am_Mu)) (a2 : Int32) (a12 : Int32) (a15 : Int32) (μ : am_Mu) : Option (Int32 × am_Mu) := fL_law_1135 sL sX k694 a2 a12 a15 0 μ
def fL_law_1112 (sL : Nat) (sX : Nat → Int32) (k694 : Int32 → Int32 → Int32 → Int32 → am_Mu → Option (Int32 × am_Mu)) (a2 : Int32) (a3 : Int32) (a12 : Int32) (a15 : Int32) (a18 : Int32) (μ : am_Mu) : Option (Int32 × am_Mu) := (if a3 = 0 then fL_law_1134 sL sX k694 a2 a12 a15 μ else ((fB_way 0 0 a15 a18 μ).bind fun q2 => (if ¬ q2.1 = (-1) then fL_law_1134 sL sX k694 a2 a12 a15 q2.2 else fL_law_1135 sL sX k694 a2 a12 a15 1 q2.2)))
def fL_law_1103 (sL : Nat) (sX : Nat → Int32) (k694 : Int32 → Int32 → Int32 → Int32 → am_Mu → Option (Int32 × am_Mu)) (k987 : Int32 → Int32 → Int32 → Int32 → Int32 → Int32 → Int32 → Int32 → am_Mu → Option (Int32 × am_Mu)) (a2 : Int32) (a3 : Int32) (a12 : Int32) (a15 : Int32) (a17 : Int32) (a18 : Int32) (a21 : Int32) (s0 : Int32) (μ : am_Mu) : Option (Int32 × am_Mu) := k987 a2 a3 a12 a15 a21 a17 a18 s0 μ
def fL_law_1102 (sL : Nat) (sX : Nat → Int32) (k694 : Int32 → Int32 → Int32 → Int32 → am_Mu → Option (Int32 × am_Mu)) (k987 : Int32 → Int32 → Int32 → Int32 → Int32 → Int32 → Int32 → Int32 → am_Mu → Option (Int32 × am_Mu)) (a2 : Int32) (a3 : Int32) (a12 : Int32) (a15 : Int32) (a17 : Int32) (a18 : Int32) (a21 : Int32) (μ : am_Mu) : Option (Int32 × am_Mu) := fL_law_1103 sL sX k694 k987 a2 a3 a12 a15 a17 a18 a21 0 μ
def fL_law_1081 (sL : Nat) (sX : Nat → Int32) (k694 : Int32 → Int32 → Int32 → Int32 → am_Mu → Option (Int32 × am_Mu)) (k987 : Int32 → Int32 → Int32 → Int32 → Int32 → Int32 → Int32 → Int32 → am_Mu → Option (Int32 × am_Mu)) (a2 : Int32) (a3 : Int32) (a12 : Int32) (a15 : Int32) (a17 : Int32) (a18 : Int32) (s0 : Int32) (μ : am_Mu) : Option (Int32 × am_Mu) := (if s0 < 0 then fL_law_1102 sL sX k694 k987 a2 a3 a12 a15 a17 a18 s0 μ else (if ¬ ((a17 >>> (s0 &&& 31)) &&& 1) = 0 then fL_law_1102 sL sX k694 k987 a2 a3 a12 a15 a17 a18 s0 μ else fL_law_1103 sL sX k694 k987 a2 a3 a12 a15 a17 a18 s0 1 μ))
def fL_law_1047 (sL : Nat) (sX : Nat → Int32) (k694 : Int32 → Int32 → Int32 → Int32 → am_Mu → Option (Int32 × am_Mu)) (k987 : Int32 → Int32 → Int32 → Int32 → Int32 → Int32 → Int32 → Int32 → am_Mu → Option (Int32 × am_Mu)) (a2 : Int32) (a3 : Int32) (a12 : Int32) (a15 : Int32) (a16 : Int32) (a17 : Int32) (a18 : Int32) (s0 : Int32) (μ : am_Mu) : Option (Int32 × am_Mu) := (if 0 ≤ s0 then (bif am_inb s0 16 then (if ¬ (μ 111 ((s0).toNatClampNeg)) = a16 then fL_law_1081 sL sX k694 k987 a2 a3 a12 a15 a17 a18 (μ 111 ((s0).toNatClampNeg)) μ else fL_law_1081 sL sX k694 k987 a2 a3 a12 a15 a17 a18 (μ 112 ((s0).toNatClampNeg)) μ) else none) else fL_law_1081 sL sX k694 k987 a2 a3 a12 a15 a17 a18 (-1) μ)
def fL_law_1016 (sL : Nat) (sX : Nat → Int32) (k694 : Int32 → Int32 → Int32 → Int32 → am_Mu → Option (Int32 × am_Mu)) (k987 : Int32 → Int32 → Int32 → Int32 → Int32 → Int32 → Int32 → Int32 → am_Mu → Option (Int32 × am_Mu)) (a2 : Int32) (a12 : Int32) (a15 : Int32) (a16 : Int32) (a17 : Int32) (a18 : Int32) (s0 : Int32) (μ : am_Mu) : Option (Int32 × am_Mu) := (if ¬ a16 = (μ 114 0) then (bif am_inb a16 6 then fL_law_1047 sL sX k694 k987 a2 s0 a12 a15 a16 (a17 ||| ((1 : Int32) <<< (a16 &&& 31))) (a18 + 1) (μ 117 ((a16).toNatClampNeg)) μ else none) else fL_law_1047 sL sX k694 k987 a2 s0 a12 a15 a16 (a17 ||| ((1 : Int32) <<< (a16 &&& 31))) (a18 + 1) (-1) μ)
def fL_law_1015 (sL : Nat) (sX : Nat → Int32) (k694 : Int32 → Int32 → Int32 → Int32 → am_Mu → Option (Int32 × am_Mu)) (k987 : Int32 → Int32 → Int32 → Int32 → Int32 → Int32 → Int32 → Int32 → am_Mu → Option (Int32 × am_Mu)) (a2 : Int32) (a12 : Int32) (a15 : Int32) (a16 : Int32) (a17 : Int32) (a18 : Int32) (μ : am_Mu) : Option (Int32 × am_Mu) := fL_law_1016 sL sX k694 k987 a2 a12 a15 a16 a17 a18 0 μ
def fL_law_987 (sL : Nat) (sX : Nat → Int32) : Nat → (Int32 → Int32 → Int32 → Int32 → am_Mu → Option (Int32 × am_Mu)) → Int32 → Int32 → Int32 → Int32 → Int32 → Int32 → Int32 → Int32 → am_Mu → Option (Int32 × am_Mu)
  | 0, _, _, _, _, _, _, _, _, _, _ => none
  | n + 1, k694, a2, a3, a12, a15, a16, a17, a18, a19, μ => (if a19 = 0 then fL_law_1112 sL sX k694 a2 a3 a12 a15 a18 μ else (if a3 = 0 then fL_law_1015 sL sX k694 (fL_law_987 sL sX n k694) a2 a12 a15 a16 a17 a18 μ else ((fB_way 0 0 a15 a18 μ).bind fun q3 => (if ¬ q3.1 = a16 then fL_law_1015 sL sX k694 (fL_law_987 sL sX n k694) a2 a12 a15 a16 a17 a18 q3.2 else fL_law_1016 sL sX k694 (fL_law_987 sL sX n k694) a2 a12 a15 a16 a17 a18 1 q3.2))))
def fL_law_985 (sL : Nat) (sX : Nat → Int32) (k694 : Int32 → Int32 → Int32 → Int32 → am_Mu → Option (Int32 × am_Mu)) (a2 : Int32) (a3 : Int32) (a12 : Int32) (a15 : Int32) (a16 : Int32) (a17 : Int32) (a18 : Int32) (s0 : Int32) (μ : am_Mu) : Option (Int32 × am_Mu) := fL_law_987 sL sX am_F k694 a2 a3 a12 a15 a16 a17 a18 s0 μ
def fL_law_980 (sL : Nat) (sX : Nat → Int32) (k694 : Int32 → Int32 → Int32 → Int32 → am_Mu → Option (Int32 × am_Mu)) (a2 : Int32) (a3 : Int32) (a12 : Int32) (a15 : Int32) (a16 : Int32) (a17 : Int32) (a18 : Int32) (μ : am_Mu) : Option (Int32 × am_Mu) := fL_law_985 sL sX k694 a2 a3 a12 a15 a16 a17 a18 1 μ
def fL_law_953 (sL : Nat) (sX : Nat → Int32) (k694 : Int32 → Int32 → Int32 → Int32 → am_Mu → Option (Int32 × am_Mu)) (a2 : Int32) (a3 : Int32) (a12 : Int32) (a15 : Int32) (μ : am_Mu) : Option (Int32 × am_Mu) := (if a15 = (μ 114 0) then fL_law_980 sL sX k694 a2 a3 a12 a15 a15 0 0 μ else (bif am_inb a15 6 then (if (μ 117 ((a15).toNatClampNeg)) < 0 then fL_law_985 sL sX k694 a2 a3 a12 a15 a15 0 0 0 μ else fL_law_980 sL sX k694 a2 a3 a12 a15 a15 0 0 μ) else none))
def fL_law_946 (sL : Nat) (sX : Nat → Int32) (k694 : Int32 → Int32 → Int32 → Int32 → am_Mu → Option (Int32 × am_Mu)) (k829 : Int32 → Int32 → Int32 → Int32 → Int32 → am_Mu → Option (Int32 × am_Mu)) (a2 : Int32) (a12 : Int32) (a15 : Int32) (a16 : Int32) (s0 : Int32) (μ : am_Mu) : Option (Int32 × am_Mu) := k829 a2 s0 a12 a15 (a16 + 1) μ
def fL_law_945 (sL : Nat) (sX : Nat → Int32) (k694 : Int32 → Int32 → Int32 → Int32 → am_Mu → Option (Int32 × am_Mu)) (k829 : Int32 → Int32 → Int32 → Int32 → Int32 → am_Mu → Option (Int32 × am_Mu)) (a2 : Int32) (a12 : Int32) (a15 : Int32) (a16 : Int32) (μ : am_Mu) : Option (Int32 × am_Mu) := fL_law_946 sL sX k694 k829 a2 a12 a15 a16 0 μ
def fL_law_921 (sL : Nat) (sX : Nat → Int32) (k694 : Int32 → Int32 → Int32 → Int32 → am_Mu → Option (Int32 × am_Mu)) (k829 : Int32 → Int32 → Int32 → Int32 → Int32 → am_Mu → Option (Int32 × am_Mu)) (a2 : Int32) (a12 : Int32) (a15 : Int32) (a16 : Int32) (s0 : Int32) (s1 : Int32) (μ : am_Mu) : Option (Int32 × am_Mu) := (if ¬ s0 = s1 then fL_law_945 sL sX k694 k829 a2 a12 a15 a16 μ else ((fB_mark 0 a15 a16 a12 8999 μ).bind fun q2 => (if ¬ q2.1 = 0 then fL_law_945 sL sX k694 k829 a2 a12 a15 a16 q2.2 else fL_law_946 sL sX k694 k829 a2 a12 a15 a16 1 q2.2)))
def fL_law_920 (sL : Nat) (sX : Nat → Int32) (k694 : Int32 → Int32 → Int32 → Int32 → am_Mu → Option (Int32 × am_Mu)) (k829 : Int32 → Int32 → Int32 → Int32 → Int32 → am_Mu → Option (Int32 × am_Mu)) (a2 : Int32) (a12 : Int32) (a15 : Int32) (a16 : Int32) (s0 : Int32) (μ : am_Mu) : Option (Int32 × am_Mu) := fL_law_921 sL sX k694 k829 a2 a12 a15 a16 s0 0 μ
def fL_law_878 (sL : Nat) (sX : Nat → Int32) (k694 : Int32 → Int32 → Int32 → Int32 → am_Mu → Option (Int32 × am_Mu)) (k829 : Int32 → Int32 → Int32 → Int32 → Int32 → am_Mu → Option (Int32 × am_Mu)) (a2 : Int32) (a12 : Int32) (a15 : Int32) (a16 : Int32) (s0 : Int32) (s1 : Int32) (μ : am_Mu) : Option (Int32 × am_Mu) := (if ¬ s0 = s1 then fL_law_945 sL sX k694 k829 a2 a12 a15 a16 μ else ((fB_mark 0 a15 a16 9000 9000 μ).bind fun q2 => (if 2 ≤ a16 then fL_law_920 sL sX k694 k829 a2 a12 a15 a16 q2.1 q2.2 else (bif am_inb a15 6 then (if ¬ (((q2.2 115 ((a15).toNatClampNeg)) >>> (a16 &&& 31)) &&& 1) = 1 then fL_law_920 sL sX k694 k829 a2 a12 a15 a16 q2.1 q2.2 else fL_law_921 sL sX k694 k829 a2 a12 a15 a16 q2.1 2 q2.2) else none))))
def fL_law_877 (sL : Nat) (sX : Nat → Int32) (k694 : Int32 → Int32 → Int32 → Int32 → am_Mu → Option (Int32 × am_Mu)) (k829 : Int32 → Int32 → Int32 → Int32 → Int32 → am_Mu → Option (Int32 × am_Mu)) (a2 : Int32) (a12 : Int32) (a15 : Int32) (a16 : Int32) (s0 : Int32) (μ : am_Mu) : Option (Int32 × am_Mu) := fL_law_878 sL sX k694 k829 a2 a12 a15 a16 s0 0 μ
def fL_law_829 (sL : Nat) (sX : Nat → Int32) : Nat → (Int32 → Int32 → Int32 → Int32 → am_Mu → Option (Int32 × am_Mu)) → Int32 → Int32 → Int32 → Int32 → Int32 → am_Mu → Option (Int32 × am_Mu)
  | 0, _, _, _, _, _, _, _ => none
  | n + 1, k694, a2, a3, a12, a15, a16, μ => (if 3 ≤ a16 then fL_law_953 sL sX k694 a2 a3 a12 a15 μ else (if a3 = 0 then fL_law_945 sL sX k694 (fL_law_829 sL sX n k694) a2 a12 a15 a16 μ else ((fB_mark 0 a15 a16 a12 9000 μ).bind fun q3 => (if 2 ≤ a16 then fL_law_877 sL sX k694 (fL_law_829 sL sX n k694) a2 a12 a15 a16 q3.1 q3.2 else (bif am_inb a15 6 then (if ¬ (((q3.2 118 ((a15).toNatClampNeg)) >>> (a16 &&& 31)) &&& 1) = 1 then fL_law_877 sL sX k694 (fL_law_829 sL sX n k694) a2 a12 a15 a16 q3.1 q3.2 else fL_law_878 sL sX k694 (fL_law_829 sL sX n k694) a2 a12 a15 a16 q3.1 2 q3.2) else none)))))
def fL_law_825 (sL : Nat) (sX : Nat → Int32) (k694 : Int32 → Int32 → Int32 → Int32 → am_Mu → Option (Int32 × am_Mu)) (a2 : Int32) (a12 : Int32) (a15 : Int32) (s0 : Int32) (μ : am_Mu) : Option (Int32 × am_Mu) := fL_law_829 sL sX am_F k694 a2 s0 a12 a15 0 μ
def fL_law_824 (sL : Nat) (sX : Nat → Int32) (k694 : Int32 → Int32 → Int32 → Int32 → am_Mu → Option (Int32 × am_Mu)) (a2 : Int32) (a12 : Int32) (a15 : Int32) (μ : am_Mu) : Option (Int32 × am_Mu) := fL_law_825 sL sX k694 a2 a12 a15 0 μ
def fL_law_801 (sL : Nat) (sX : Nat → Int32) (k694 : Int32 → Int32 → Int32 → Int32 → am_Mu → Option (Int32 × am_Mu)) (a2 : Int32) (a12 : Int32) (a15 : Int32) (s0 : Int32) (s1 : Int32) (μ : am_Mu) : Option (Int32 × am_Mu) := (if ¬ s0 = s1 then fL_law_824 sL sX k694 a2 a12 a15 μ else ((fB_reached 0 0 a15 μ).bind fun q2 => (bif am_inb a15 6 then (if ¬ q2.1 = (q2.2 117 ((a15).toNatClampNeg)) then fL_law_824 sL sX k694 a2 a12 a15 q2.2 else fL_law_825 sL sX k694 a2 a12 a15 1 q2.2) else none)))
def fL_law_800 (sL : Nat) (sX : Nat → Int32) (k694 : Int32 → Int32 → Int32 → Int32 → am_Mu → Option (Int32 × am_Mu)) (a2 : Int32) (a12 : Int32) (a15 : Int32) (s0 : Int32) (μ : am_Mu) : Option (Int32 × am_Mu) := fL_law_801 sL sX k694 a2 a12 a15 s0 0 μ
def fL_law_764 (sL : Nat) (sX : Nat → Int32) (k694 : Int32 → Int32 → Int32 → Int32 → am_Mu → Option (Int32 × am_Mu)) (a2 : Int32) (a12 : Int32) (a15 : Int32) (s0 : Int32) (s1 : Int32) (μ : am_Mu) : Option (Int32 × am_Mu) := (if ¬ s0 = s1 then fL_law_824 sL sX k694 a2 a12 a15 μ else ((fB_leads 0 1 a15 5000 μ).bind fun q2 => (if ¬ a15 = (q2.2 114 0) then fL_law_800 sL sX k694 a2 a12 a15 q2.1 q2.2 else (if (q2.2 114 1) = a15 then fL_law_800 sL sX k694 a2 a12 a15 q2.1 q2.2 else fL_law_801 sL sX k694 a2 a12 a15 q2.1 2 q2.2))))
def fL_law_732 (sL : Nat) (sX : Nat → Int32) (k694 : Int32 → Int32 → Int32 → Int32 → am_Mu → Option (Int32 × am_Mu)) (a2 : Int32) (a12 : Int32) (a15 : Int32) (s0 : Int32) (s1 : Int32) (μ : am_Mu) : Option (Int32 × am_Mu) := (if ¬ s0 = s1 then fL_law_824 sL sX k694 a2 a12 a15 μ else ((fB_leads 0 0 a15 9000 μ).bind fun q2 => (bif am_inb a15 6 then (if (q2.2 115 ((a15).toNatClampNeg)) = (q2.2 116 ((a15).toNatClampNeg)) then fL_law_764 sL sX k694 a2 a12 a15 q2.1 0 q2.2 else fL_law_764 sL sX k694 a2 a12 a15 q2.1 2 q2.2) else none)))
def fL_law_694 (sL : Nat) (sX : Nat → Int32) : Nat → Int32 → Int32 → Int32 → Int32 → am_Mu → Option (Int32 × am_Mu)
  | 0, _, _, _, _, _ => none
  | n + 1, a2, a3, a12, a15, μ => (if a2 ≤ a15 then fL_law_1205 sL sX a2 a3 μ else (if a3 = 0 then fL_law_824 sL sX (fL_law_694 sL sX n) a2 a12 a15 μ else ((fB_leads 0 0 a15 a12 μ).bind fun q3 => (bif am_inb a15 6 then (if (q3.2 118 ((a15).toNatClampNeg)) = (q3.2 119 ((a15).toNatClampNeg)) then fL_law_732 sL sX (fL_law_694 sL sX n) a2 a12 a15 q3.1 0 q3.2 else fL_law_732 sL sX (fL_law_694 sL sX n) a2 a12 a15 q3.1 2 q3.2) else none))))
def fL_law_691 (sL : Nat) (sX : Nat → Int32) (a2 : Int32) (a3 : Int32) (a12 : Int32) (μ : am_Mu) : Option (Int32 × am_Mu) := fL_law_694 sL sX am_F a2 a3 a12 0 μ
def fL_law_685 (sL : Nat) (sX : Nat → Int32) (k455 : Int32 → Int32 → Int32 → Int32 → am_Mu → Option (Int32 × am_Mu)) (a2 : Int32) (a3 : Int32) (a12 : Int32) (a15 : Int32) (μ : am_Mu) : Option (Int32 × am_Mu) := k455 a2 a3 a12 (a15 + 1) μ
def fL_law_646 (sL : Nat) (sX : Nat → Int32) : Nat → (Int32 → Int32 → Int32 → Int32 → am_Mu → Option (Int32 × am_Mu)) → Int32 → Int32 → Int32 → Int32 → Int32 → am_Mu → Option (Int32 × am_Mu)
  | 0, _, _, _, _, _, _, _ => none
  | n + 1, k455, a2, a3, a12, a15, a16, μ => (if a2 ≤ a16 then fL_law_685 sL sX k455 a2 a3 a12 a15 μ else (if ¬ a15 = a12 then fL_law_685 sL sX k455 a2 a3 a12 a15 μ else (bif am_inb a16 6 then (fL_law_646 sL sX n k455) a2 a3 a12 a15 (a16 + 1) (am_up (am_up μ 118 ((a16).toNatClampNeg) (μ 115 ((a16).toNatClampNeg))) 119 ((a16).toNatClampNeg) (μ 116 ((a16).toNatClampNeg))) else none)))
def fL_law_643 (sL : Nat) (sX : Nat → Int32) (k455 : Int32 → Int32 → Int32 → Int32 → am_Mu → Option (Int32 × am_Mu)) (a2 : Int32) (a3 : Int32) (a12 : Int32) (a15 : Int32) (μ : am_Mu) : Option (Int32 × am_Mu) := fL_law_646 sL sX am_F k455 a2 a3 a12 a15 0 μ
def fL_law_637 (sL : Nat) (sX : Nat → Int32) (k455 : Int32 → Int32 → Int32 → Int32 → am_Mu → Option (Int32 × am_Mu)) (k525 : Int32 → Int32 → Int32 → Int32 → Int32 → am_Mu → Option (Int32 × am_Mu)) (a2 : Int32) (a3 : Int32) (a12 : Int32) (a15 : Int32) (a16 : Int32) (μ : am_Mu) : Option (Int32 × am_Mu) := k525 a2 a3 a12 a15 (a16 + 1) μ
def fL_law_631 (sL : Nat) (sX : Nat → Int32) (k455 : Int32 → Int32 → Int32 → Int32 → am_Mu → Option (Int32 × am_Mu)) (k525 : Int32 → Int32 → Int32 → Int32 → Int32 → am_Mu → Option (Int32 × am_Mu)) (k588 : Int32 → Int32 → Int32 → Int32 → Int32 → Int32 → am_Mu → Option (Int32 × am_Mu)) (a2 : Int32) (a3 : Int32) (a12 : Int32) (a15 : Int32) (a16 : Int32) (a17 : Int32) (μ : am_Mu) : Option (Int32 × am_Mu) := k588 a2 a3 a12 a15 a16 (a17 + 1) μ
def fL_law_588 (sL : Nat) (sX : Nat → Int32) : Nat → (Int32 → Int32 → Int32 → Int32 → am_Mu → Option (Int32 × am_Mu)) → (Int32 → Int32 → Int32 → Int32 → Int32 → am_Mu → Option (Int32 × am_Mu)) → Int32 → Int32 → Int32 → Int32 → Int32 → Int32 → am_Mu → Option (Int32 × am_Mu)
  | 0, _, _, _, _, _, _, _, _, _ => none
  | n + 1, k455, k525, a2, a3, a12, a15, a16, a17, μ => (if a2 ≤ a17 then fL_law_637 sL sX k455 k525 a2 a3 a12 a15 a16 μ else (bif am_inb a17 6 then (if 0 ≤ (μ 117 ((a17).toNatClampNeg)) then fL_law_631 sL sX k455 k525 (fL_law_588 sL sX n k455 k525) a2 a3 a12 a15 a16 a17 μ else (if a17 = (μ 114 0) then fL_law_631 sL sX k455 k525 (fL_law_588 sL sX n k455 k525) a2 a3 a12 a15 a16 a17 μ else (if (μ 115 ((a17).toNatClampNeg)) = (μ 116 ((a17).toNatClampNeg)) then fL_law_631 sL sX k455 k525 (fL_law_588 sL sX n k455 k525) a2 a3 a12 a15 a16 a17 μ else fL_law_631 sL sX k455 k525 (fL_law_588 sL sX n k455 k525) a2 a3 a12 a15 a16 a17 (am_up μ 117 ((a17).toNatClampNeg) a16)))) else none))
def fL_law_525 (sL : Nat) (sX : Nat → Int32) : Nat → (Int32 → Int32 → Int32 → Int32 → am_Mu → Option (Int32 × am_Mu)) → Int32 → Int32 → Int32 → Int32 → Int32 → am_Mu → Option (Int32 × am_Mu)
  | 0, _, _, _, _, _, _, _ => none
  | n + 1, k455, a2, a3, a12, a15, a16, μ => (if 14 ≤ a16 then fL_law_643 sL sX k455 a2 a3 a12 a15 μ else (bif am_inb a16 18 then (if (μ 113 ((a16).toNatClampNeg)) = a15 then (bif am_inb a16 16 then ((fL_goesW (μ 110 ((a16).toNatClampNeg)) (μ 111 ((a16).toNatClampNeg)) (μ 112 ((a16).toNatClampNeg)) μ).bind fun q5 => ((fL_goesL (q5 110 ((a16).toNatClampNeg)) (q5 111 ((a16).toNatClampNeg)) (q5 112 ((a16).toNatClampNeg)) q5).bind fun q6 => fL_law_588 sL sX am_F k455 (fL_law_525 sL sX n k455) a2 a3 a12 a15 a16 0 q6)) else none) else fL_law_637 sL sX k455 (fL_law_525 sL sX n k455) a2 a3 a12 a15 a16 μ) else none))
def fL_law_522 (sL : Nat) (sX : Nat → Int32) (k455 : Int32 → Int32 → Int32 → Int32 → am_Mu → Option (Int32 × am_Mu)) (a2 : Int32) (a3 : Int32) (a12 : Int32) (a15 : Int32) (μ : am_Mu) : Option (Int32 × am_Mu) := fL_law_525 sL sX am_F k455 a2 a3 a12 a15 0 μ
def fL_law_516 (sL : Nat) (sX : Nat → Int32) (k455 : Int32 → Int32 → Int32 → Int32 → am_Mu → Option (Int32 × am_Mu)) (k465 : Int32 → Int32 → Int32 → Int32 → Int32 → am_Mu → Option (Int32 × am_Mu)) (a2 : Int32) (a3 : Int32) (a12 : Int32) (a15 : Int32) (a16 : Int32) (μ : am_Mu) : Option (Int32 × am_Mu) := k465 a2 a3 a12 a15 (a16 + 1) μ
def fL_law_465 (sL : Nat) (sX : Nat → Int32) : Nat → (Int32 → Int32 → Int32 → Int32 → am_Mu → Option (Int32 × am_Mu)) → Int32 → Int32 → Int32 → Int32 → Int32 → am_Mu → Option (Int32 × am_Mu)
  | 0, _, _, _, _, _, _, _ => none
  | n + 1, k455, a2, a3, a12, a15, a16, μ => (if 2 ≤ a16 then fL_law_522 sL sX k455 a2 a3 a12 a15 μ else (bif am_inb ((16 : Int32) + a16) 18 then (if (μ 113 ((((16 : Int32) + a16)).toNatClampNeg)) = a15 then (bif am_inb a16 2 then (bif am_inb (μ 114 ((a16).toNatClampNeg)) 6 then (if a16 ≤ 0 then fL_law_516 sL sX k455 (fL_law_465 sL sX n k455) a2 a3 a12 a15 a16 (am_up μ 115 (((μ 114 ((a16).toNatClampNeg))).toNatClampNeg) ((μ 115 (((μ 114 ((a16).toNatClampNeg))).toNatClampNeg)) ||| 1)) else fL_law_516 sL sX k455 (fL_law_465 sL sX n k455) a2 a3 a12 a15 a16 (am_up (am_up μ 115 (((μ 114 ((a16).toNatClampNeg))).toNatClampNeg) ((μ 115 (((μ 114 ((a16).toNatClampNeg))).toNatClampNeg)) ||| 1)) 116 (((μ 114 ((a16).toNatClampNeg))).toNatClampNeg) ((μ 116 (((μ 114 ((a16).toNatClampNeg))).toNatClampNeg)) ||| 1))) else none) else none) else fL_law_516 sL sX k455 (fL_law_465 sL sX n k455) a2 a3 a12 a15 a16 μ) else none))
def fL_law_455 (sL : Nat) (sX : Nat → Int32) : Nat → Int32 → Int32 → Int32 → Int32 → am_Mu → Option (Int32 × am_Mu)
  | 0, _, _, _, _, _ => none
  | n + 1, a2, a3, a12, a15, μ => (if 60 ≤ a15 then fL_law_691 sL sX a2 a3 a12 μ else fL_law_465 sL sX am_F (fL_law_455 sL sX n) a2 a3 a12 a15 0 μ)
def fL_law_424 (sL : Nat) (sX : Nat → Int32) (a2 : Int32) (a3 : Int32) (μ : am_Mu) : Option (Int32 × am_Mu) := ((fL_cell sL sX 17 μ).bind fun q1 => ((fL_pick q1.1 45 q1.2).bind fun q2 => fL_law_455 sL sX am_F a2 a3 ((10 : Int32) + q2.1) 0 (am_row (am_row q2.2 118 (fun _ => 0)) 119 (fun _ => 0))))
def fL_law_406 (sL : Nat) (sX : Nat → Int32) : Nat → Int32 → Int32 → Int32 → am_Mu → Option (Int32 × am_Mu)
  | 0, _, _, _, _ => none
  | n + 1, a2, a3, a12, μ => (if a2 ≤ a12 then fL_law_424 sL sX a2 a3 μ else (bif am_inb a12 6 then (fL_law_406 sL sX n) a2 a3 (a12 + 1) (am_up μ 117 ((a12).toNatClampNeg) (-1)) else none))
def fL_law_385 (sL : Nat) (sX : Nat → Int32) (a2 : Int32) (a3 : Int32) (μ : am_Mu) : Option (Int32 × am_Mu) := fL_law_406 sL sX am_F a2 a3 0 (am_row (am_row (am_row μ 115 (fun _ => 0)) 116 (fun _ => 0)) 117 (fun _ => 0))
def fL_law_378 (sL : Nat) (sX : Nat → Int32) (k297 : Int32 → Int32 → Int32 → am_Mu → Option (Int32 × am_Mu)) (a2 : Int32) (a9 : Int32) (s0 : Int32) (μ : am_Mu) : Option (Int32 × am_Mu) := k297 a2 s0 (a9 + 1) μ
def fL_law_377 (sL : Nat) (sX : Nat → Int32) (k297 : Int32 → Int32 → Int32 → am_Mu → Option (Int32 × am_Mu)) (a2 : Int32) (a9 : Int32) (μ : am_Mu) : Option (Int32 × am_Mu) := fL_law_378 sL sX k297 a2 a9 0 μ
def fL_law_297 (sL : Nat) (sX : Nat → Int32) : Nat → Int32 → Int32 → Int32 → am_Mu → Option (Int32 × am_Mu)
  | 0, _, _, _, _ => none
  | n + 1, a2, a3, a9, μ => (if 2 ≤ a9 then fL_law_385 sL sX a2 a3 μ else ((fL_cell sL sX ((15 : Int32) + a9) μ).bind fun q2 => ((fL_pick q2.1 a2 q2.2).bind fun q3 => (bif am_inb a9 2 then ((fL_cell sL sX ((15 : Int32) + a9) (am_up q3.2 114 ((a9).toNatClampNeg) q3.1)).bind fun q5 => ((fL_pick (q5.1 >>> (8 &&& 31)) 40 q5.2).bind fun q6 => (bif am_inb ((16 : Int32) + a9) 18 then (if a3 = 0 then fL_law_377 sL sX (fL_law_297 sL sX n) a2 a9 (am_up q6.2 113 ((((16 : Int32) + a9)).toNatClampNeg) q6.1) else ((fB_mistake (q6.2 114 ((a9).toNatClampNeg)) 0 ((am_up q6.2 113 ((((16 : Int32) + a9)).toNatClampNeg) q6.1) 113 ((((16 : Int32) + a9)).toNatClampNeg)) (am_up q6.2 113 ((((16 : Int32) + a9)).toNatClampNeg) q6.1)).bind fun q9 => (if ¬ q9.1 = a9 then fL_law_377 sL sX (fL_law_297 sL sX n) a2 a9 q9.2 else fL_law_378 sL sX (fL_law_297 sL sX n) a2 a9 1 q9.2))) else none))) else none))))
def fL_law_289 (sL : Nat) (sX : Nat → Int32) (a2 : Int32) (a3 : Int32) (μ : am_Mu) : Option (Int32 × am_Mu) := fL_law_297 sL sX am_F a2 a3 0 (am_row μ 114 (fun _ => 0))
def fL_law_282 (sL : Nat) (sX : Nat → Int32) (k119 : Int32 → Int32 → Int32 → am_Mu → Option (Int32 × am_Mu)) (a2 : Int32) (a8 : Int32) (s0 : Int32) (μ : am_Mu) : Option (Int32 × am_Mu) := k119 a2 s0 (a8 + 1) μ
def fL_law_281 (sL : Nat) (sX : Nat → Int32) (k119 : Int32 → Int32 → Int32 → am_Mu → Option (Int32 × am_Mu)) (a2 : Int32) (a8 : Int32) (μ : am_Mu) : Option (Int32 × am_Mu) := fL_law_282 sL sX k119 a2 a8 0 μ
def fL_law_224 (sL : Nat) (sX : Nat → Int32) (k119 : Int32 → Int32 → Int32 → am_Mu → Option (Int32 × am_Mu)) (a2 : Int32) (a3 : Int32) (a8 : Int32) (a9 : Int32) (s1 : Int32) (s2 : Int32) (μ : am_Mu) : Option (Int32 × am_Mu) := (bif am_inb s1 16 then ((fL_pick (a9 >>> (12 &&& 31)) 40 (am_up μ 112 ((s1).toNatClampNeg) s2)).bind fun q2 => (bif am_inb a8 18 then (if a3 = 0 then fL_law_281 sL sX k119 a2 a8 (am_up q2.2 113 ((a8).toNatClampNeg) ((10 : Int32) + q2.1)) else (bif am_inb a8 16 then ((fB_act (q2.2 110 ((a8).toNatClampNeg)) (q2.2 111 ((a8).toNatClampNeg)) (q2.2 112 ((a8).toNatClampNeg)) ((am_up q2.2 113 ((a8).toNatClampNeg) ((10 : Int32) + q2.1)) 113 ((a8).toNatClampNeg)) 1 (am_up q2.2 113 ((a8).toNatClampNeg) ((10 : Int32) + q2.1))).bind fun q6 => (if ¬ q6.1 = a8 then fL_law_281 sL sX k119 a2 a8 q6.2 else fL_law_282 sL sX k119 a2 a8 1 q6.2)) else none)) else none)) else none)
def fL_law_172 (sL : Nat) (sX : Nat → Int32) (k119 : Int32 → Int32 → Int32 → am_Mu → Option (Int32 × am_Mu)) (a2 : Int32) (a3 : Int32) (a8 : Int32) (a9 : Int32) (s1 : Int32) (s2 : Int32) (μ : am_Mu) : Option (Int32 × am_Mu) := (bif am_inb s1 16 then ((fL_pick (a9 >>> (4 &&& 31)) a2 (am_up μ 110 ((s1).toNatClampNeg) s2)).bind fun q2 => (bif am_inb a8 16 then (if ¬ (q2.2 110 ((a8).toNatClampNeg)) = 2 then ((fL_pick (a9 >>> (8 &&& 31)) (a2 - 1) (am_up q2.2 111 ((a8).toNatClampNeg) q2.1)).bind fun q5 => (if a2 = 0 then none else fL_law_224 sL sX k119 a2 a3 a8 a9 a8 (((((am_up q2.2 111 ((a8).toNatClampNeg) q2.1) 111 ((a8).toNatClampNeg)) + 1) + q5.1) - (((((am_up q2.2 111 ((a8).toNatClampNeg) q2.1) 111 ((a8).toNatClampNeg)) + 1) + q5.1) / a2) * a2) q5.2)) else fL_law_224 sL sX k119 a2 a3 a8 a9 a8 (-1) (am_up q2.2 111 ((a8).toNatClampNeg) q2.1)) else none)) else none)
def fL_law_119 (sL : Nat) (sX : Nat → Int32) : Nat → Int32 → Int32 → Int32 → am_Mu → Option (Int32 × am_Mu)
  | 0, _, _, _, _ => none
  | n + 1, a2, a3, a8, μ => (if 14 ≤ a8 then fL_law_289 sL sX a2 a3 μ else ((fL_cell sL sX ((1 : Int32) + a8) μ).bind fun q2 => ((fL_pick q2.1 8 q2.2).bind fun q3 => (if 5 ≤ q3.1 then ((fL_pick q2.1 8 q3.2).bind fun q5 => (if 7 ≤ q5.1 then fL_law_172 sL sX (fL_law_119 sL sX n) a2 a3 a8 q2.1 a8 2 q5.2 else fL_law_172 sL sX (fL_law_119 sL sX n) a2 a3 a8 q2.1 a8 1 q5.2)) else fL_law_172 sL sX (fL_law_119 sL sX n) a2 a3 a8 q2.1 a8 0 q3.2))))
def fL_law_92 (sL : Nat) (sX : Nat → Int32) (a2 : Int32) (a3 : Int32) (μ : am_Mu) : Option (Int32 × am_Mu) := fL_law_119 sL sX am_F a2 a3 0 (am_row (am_row (am_row (am_row μ 110 (fun _ => 0)) 111 (fun _ => 0)) 112 (fun _ => 0)) 113 (fun _ => 0))
def fL_law_85 (sL : Nat) (sX : Nat → Int32) (k60 : Int32 → Int32 → Int32 → am_Mu → Option (Int32 × am_Mu)) (a2 : Int32) (a4 : Int32) (s0 : Int32) (μ : am_Mu) : Option (Int32 × am_Mu) := k60 a2 s0 (a4 + 1) μ
def fL_law_84 (sL : Nat) (sX : Nat → Int32) (k60 : Int32 → Int32 → Int32 → am_Mu → Option (Int32 × am_Mu)) (a2 : Int32) (a4 : Int32) (μ : am_Mu) : Option (Int32 × am_Mu) := fL_law_85 sL sX k60 a2 a4 0 μ
def fL_law_60 (sL : Nat) (sX : Nat → Int32) : Nat → Int32 → Int32 → Int32 → am_Mu → Option (Int32 × am_Mu)
  | 0, _, _, _, _ => none
  | n + 1, a2, a3, a4, μ => (if a2 ≤ a4 then fL_law_92 sL sX a2 a3 μ else (if a3 = 0 then fL_law_84 sL sX (fL_law_60 sL sX n) a2 a4 μ else ((fB_thing 0 μ).bind fun q3 => (if ¬ q3.1 = a4 then fL_law_84 sL sX (fL_law_60 sL sX n) a2 a4 q3.2 else fL_law_85 sL sX (fL_law_60 sL sX n) a2 a4 1 q3.2))))
set_option maxRecDepth 20000 in
set_option maxHeartbeats 1000000 in
theorem e_fL_law_1271 {sL : Nat} {sX : Nat → Int32} (d : Nat) : ∀ {w0 w1 w2 w3 w4 w5 w6 w7 w8 w9 w10 w11 w12 w13 w14 w15 w16 w17 w18 w19 w20 w21 : Value} {μ : am_Mu} {out : Int32 × am_Mu}, fL_law_1271 sL sX μ = some out → am_Ex (some (some (sL, sX))) (d + 7) 95 1271 [w0, w1, w2, w3, w4, w5, w6, w7, w8, w9, w10, w11, w12, w13, w14, w15, w16, w17, w18, w19, w20, w21] [] (am_SX (am_TL.take 12)) μ (some (.int out.1), (am_SX (am_TL.take 12)), out.2) := by
  intro w0 w1 w2 w3 w4 w5 w6 w7 w8 w9 w10 w11 w12 w13 w14 w15 w16 w17 w18 w19 w20 w21 μ out h
  unfold fL_law_1271 at h
  refine am_Ex.seg 1 1272 [w0, w1, w2, w3, w4, w5, w6, w7, w8, w9, w10, w11, w12, w13, w14, w15, w16, w17, w18, w19, w20, w21] [.int 0] μ (fun _ => rfl) ?_
  cases h
  exact am_Ex.zret rfl rfl (by decide)
set_option maxRecDepth 20000 in
set_option maxHeartbeats 1000000 in
theorem e_fL_law_1205 {sL : Nat} {sX : Nat → Int32} (d : Nat) : ∀ {a2 : Int32} {a3 : Int32} {w0 w4 w5 w6 w7 w8 w9 w10 w11 w12 w13 w14 w15 w16 w17 w18 w19 w20 w21 : Value} {μ : am_Mu} {out : Int32 × am_Mu}, fL_law_1205 sL sX a2 a3 μ = some out → am_Ex (some (some (sL, sX))) (d + 7) 95 1205 [w0, .ref 0, .int a2, .int a3, w4, w5, w6, w7, w8, w9, w10, w11, w12, w13, w14, w15, w16, w17, w18, w19, w20, w21] [] (am_SX (am_TL.take 12)) μ (some (.int out.1), (am_SX (am_TL.take 12)), out.2) := by
  intro a2 a3 w0 w4 w5 w6 w7 w8 w9 w10 w11 w12 w13 w14 w15 w16 w17 w18 w19 w20 w21 μ out h
  unfold fL_law_1205 at h
  refine am_Ex.seg 1 1206 [w0, .ref 0, .int a2, .int a3, w4, w5, w6, w7, w8, w9, w10, w11, w12, w13, w14, w15, w16, w17, w18, w19, w20, w21] [.int a3] μ (fun _ => rfl) ?_
  rcases am_ite h with ⟨q1, h⟩ | ⟨q1, h⟩
  · refine am_Ex.if_eq_t rfl q1 ?_
    exact e_fL_law_1271 d h
  · refine am_Ex.if_eq_f rfl q1 ?_
    refine am_Ex.seg 5 1214 [w0, .ref 0, .int a2, .int a3, w4, w5, w6, w7, w8, w9, w10, w11, w12, w13, w14, w15, w16, w17, w18, w19, w20, w21] [.int 0, .int 0, .int 0, .int 2, .ref 0] μ (fun _ => rfl) ?_
    obtain ⟨q2, h_q2, h⟩ := am_bind h
    refine am_Ex.ivk (na := 5) (b := 0) (As' := [.int 2, .int 0, .int 0, .int 0]) rfl rfl rfl rfl rfl rfl rfl rfl rfl (e_fB_leads (d + 0) h_q2) ?_
    refine am_Ex.same 1217 [w0, .ref 0, .int a2, .int a3, w4, w5, w6, w7, w8, w9, w10, w11, w12, w13, w14, w15, w16, w17, w18, w19, w20, w21] [.int q2.1] q2.2 rfl ?_
    refine am_Ex.seg 1 1218 [w0, .ref 0, .int a2, .int a3, w4, w5, w6, w7, w8, w9, w10, w11, w12, w13, w14, w15, w16, w17, w18, w19, w20, w21] [.int (-1), .int q2.1] q2.2 (fun _ => rfl) ?_
    rcases am_ite h with ⟨q3, h⟩ | ⟨q3, h⟩
    · refine am_Ex.icmp_ne_t rfl q3 ?_
      exact e_fL_law_1271 d h
    · refine am_Ex.icmp_ne_f rfl (Decidable.not_not.mp q3) ?_
      refine am_Ex.seg 4 1225 [w0, .ref 0, .int a2, .int a3, w4, w5, w6, w7, w8, w9, w10, w11, w12, w13, w14, w15, w16, w17, w18, w19, w20, w21] [.int 0, .int 2, .int 0, .ref 0] q2.2 (fun _ => rfl) ?_
      obtain ⟨q4, h_q4, h⟩ := am_bind h
      refine am_Ex.ivk (na := 4) (b := 0) (As' := [.int 0, .int 2, .int 0]) rfl rfl rfl rfl rfl rfl rfl rfl rfl (e_fB_reached (d + 0) h_q4) ?_
      refine am_Ex.same 1228 [w0, .ref 0, .int a2, .int a3, w4, w5, w6, w7, w8, w9, w10, w11, w12, w13, w14, w15, w16, w17, w18, w19, w20, w21] [.int q4.1] q4.2 rfl ?_
      refine am_Ex.seg 1 1229 [w0, .ref 0, .int a2, .int a3, w4, w5, w6, w7, w8, w9, w10, w11, w12, w13, w14, w15, w16, w17, w18, w19, w20, w21] [.int (-1), .int q4.1] q4.2 (fun _ => rfl) ?_
      rcases am_ite h with ⟨q5, h⟩ | ⟨q5, h⟩
      · refine am_Ex.icmp_ne_t rfl q5 ?_
        exact e_fL_law_1271 d h
      · refine am_Ex.icmp_ne_f rfl (Decidable.not_not.mp q5) ?_
        refine am_Ex.seg 5 1237 [w0, .ref 0, .int a2, .int a3, w4, w5, w6, w7, w8, w9, w10, w11, w12, w13, w14, w15, w16, w17, w18, w19, w20, w21] [.int 0, .int a2, .int 0, .int 0, .ref 0] q4.2 (fun _ => rfl) ?_
        obtain ⟨q6, h_q6, h⟩ := am_bind h
        refine am_Ex.ivk (na := 5) (b := 0) (As' := [.int 0, .int 0, .int a2, .int 0]) rfl rfl rfl rfl rfl rfl rfl rfl rfl (e_fB_way (d + 0) h_q6) ?_
        refine am_Ex.same 1240 [w0, .ref 0, .int a2, .int a3, w4, w5, w6, w7, w8, w9, w10, w11, w12, w13, w14, w15, w16, w17, w18, w19, w20, w21] [.int q6.1] q6.2 rfl ?_
        refine am_Ex.seg 1 1241 [w0, .ref 0, .int a2, .int a3, w4, w5, w6, w7, w8, w9, w10, w11, w12, w13, w14, w15, w16, w17, w18, w19, w20, w21] [.int (-1), .int q6.1] q6.2 (fun _ => rfl) ?_
        rcases am_ite h with ⟨q7, h⟩ | ⟨q7, h⟩
        · refine am_Ex.icmp_ne_t rfl q7 ?_
          exact e_fL_law_1271 d h
        · refine am_Ex.icmp_ne_f rfl (Decidable.not_not.mp q7) ?_
          refine am_Ex.seg 4 1248 [w0, .ref 0, .int a2, .int a3, w4, w5, w6, w7, w8, w9, w10, w11, w12, w13, w14, w15, w16, w17, w18, w19, w20, w21] [.int a2, .int 0, .int 0, .ref 0] q6.2 (fun _ => rfl) ?_
          obtain ⟨q8, h_q8, h⟩ := am_bind h
          refine am_Ex.ivk (na := 4) (b := 0) (As' := [.int 0, .int 0, .int a2]) rfl rfl rfl rfl rfl rfl rfl rfl rfl (e_fB_mend (d + 0) h_q8) ?_
          refine am_Ex.same 1251 [w0, .ref 0, .int a2, .int a3, w4, w5, w6, w7, w8, w9, w10, w11, w12, w13, w14, w15, w16, w17, w18, w19, w20, w21] [.int q8.1] q8.2 rfl ?_
          refine am_Ex.seg 1 1252 [w0, .ref 0, .int a2, .int a3, w4, w5, w6, w7, w8, w9, w10, w11, w12, w13, w14, w15, w16, w17, w18, w19, w20, w21] [.int (-1), .int q8.1] q8.2 (fun _ => rfl) ?_
          rcases am_ite h with ⟨q9, h⟩ | ⟨q9, h⟩
          · refine am_Ex.icmp_ne_t rfl q9 ?_
            exact e_fL_law_1271 d h
          · refine am_Ex.icmp_ne_f rfl (Decidable.not_not.mp q9) ?_
            refine am_Ex.seg 5 1260 [w0, .ref 0, .int a2, .int a3, w4, w5, w6, w7, w8, w9, w10, w11, w12, w13, w14, w15, w16, w17, w18, w19, w20, w21] [.int (-1), .int 0, .int 0, .int 0, .ref 0] q8.2 (fun _ => rfl) ?_
            obtain ⟨q10, h_q10, h⟩ := am_bind h
            refine am_Ex.ivk (na := 5) (b := 0) (As' := [.int 0, .int 0, .int 0, .int (-1)]) rfl rfl rfl rfl rfl rfl rfl rfl rfl (e_fB_way (d + 0) h_q10) ?_
            refine am_Ex.same 1263 [w0, .ref 0, .int a2, .int a3, w4, w5, w6, w7, w8, w9, w10, w11, w12, w13, w14, w15, w16, w17, w18, w19, w20, w21] [.int q10.1] q10.2 rfl ?_
            refine am_Ex.seg 1 1264 [w0, .ref 0, .int a2, .int a3, w4, w5, w6, w7, w8, w9, w10, w11, w12, w13, w14, w15, w16, w17, w18, w19, w20, w21] [.int (-1), .int q10.1] q10.2 (fun _ => rfl) ?_
            rcases am_ite h with ⟨q11, h⟩ | ⟨q11, h⟩
            · refine am_Ex.icmp_ne_t rfl q11 ?_
              exact e_fL_law_1271 d h
            · refine am_Ex.icmp_ne_f rfl (Decidable.not_not.mp q11) ?_
              refine am_Ex.seg 1 1268 [w0, .ref 0, .int a2, .int a3, w4, w5, w6, w7, w8, w9, w10, w11, w12, w13, w14, w15, w16, w17, w18, w19, w20, w21] [.int 1] q10.2 (fun _ => rfl) ?_
              refine am_Ex.goto rfl ?_
              cases h
              exact am_Ex.zret rfl rfl (by decide)
set_option maxRecDepth 20000 in
set_option maxHeartbeats 1000000 in
theorem e_fL_law_1198 {sL : Nat} {sX : Nat → Int32} (d : Nat) {k694 : Int32 → Int32 → Int32 → Int32 → am_Mu → Option (Int32 × am_Mu)} (hk694 : ∀ {a2 : Int32} {a3 : Int32} {a12 : Int32} {a15 : Int32} {w0 w4 w7 w16 w17 w18 w19 w20 w21 : Value} {μ : am_Mu} {out : Int32 × am_Mu}, k694 a2 a3 a12 a15 μ = some out → am_Ex (some (some (sL, sX))) (d + 7) 95 694 [w0, .ref 0, .int a2, .int a3, w4, .ref 111, .ref 112, w7, .ref 114, .ref 115, .ref 116, .ref 117, .int a12, .ref 118, .ref 119, .int a15, w16, w17, w18, w19, w20, w21] [] (am_SX (am_TL.take 12)) μ (some (.int out.1), (am_SX (am_TL.take 12)), out.2)) : ∀ {a2 : Int32} {a12 : Int32} {a15 : Int32} {s0 : Int32} {w0 w3 w4 w7 w16 w17 w18 w19 w20 w21 : Value} {μ : am_Mu} {out : Int32 × am_Mu}, fL_law_1198 sL sX k694 a2 a12 a15 s0 μ = some out → am_Ex (some (some (sL, sX))) (d + 7) 95 1198 [w0, .ref 0, .int a2, w3, w4, .ref 111, .ref 112, w7, .ref 114, .ref 115, .ref 116, .ref 117, .int a12, .ref 118, .ref 119, .int a15, w16, w17, w18, w19, w20, w21] [.int s0] (am_SX (am_TL.take 12)) μ (some (.int out.1), (am_SX (am_TL.take 12)), out.2) := by
  intro a2 a12 a15 s0 w0 w3 w4 w7 w16 w17 w18 w19 w20 w21 μ out h
  unfold fL_law_1198 at h
  refine am_Ex.seg 2 1202 [w0, .ref 0, .int a2, .int s0, w4, .ref 111, .ref 112, w7, .ref 114, .ref 115, .ref 116, .ref 117, .int a12, .ref 118, .ref 119, .int (a15 + 1), w16, w17, w18, w19, w20, w21] [] μ (fun _ => rfl) ?_
  refine am_Ex.goto rfl ?_
  exact hk694 h
set_option maxRecDepth 20000 in
set_option maxHeartbeats 1000000 in
theorem e_fL_law_1197 {sL : Nat} {sX : Nat → Int32} (d : Nat) {k694 : Int32 → Int32 → Int32 → Int32 → am_Mu → Option (Int32 × am_Mu)} (hk694 : ∀ {a2 : Int32} {a3 : Int32} {a12 : Int32} {a15 : Int32} {w0 w4 w7 w16 w17 w18 w19 w20 w21 : Value} {μ : am_Mu} {out : Int32 × am_Mu}, k694 a2 a3 a12 a15 μ = some out → am_Ex (some (some (sL, sX))) (d + 7) 95 694 [w0, .ref 0, .int a2, .int a3, w4, .ref 111, .ref 112, w7, .ref 114, .ref 115, .ref 116, .ref 117, .int a12, .ref 118, .ref 119, .int a15, w16, w17, w18, w19, w20, w21] [] (am_SX (am_TL.take 12)) μ (some (.int out.1), (am_SX (am_TL.take 12)), out.2)) : ∀ {a2 : Int32} {a12 : Int32} {a15 : Int32} {w0 w3 w4 w7 w16 w17 w18 w19 w20 w21 : Value} {μ : am_Mu} {out : Int32 × am_Mu}, fL_law_1197 sL sX k694 a2 a12 a15 μ = some out → am_Ex (some (some (sL, sX))) (d + 7) 95 1197 [w0, .ref 0, .int a2, w3, w4, .ref 111, .ref 112, w7, .ref 114, .ref 115, .ref 116, .ref 117, .int a12, .ref 118, .ref 119, .int a15, w16, w17, w18, w19, w20, w21] [] (am_SX (am_TL.take 12)) μ (some (.int out.1), (am_SX (am_TL.take 12)), out.2) := by
  intro a2 a12 a15 w0 w3 w4 w7 w16 w17 w18 w19 w20 w21 μ out h
  unfold fL_law_1197 at h
  refine am_Ex.seg 1 1198 [w0, .ref 0, .int a2, w3, w4, .ref 111, .ref 112, w7, .ref 114, .ref 115, .ref 116, .ref 117, .int a12, .ref 118, .ref 119, .int a15, w16, w17, w18, w19, w20, w21] [.int 0] μ (fun _ => rfl) ?_
  exact e_fL_law_1198 d hk694 h
set_option maxRecDepth 20000 in
set_option maxHeartbeats 1000000 in
theorem e_fL_law_1174 {sL : Nat} {sX : Nat → Int32} (d : Nat) {k694 : Int32 → Int32 → Int32 → Int32 → am_Mu → Option (Int32 × am_Mu)} (hk694 : ∀ {a2 : Int32} {a3 : Int32} {a12 : Int32} {a15 : Int32} {w0 w4 w7 w16 w17 w18 w19 w20 w21 : Value} {μ : am_Mu} {out : Int32 × am_Mu}, k694 a2 a3 a12 a15 μ = some out → am_Ex (some (some (sL, sX))) (d + 7) 95 694 [w0, .ref 0, .int a2, .int a3, w4, .ref 111, .ref 112, w7, .ref 114, .ref 115, .ref 116, .ref 117, .int a12, .ref 118, .ref 119, .int a15, w16, w17, w18, w19, w20, w21] [] (am_SX (am_TL.take 12)) μ (some (.int out.1), (am_SX (am_TL.take 12)), out.2)) : ∀ {a2 : Int32} {a3 : Int32} {a12 : Int32} {a15 : Int32} {s0 : Int32} {w0 w4 w7 w16 w17 w18 w19 w20 w21 : Value} {μ : am_Mu} {out : Int32 × am_Mu}, fL_law_1174 sL sX k694 a2 a3 a12 a15 s0 μ = some out → am_Ex (some (some (sL, sX))) (d + 7) 95 1174 [w0, .ref 0, .int a2, .int a3, w4, .ref 111, .ref 112, w7, .ref 114, .ref 115, .ref 116, .ref 117, .int a12, .ref 118, .ref 119, .int a15, w16, w17, w18, w19, w20, w21] [.int s0] (am_SX (am_TL.take 12)) μ (some (.int out.1), (am_SX (am_TL.take 12)), out.2) := by
  intro a2 a3 a12 a15 s0 w0 w4 w7 w16 w17 w18 w19 w20 w21 μ out h
  unfold fL_law_1174 at h
  refine am_Ex.seg 2 1177 [w0, .ref 0, .int a2, .int a3, w4, .ref 111, .ref 112, w7, .ref 114, .ref 115, .ref 116, .ref 117, .int a12, .ref 118, .ref 119, .int a15, w16, w17, w18, w19, .int s0, w21] [.int a3] μ (fun _ => rfl) ?_
  rcases am_ite h with ⟨q1, h⟩ | ⟨q1, h⟩
  · refine am_Ex.if_eq_t rfl q1 ?_
    exact e_fL_law_1197 d hk694 h
  · refine am_Ex.if_eq_f rfl q1 ?_
    refine am_Ex.seg 4 1185 [w0, .ref 0, .int a2, .int a3, w4, .ref 111, .ref 112, w7, .ref 114, .ref 115, .ref 116, .ref 117, .int a12, .ref 118, .ref 119, .int a15, w16, w17, w18, w19, .int s0, w21] [.int a15, .int 0, .int 0, .ref 0] μ (fun _ => rfl) ?_
    obtain ⟨q2, h_q2, h⟩ := am_bind h
    refine am_Ex.ivk (na := 4) (b := 0) (As' := [.int 0, .int 0, .int a15]) rfl rfl rfl rfl rfl rfl rfl rfl rfl (e_fB_mend (d + 0) h_q2) ?_
    refine am_Ex.same 1188 [w0, .ref 0, .int a2, .int a3, w4, .ref 111, .ref 112, w7, .ref 114, .ref 115, .ref 116, .ref 117, .int a12, .ref 118, .ref 119, .int a15, w16, w17, w18, w19, .int s0, w21] [.int q2.1] q2.2 rfl ?_
    refine am_Ex.seg 1 1190 [w0, .ref 0, .int a2, .int a3, w4, .ref 111, .ref 112, w7, .ref 114, .ref 115, .ref 116, .ref 117, .int a12, .ref 118, .ref 119, .int a15, w16, w17, w18, w19, .int s0, w21] [.int s0, .int q2.1] q2.2 (fun _ => rfl) ?_
    rcases am_ite h with ⟨q3, h⟩ | ⟨q3, h⟩
    · refine am_Ex.icmp_ne_t rfl q3 ?_
      exact e_fL_law_1197 d hk694 h
    · refine am_Ex.icmp_ne_f rfl (Decidable.not_not.mp q3) ?_
      refine am_Ex.seg 1 1194 [w0, .ref 0, .int a2, .int a3, w4, .ref 111, .ref 112, w7, .ref 114, .ref 115, .ref 116, .ref 117, .int a12, .ref 118, .ref 119, .int a15, w16, w17, w18, w19, .int s0, w21] [.int 1] q2.2 (fun _ => rfl) ?_
      refine am_Ex.goto rfl ?_
      exact e_fL_law_1198 d hk694 h
set_option maxRecDepth 20000 in
set_option maxHeartbeats 1000000 in
theorem e_fL_law_1135 {sL : Nat} {sX : Nat → Int32} (d : Nat) {k694 : Int32 → Int32 → Int32 → Int32 → am_Mu → Option (Int32 × am_Mu)} (hk694 : ∀ {a2 : Int32} {a3 : Int32} {a12 : Int32} {a15 : Int32} {w0 w4 w7 w16 w17 w18 w19 w20 w21 : Value} {μ : am_Mu} {out : Int32 × am_Mu}, k694 a2 a3 a12 a15 μ = some out → am_Ex (some (some (sL, sX))) (d + 7) 95 694 [w0, .ref 0, .int a2, .int a3, w4, .ref 111, .ref 112, w7, .ref 114, .ref 115, .ref 116, .ref 117, .int a12, .ref 118, .ref 119, .int a15, w16, w17, w18, w19, w20, w21] [] (am_SX (am_TL.take 12)) μ (some (.int out.1), (am_SX (am_TL.take 12)), out.2)) : ∀ {a2 : Int32} {a12 : Int32} {a15 : Int32} {s0 : Int32} {w0 w3 w4 w7 w16 w17 w18 w19 w20 w21 : Value} {μ : am_Mu} {out : Int32 × am_Mu}, fL_law_1135 sL sX k694 a2 a12 a15 s0 μ = some out → am_Ex (some (some (sL, sX))) (d + 7) 95 1135 [w0, .ref 0, .int a2, w3, w4, .ref 111, .ref 112, w7, .ref 114, .ref 115, .ref 116, .ref 117, .int a12, .ref 118, .ref 119, .int a15, w16, w17, w18, w19, w20, w21] [.int s0] (am_SX (am_TL.take 12)) μ (some (.int out.1), (am_SX (am_TL.take 12)), out.2) := by
  intro a2 a12 a15 s0 w0 w3 w4 w7 w16 w17 w18 w19 w20 w21 μ out h
  unfold fL_law_1135 at h
  refine am_Ex.seg 3 1140 [w0, .ref 0, .int a2, .int s0, w4, .ref 111, .ref 112, w7, .ref 114, .ref 115, .ref 116, .ref 117, .int a12, .ref 118, .ref 119, .int a15, w16, w17, w18, w19, w20, w21] [.int a15, .ref 115] μ (fun _ => rfl) ?_
  obtain ⟨q1, h⟩ := am_bif h
  refine am_Ex.iald (v := (μ 115 ((a15).toNatClampNeg))) rfl rfl rfl q1 rfl ?_
  refine am_Ex.seg 2 1145 [w0, .ref 0, .int a2, .int s0, w4, .ref 111, .ref 112, w7, .ref 114, .ref 115, .ref 116, .ref 117, .int a12, .ref 118, .ref 119, .int a15, w16, w17, w18, w19, w20, w21] [.int a15, .ref 116, .int (μ 115 ((a15).toNatClampNeg))] μ (fun _ => rfl) ?_
  refine am_Ex.iald (v := (μ 116 ((a15).toNatClampNeg))) rfl rfl rfl q1 rfl ?_
  rcases am_ite h with ⟨q2, h⟩ | ⟨q2, h⟩
  · refine am_Ex.icmp_ne_t rfl q2 ?_
    refine am_Ex.seg 2 1157 [w0, .ref 0, .int a2, .int s0, w4, .ref 111, .ref 112, w7, .ref 114, .ref 115, .ref 116, .ref 117, .int a12, .ref 118, .ref 119, .int a15, w16, w17, w18, w19, w20, w21] [.int a15, .ref 115] μ (fun _ => rfl) ?_
    refine am_Ex.iald (v := (μ 115 ((a15).toNatClampNeg))) rfl rfl rfl q1 rfl ?_
    refine am_Ex.seg 4 1165 [w0, .ref 0, .int a2, .int s0, w4, .ref 111, .ref 112, w7, .ref 114, .ref 115, .ref 116, .ref 117, .int a12, .ref 118, .ref 119, .int a15, w16, w17, w18, w19, w20, w21] [.int a15, .ref 116, .int ((μ 115 ((a15).toNatClampNeg)) &&& (-2))] μ (fun _ => rfl) ?_
    refine am_Ex.iald (v := (μ 116 ((a15).toNatClampNeg))) rfl rfl rfl q1 rfl ?_
    rcases am_ite h with ⟨q3, h⟩ | ⟨q3, h⟩
    · refine am_Ex.icmp_ne_t rfl q3 ?_
      refine am_Ex.seg 1 1174 [w0, .ref 0, .int a2, .int s0, w4, .ref 111, .ref 112, w7, .ref 114, .ref 115, .ref 116, .ref 117, .int a12, .ref 118, .ref 119, .int a15, w16, w17, w18, w19, w20, w21] [.int (-1)] μ (fun _ => rfl) ?_
      exact e_fL_law_1174 d hk694 h
    · refine am_Ex.icmp_ne_f rfl (Decidable.not_not.mp q3) ?_
      refine am_Ex.seg 1 1170 [w0, .ref 0, .int a2, .int s0, w4, .ref 111, .ref 112, w7, .ref 114, .ref 115, .ref 116, .ref 117, .int a12, .ref 118, .ref 119, .int a15, w16, w17, w18, w19, w20, w21] [.int 1] μ (fun _ => rfl) ?_
      refine am_Ex.goto rfl ?_
      exact e_fL_law_1174 d hk694 h
  · refine am_Ex.icmp_ne_f rfl (Decidable.not_not.mp q2) ?_
    refine am_Ex.seg 1 1150 [w0, .ref 0, .int a2, .int s0, w4, .ref 111, .ref 112, w7, .ref 114, .ref 115, .ref 116, .ref 117, .int a12, .ref 118, .ref 119, .int a15, w16, w17, w18, w19, w20, w21] [.int 0] μ (fun _ => rfl) ?_
    refine am_Ex.goto rfl ?_
    exact e_fL_law_1174 d hk694 h
set_option maxRecDepth 20000 in
set_option maxHeartbeats 1000000 in
theorem e_fL_law_1134 {sL : Nat} {sX : Nat → Int32} (d : Nat) {k694 : Int32 → Int32 → Int32 → Int32 → am_Mu → Option (Int32 × am_Mu)} (hk694 : ∀ {a2 : Int32} {a3 : Int32} {a12 : Int32} {a15 : Int32} {w0 w4 w7 w16 w17 w18 w19 w20 w21 : Value} {μ : am_Mu} {out : Int32 × am_Mu}, k694 a2 a3 a12 a15 μ = some out → am_Ex (some (some (sL, sX))) (d + 7) 95 694 [w0, .ref 0, .int a2, .int a3, w4, .ref 111, .ref 112, w7, .ref 114, .ref 115, .ref 116, .ref 117, .int a12, .ref 118, .ref 119, .int a15, w16, w17, w18, w19, w20, w21] [] (am_SX (am_TL.take 12)) μ (some (.int out.1), (am_SX (am_TL.take 12)), out.2)) : ∀ {a2 : Int32} {a12 : Int32} {a15 : Int32} {w0 w3 w4 w7 w16 w17 w18 w19 w20 w21 : Value} {μ : am_Mu} {out : Int32 × am_Mu}, fL_law_1134 sL sX k694 a2 a12 a15 μ = some out → am_Ex (some (some (sL, sX))) (d + 7) 95 1134 [w0, .ref 0, .int a2, w3, w4, .ref 111, .ref 112, w7, .ref 114, .ref 115, .ref 116, .ref 117, .int a12, .ref 118, .ref 119, .int a15, w16, w17, w18, w19, w20, w21] [] (am_SX (am_TL.take 12)) μ (some (.int out.1), (am_SX (am_TL.take 12)), out.2) := by
  intro a2 a12 a15 w0 w3 w4 w7 w16 w17 w18 w19 w20 w21 μ out h
  unfold fL_law_1134 at h
  refine am_Ex.seg 1 1135 [w0, .ref 0, .int a2, w3, w4, .ref 111, .ref 112, w7, .ref 114, .ref 115, .ref 116, .ref 117, .int a12, .ref 118, .ref 119, .int a15, w16, w17, w18, w19, w20, w21] [.int 0] μ (fun _ => rfl) ?_
  exact e_fL_law_1135 d hk694 h
set_option maxRecDepth 20000 in
set_option maxHeartbeats 1000000 in
theorem e_fL_law_1112 {sL : Nat} {sX : Nat → Int32} (d : Nat) {k694 : Int32 → Int32 → Int32 → Int32 → am_Mu → Option (Int32 × am_Mu)} (hk694 : ∀ {a2 : Int32} {a3 : Int32} {a12 : Int32} {a15 : Int32} {w0 w4 w7 w16 w17 w18 w19 w20 w21 : Value} {μ : am_Mu} {out : Int32 × am_Mu}, k694 a2 a3 a12 a15 μ = some out → am_Ex (some (some (sL, sX))) (d + 7) 95 694 [w0, .ref 0, .int a2, .int a3, w4, .ref 111, .ref 112, w7, .ref 114, .ref 115, .ref 116, .ref 117, .int a12, .ref 118, .ref 119, .int a15, w16, w17, w18, w19, w20, w21] [] (am_SX (am_TL.take 12)) μ (some (.int out.1), (am_SX (am_TL.take 12)), out.2)) : ∀ {a2 : Int32} {a3 : Int32} {a12 : Int32} {a15 : Int32} {a18 : Int32} {w0 w4 w7 w16 w17 w19 w20 w21 : Value} {μ : am_Mu} {out : Int32 × am_Mu}, fL_law_1112 sL sX k694 a2 a3 a12 a15 a18 μ = some out → am_Ex (some (some (sL, sX))) (d + 7) 95 1112 [w0, .ref 0, .int a2, .int a3, w4, .ref 111, .ref 112, w7, .ref 114, .ref 115, .ref 116, .ref 117, .int a12, .ref 118, .ref 119, .int a15, w16, w17, .int a18, w19, w20, w21] [] (am_SX (am_TL.take 12)) μ (some (.int out.1), (am_SX (am_TL.take 12)), out.2) := by
  intro a2 a3 a12 a15 a18 w0 w4 w7 w16 w17 w19 w20 w21 μ out h
  unfold fL_law_1112 at h
  refine am_Ex.seg 1 1113 [w0, .ref 0, .int a2, .int a3, w4, .ref 111, .ref 112, w7, .ref 114, .ref 115, .ref 116, .ref 117, .int a12, .ref 118, .ref 119, .int a15, w16, w17, .int a18, w19, w20, w21] [.int a3] μ (fun _ => rfl) ?_
  rcases am_ite h with ⟨q1, h⟩ | ⟨q1, h⟩
  · refine am_Ex.if_eq_t rfl q1 ?_
    exact e_fL_law_1134 d hk694 h
  · refine am_Ex.if_eq_f rfl q1 ?_
    refine am_Ex.seg 5 1123 [w0, .ref 0, .int a2, .int a3, w4, .ref 111, .ref 112, w7, .ref 114, .ref 115, .ref 116, .ref 117, .int a12, .ref 118, .ref 119, .int a15, w16, w17, .int a18, w19, w20, w21] [.int a18, .int a15, .int 0, .int 0, .ref 0] μ (fun _ => rfl) ?_
    obtain ⟨q2, h_q2, h⟩ := am_bind h
    refine am_Ex.ivk (na := 5) (b := 0) (As' := [.int 0, .int 0, .int a15, .int a18]) rfl rfl rfl rfl rfl rfl rfl rfl rfl (e_fB_way (d + 0) h_q2) ?_
    refine am_Ex.same 1126 [w0, .ref 0, .int a2, .int a3, w4, .ref 111, .ref 112, w7, .ref 114, .ref 115, .ref 116, .ref 117, .int a12, .ref 118, .ref 119, .int a15, w16, w17, .int a18, w19, w20, w21] [.int q2.1] q2.2 rfl ?_
    refine am_Ex.seg 1 1127 [w0, .ref 0, .int a2, .int a3, w4, .ref 111, .ref 112, w7, .ref 114, .ref 115, .ref 116, .ref 117, .int a12, .ref 118, .ref 119, .int a15, w16, w17, .int a18, w19, w20, w21] [.int (-1), .int q2.1] q2.2 (fun _ => rfl) ?_
    rcases am_ite h with ⟨q3, h⟩ | ⟨q3, h⟩
    · refine am_Ex.icmp_ne_t rfl q3 ?_
      exact e_fL_law_1134 d hk694 h
    · refine am_Ex.icmp_ne_f rfl (Decidable.not_not.mp q3) ?_
      refine am_Ex.seg 1 1131 [w0, .ref 0, .int a2, .int a3, w4, .ref 111, .ref 112, w7, .ref 114, .ref 115, .ref 116, .ref 117, .int a12, .ref 118, .ref 119, .int a15, w16, w17, .int a18, w19, w20, w21] [.int 1] q2.2 (fun _ => rfl) ?_
      refine am_Ex.goto rfl ?_
      exact e_fL_law_1135 d hk694 h
set_option maxRecDepth 20000 in
set_option maxHeartbeats 1000000 in
theorem e_fL_law_1103 {sL : Nat} {sX : Nat → Int32} (d : Nat) {k694 : Int32 → Int32 → Int32 → Int32 → am_Mu → Option (Int32 × am_Mu)} {k987 : Int32 → Int32 → Int32 → Int32 → Int32 → Int32 → Int32 → Int32 → am_Mu → Option (Int32 × am_Mu)} (hk694 : ∀ {a2 : Int32} {a3 : Int32} {a12 : Int32} {a15 : Int32} {w0 w4 w7 w16 w17 w18 w19 w20 w21 : Value} {μ : am_Mu} {out : Int32 × am_Mu}, k694 a2 a3 a12 a15 μ = some out → am_Ex (some (some (sL, sX))) (d + 7) 95 694 [w0, .ref 0, .int a2, .int a3, w4, .ref 111, .ref 112, w7, .ref 114, .ref 115, .ref 116, .ref 117, .int a12, .ref 118, .ref 119, .int a15, w16, w17, w18, w19, w20, w21] [] (am_SX (am_TL.take 12)) μ (some (.int out.1), (am_SX (am_TL.take 12)), out.2)) (hk987 : ∀ {a2 : Int32} {a3 : Int32} {a12 : Int32} {a15 : Int32} {a16 : Int32} {a17 : Int32} {a18 : Int32} {a19 : Int32} {w0 w4 w7 w20 w21 : Value} {μ : am_Mu} {out : Int32 × am_Mu}, k987 a2 a3 a12 a15 a16 a17 a18 a19 μ = some out → am_Ex (some (some (sL, sX))) (d + 7) 95 987 [w0, .ref 0, .int a2, .int a3, w4, .ref 111, .ref 112, w7, .ref 114, .ref 115, .ref 116, .ref 117, .int a12, .ref 118, .ref 119, .int a15, .int a16, .int a17, .int a18, .int a19, w20, w21] [] (am_SX (am_TL.take 12)) μ (some (.int out.1), (am_SX (am_TL.take 12)), out.2)) : ∀ {a2 : Int32} {a3 : Int32} {a12 : Int32} {a15 : Int32} {a17 : Int32} {a18 : Int32} {a21 : Int32} {s0 : Int32} {w0 w4 w7 w16 w19 w20 : Value} {μ : am_Mu} {out : Int32 × am_Mu}, fL_law_1103 sL sX k694 k987 a2 a3 a12 a15 a17 a18 a21 s0 μ = some out → am_Ex (some (some (sL, sX))) (d + 7) 95 1103 [w0, .ref 0, .int a2, .int a3, w4, .ref 111, .ref 112, w7, .ref 114, .ref 115, .ref 116, .ref 117, .int a12, .ref 118, .ref 119, .int a15, w16, .int a17, .int a18, w19, w20, .int a21] [.int s0] (am_SX (am_TL.take 12)) μ (some (.int out.1), (am_SX (am_TL.take 12)), out.2) := by
  intro a2 a3 a12 a15 a17 a18 a21 s0 w0 w4 w7 w16 w19 w20 μ out h
  unfold fL_law_1103 at h
  refine am_Ex.seg 3 1109 [w0, .ref 0, .int a2, .int a3, w4, .ref 111, .ref 112, w7, .ref 114, .ref 115, .ref 116, .ref 117, .int a12, .ref 118, .ref 119, .int a15, .int a21, .int a17, .int a18, .int s0, w20, .int a21] [] μ (fun _ => rfl) ?_
  refine am_Ex.goto rfl ?_
  exact hk987 h
set_option maxRecDepth 20000 in
set_option maxHeartbeats 1000000 in
theorem e_fL_law_1102 {sL : Nat} {sX : Nat → Int32} (d : Nat) {k694 : Int32 → Int32 → Int32 → Int32 → am_Mu → Option (Int32 × am_Mu)} {k987 : Int32 → Int32 → Int32 → Int32 → Int32 → Int32 → Int32 → Int32 → am_Mu → Option (Int32 × am_Mu)} (hk694 : ∀ {a2 : Int32} {a3 : Int32} {a12 : Int32} {a15 : Int32} {w0 w4 w7 w16 w17 w18 w19 w20 w21 : Value} {μ : am_Mu} {out : Int32 × am_Mu}, k694 a2 a3 a12 a15 μ = some out → am_Ex (some (some (sL, sX))) (d + 7) 95 694 [w0, .ref 0, .int a2, .int a3, w4, .ref 111, .ref 112, w7, .ref 114, .ref 115, .ref 116, .ref 117, .int a12, .ref 118, .ref 119, .int a15, w16, w17, w18, w19, w20, w21] [] (am_SX (am_TL.take 12)) μ (some (.int out.1), (am_SX (am_TL.take 12)), out.2)) (hk987 : ∀ {a2 : Int32} {a3 : Int32} {a12 : Int32} {a15 : Int32} {a16 : Int32} {a17 : Int32} {a18 : Int32} {a19 : Int32} {w0 w4 w7 w20 w21 : Value} {μ : am_Mu} {out : Int32 × am_Mu}, k987 a2 a3 a12 a15 a16 a17 a18 a19 μ = some out → am_Ex (some (some (sL, sX))) (d + 7) 95 987 [w0, .ref 0, .int a2, .int a3, w4, .ref 111, .ref 112, w7, .ref 114, .ref 115, .ref 116, .ref 117, .int a12, .ref 118, .ref 119, .int a15, .int a16, .int a17, .int a18, .int a19, w20, w21] [] (am_SX (am_TL.take 12)) μ (some (.int out.1), (am_SX (am_TL.take 12)), out.2)) : ∀ {a2 : Int32} {a3 : Int32} {a12 : Int32} {a15 : Int32} {a17 : Int32} {a18 : Int32} {a21 : Int32} {w0 w4 w7 w16 w19 w20 : Value} {μ : am_Mu} {out : Int32 × am_Mu}, fL_law_1102 sL sX k694 k987 a2 a3 a12 a15 a17 a18 a21 μ = some out → am_Ex (some (some (sL, sX))) (d + 7) 95 1102 [w0, .ref 0, .int a2, .int a3, w4, .ref 111, .ref 112, w7, .ref 114, .ref 115, .ref 116, .ref 117, .int a12, .ref 118, .ref 119, .int a15, w16, .int a17, .int a18, w19, w20, .int a21] [] (am_SX (am_TL.take 12)) μ (some (.int out.1), (am_SX (am_TL.take 12)), out.2) := by
  intro a2 a3 a12 a15 a17 a18 a21 w0 w4 w7 w16 w19 w20 μ out h
  unfold fL_law_1102 at h
  refine am_Ex.seg 1 1103 [w0, .ref 0, .int a2, .int a3, w4, .ref 111, .ref 112, w7, .ref 114, .ref 115, .ref 116, .ref 117, .int a12, .ref 118, .ref 119, .int a15, w16, .int a17, .int a18, w19, w20, .int a21] [.int 0] μ (fun _ => rfl) ?_
  exact e_fL_law_1103 d hk694 hk987 h
set_option maxRecDepth 20000 in
set_option maxHeartbeats 1000000 in
theorem e_fL_law_1081 {sL : Nat} {sX : Nat → Int32} (d : Nat) {k694 : Int32 → Int32 → Int32 → Int32 → am_Mu → Option (Int32 × am_Mu)} {k987 : Int32 → Int32 → Int32 → Int32 → Int32 → Int32 → Int32 → Int32 → am_Mu → Option (Int32 × am_Mu)} (hk694 : ∀ {a2 : Int32} {a3 : Int32} {a12 : Int32} {a15 : Int32} {w0 w4 w7 w16 w17 w18 w19 w20 w21 : Value} {μ : am_Mu} {out : Int32 × am_Mu}, k694 a2 a3 a12 a15 μ = some out → am_Ex (some (some (sL, sX))) (d + 7) 95 694 [w0, .ref 0, .int a2, .int a3, w4, .ref 111, .ref 112, w7, .ref 114, .ref 115, .ref 116, .ref 117, .int a12, .ref 118, .ref 119, .int a15, w16, w17, w18, w19, w20, w21] [] (am_SX (am_TL.take 12)) μ (some (.int out.1), (am_SX (am_TL.take 12)), out.2)) (hk987 : ∀ {a2 : Int32} {a3 : Int32} {a12 : Int32} {a15 : Int32} {a16 : Int32} {a17 : Int32} {a18 : Int32} {a19 : Int32} {w0 w4 w7 w20 w21 : Value} {μ : am_Mu} {out : Int32 × am_Mu}, k987 a2 a3 a12 a15 a16 a17 a18 a19 μ = some out → am_Ex (some (some (sL, sX))) (d + 7) 95 987 [w0, .ref 0, .int a2, .int a3, w4, .ref 111, .ref 112, w7, .ref 114, .ref 115, .ref 116, .ref 117, .int a12, .ref 118, .ref 119, .int a15, .int a16, .int a17, .int a18, .int a19, w20, w21] [] (am_SX (am_TL.take 12)) μ (some (.int out.1), (am_SX (am_TL.take 12)), out.2)) : ∀ {a2 : Int32} {a3 : Int32} {a12 : Int32} {a15 : Int32} {a17 : Int32} {a18 : Int32} {s0 : Int32} {w0 w4 w7 w16 w19 w20 w21 : Value} {μ : am_Mu} {out : Int32 × am_Mu}, fL_law_1081 sL sX k694 k987 a2 a3 a12 a15 a17 a18 s0 μ = some out → am_Ex (some (some (sL, sX))) (d + 7) 95 1081 [w0, .ref 0, .int a2, .int a3, w4, .ref 111, .ref 112, w7, .ref 114, .ref 115, .ref 116, .ref 117, .int a12, .ref 118, .ref 119, .int a15, w16, .int a17, .int a18, w19, w20, w21] [.int s0] (am_SX (am_TL.take 12)) μ (some (.int out.1), (am_SX (am_TL.take 12)), out.2) := by
  intro a2 a3 a12 a15 a17 a18 s0 w0 w4 w7 w16 w19 w20 w21 μ out h
  unfold fL_law_1081 at h
  refine am_Ex.seg 2 1085 [w0, .ref 0, .int a2, .int a3, w4, .ref 111, .ref 112, w7, .ref 114, .ref 115, .ref 116, .ref 117, .int a12, .ref 118, .ref 119, .int a15, w16, .int a17, .int a18, w19, w20, .int s0] [.int s0] μ (fun _ => rfl) ?_
  rcases am_ite h with ⟨q1, h⟩ | ⟨q1, h⟩
  · refine am_Ex.if_lt_t rfl q1 ?_
    exact e_fL_law_1102 d hk694 hk987 h
  · refine am_Ex.if_lt_f rfl q1 ?_
    refine am_Ex.seg 5 1095 [w0, .ref 0, .int a2, .int a3, w4, .ref 111, .ref 112, w7, .ref 114, .ref 115, .ref 116, .ref 117, .int a12, .ref 118, .ref 119, .int a15, w16, .int a17, .int a18, w19, w20, .int s0] [.int ((a17 >>> (s0 &&& 31)) &&& 1)] μ (fun _ => rfl) ?_
    rcases am_ite h with ⟨q2, h⟩ | ⟨q2, h⟩
    · refine am_Ex.if_ne_t rfl q2 ?_
      exact e_fL_law_1102 d hk694 hk987 h
    · refine am_Ex.if_ne_f rfl (Decidable.not_not.mp q2) ?_
      refine am_Ex.seg 1 1099 [w0, .ref 0, .int a2, .int a3, w4, .ref 111, .ref 112, w7, .ref 114, .ref 115, .ref 116, .ref 117, .int a12, .ref 118, .ref 119, .int a15, w16, .int a17, .int a18, w19, w20, .int s0] [.int 1] μ (fun _ => rfl) ?_
      refine am_Ex.goto rfl ?_
      exact e_fL_law_1103 d hk694 hk987 h
set_option maxRecDepth 20000 in
set_option maxHeartbeats 1000000 in
theorem e_fL_law_1047 {sL : Nat} {sX : Nat → Int32} (d : Nat) {k694 : Int32 → Int32 → Int32 → Int32 → am_Mu → Option (Int32 × am_Mu)} {k987 : Int32 → Int32 → Int32 → Int32 → Int32 → Int32 → Int32 → Int32 → am_Mu → Option (Int32 × am_Mu)} (hk694 : ∀ {a2 : Int32} {a3 : Int32} {a12 : Int32} {a15 : Int32} {w0 w4 w7 w16 w17 w18 w19 w20 w21 : Value} {μ : am_Mu} {out : Int32 × am_Mu}, k694 a2 a3 a12 a15 μ = some out → am_Ex (some (some (sL, sX))) (d + 7) 95 694 [w0, .ref 0, .int a2, .int a3, w4, .ref 111, .ref 112, w7, .ref 114, .ref 115, .ref 116, .ref 117, .int a12, .ref 118, .ref 119, .int a15, w16, w17, w18, w19, w20, w21] [] (am_SX (am_TL.take 12)) μ (some (.int out.1), (am_SX (am_TL.take 12)), out.2)) (hk987 : ∀ {a2 : Int32} {a3 : Int32} {a12 : Int32} {a15 : Int32} {a16 : Int32} {a17 : Int32} {a18 : Int32} {a19 : Int32} {w0 w4 w7 w20 w21 : Value} {μ : am_Mu} {out : Int32 × am_Mu}, k987 a2 a3 a12 a15 a16 a17 a18 a19 μ = some out → am_Ex (some (some (sL, sX))) (d + 7) 95 987 [w0, .ref 0, .int a2, .int a3, w4, .ref 111, .ref 112, w7, .ref 114, .ref 115, .ref 116, .ref 117, .int a12, .ref 118, .ref 119, .int a15, .int a16, .int a17, .int a18, .int a19, w20, w21] [] (am_SX (am_TL.take 12)) μ (some (.int out.1), (am_SX (am_TL.take 12)), out.2)) : ∀ {a2 : Int32} {a3 : Int32} {a12 : Int32} {a15 : Int32} {a16 : Int32} {a17 : Int32} {a18 : Int32} {s0 : Int32} {w0 w4 w7 w19 w20 w21 : Value} {μ : am_Mu} {out : Int32 × am_Mu}, fL_law_1047 sL sX k694 k987 a2 a3 a12 a15 a16 a17 a18 s0 μ = some out → am_Ex (some (some (sL, sX))) (d + 7) 95 1047 [w0, .ref 0, .int a2, .int a3, w4, .ref 111, .ref 112, w7, .ref 114, .ref 115, .ref 116, .ref 117, .int a12, .ref 118, .ref 119, .int a15, .int a16, .int a17, .int a18, w19, w20, w21] [.int s0] (am_SX (am_TL.take 12)) μ (some (.int out.1), (am_SX (am_TL.take 12)), out.2) := by
  intro a2 a3 a12 a15 a16 a17 a18 s0 w0 w4 w7 w19 w20 w21 μ out h
  unfold fL_law_1047 at h
  refine am_Ex.seg 2 1051 [w0, .ref 0, .int a2, .int a3, w4, .ref 111, .ref 112, w7, .ref 114, .ref 115, .ref 116, .ref 117, .int a12, .ref 118, .ref 119, .int a15, .int a16, .int a17, .int a18, w19, .int s0, w21] [.int s0] μ (fun _ => rfl) ?_
  rcases am_ite h with ⟨q1, h⟩ | ⟨q1, h⟩
  · refine am_Ex.if_ge_t rfl q1 ?_
    refine am_Ex.seg 2 1062 [w0, .ref 0, .int a2, .int a3, w4, .ref 111, .ref 112, w7, .ref 114, .ref 115, .ref 116, .ref 117, .int a12, .ref 118, .ref 119, .int a15, .int a16, .int a17, .int a18, w19, .int s0, w21] [.int s0, .ref 111] μ (fun _ => rfl) ?_
    obtain ⟨q2, h⟩ := am_bif h
    refine am_Ex.iald (v := (μ 111 ((s0).toNatClampNeg))) rfl rfl rfl q2 rfl ?_
    refine am_Ex.seg 1 1065 [w0, .ref 0, .int a2, .int a3, w4, .ref 111, .ref 112, w7, .ref 114, .ref 115, .ref 116, .ref 117, .int a12, .ref 118, .ref 119, .int a15, .int a16, .int a17, .int a18, w19, .int s0, w21] [.int a16, .int (μ 111 ((s0).toNatClampNeg))] μ (fun _ => rfl) ?_
    rcases am_ite h with ⟨q3, h⟩ | ⟨q3, h⟩
    · refine am_Ex.icmp_ne_t rfl q3 ?_
      refine am_Ex.seg 2 1080 [w0, .ref 0, .int a2, .int a3, w4, .ref 111, .ref 112, w7, .ref 114, .ref 115, .ref 116, .ref 117, .int a12, .ref 118, .ref 119, .int a15, .int a16, .int a17, .int a18, w19, .int s0, w21] [.int s0, .ref 111] μ (fun _ => rfl) ?_
      refine am_Ex.iald (v := (μ 111 ((s0).toNatClampNeg))) rfl rfl rfl q2 rfl ?_
      exact e_fL_law_1081 d hk694 hk987 h
    · refine am_Ex.icmp_ne_f rfl (Decidable.not_not.mp q3) ?_
      refine am_Ex.seg 2 1072 [w0, .ref 0, .int a2, .int a3, w4, .ref 111, .ref 112, w7, .ref 114, .ref 115, .ref 116, .ref 117, .int a12, .ref 118, .ref 119, .int a15, .int a16, .int a17, .int a18, w19, .int s0, w21] [.int s0, .ref 112] μ (fun _ => rfl) ?_
      refine am_Ex.iald (v := (μ 112 ((s0).toNatClampNeg))) rfl rfl rfl q2 rfl ?_
      refine am_Ex.goto rfl ?_
      exact e_fL_law_1081 d hk694 hk987 h
  · refine am_Ex.if_ge_f rfl q1 ?_
    refine am_Ex.seg 1 1055 [w0, .ref 0, .int a2, .int a3, w4, .ref 111, .ref 112, w7, .ref 114, .ref 115, .ref 116, .ref 117, .int a12, .ref 118, .ref 119, .int a15, .int a16, .int a17, .int a18, w19, .int s0, w21] [.int (-1)] μ (fun _ => rfl) ?_
    refine am_Ex.goto rfl ?_
    exact e_fL_law_1081 d hk694 hk987 h
set_option maxRecDepth 20000 in
set_option maxHeartbeats 1000000 in
theorem e_fL_law_1016 {sL : Nat} {sX : Nat → Int32} (d : Nat) {k694 : Int32 → Int32 → Int32 → Int32 → am_Mu → Option (Int32 × am_Mu)} {k987 : Int32 → Int32 → Int32 → Int32 → Int32 → Int32 → Int32 → Int32 → am_Mu → Option (Int32 × am_Mu)} (hk694 : ∀ {a2 : Int32} {a3 : Int32} {a12 : Int32} {a15 : Int32} {w0 w4 w7 w16 w17 w18 w19 w20 w21 : Value} {μ : am_Mu} {out : Int32 × am_Mu}, k694 a2 a3 a12 a15 μ = some out → am_Ex (some (some (sL, sX))) (d + 7) 95 694 [w0, .ref 0, .int a2, .int a3, w4, .ref 111, .ref 112, w7, .ref 114, .ref 115, .ref 116, .ref 117, .int a12, .ref 118, .ref 119, .int a15, w16, w17, w18, w19, w20, w21] [] (am_SX (am_TL.take 12)) μ (some (.int out.1), (am_SX (am_TL.take 12)), out.2)) (hk987 : ∀ {a2 : Int32} {a3 : Int32} {a12 : Int32} {a15 : Int32} {a16 : Int32} {a17 : Int32} {a18 : Int32} {a19 : Int32} {w0 w4 w7 w20 w21 : Value} {μ : am_Mu} {out : Int32 × am_Mu}, k987 a2 a3 a12 a15 a16 a17 a18 a19 μ = some out → am_Ex (some (some (sL, sX))) (d + 7) 95 987 [w0, .ref 0, .int a2, .int a3, w4, .ref 111, .ref 112, w7, .ref 114, .ref 115, .ref 116, .ref 117, .int a12, .ref 118, .ref 119, .int a15, .int a16, .int a17, .int a18, .int a19, w20, w21] [] (am_SX (am_TL.take 12)) μ (some (.int out.1), (am_SX (am_TL.take 12)), out.2)) : ∀ {a2 : Int32} {a12 : Int32} {a15 : Int32} {a16 : Int32} {a17 : Int32} {a18 : Int32} {s0 : Int32} {w0 w3 w4 w7 w19 w20 w21 : Value} {μ : am_Mu} {out : Int32 × am_Mu}, fL_law_1016 sL sX k694 k987 a2 a12 a15 a16 a17 a18 s0 μ = some out → am_Ex (some (some (sL, sX))) (d + 7) 95 1016 [w0, .ref 0, .int a2, w3, w4, .ref 111, .ref 112, w7, .ref 114, .ref 115, .ref 116, .ref 117, .int a12, .ref 118, .ref 119, .int a15, .int a16, .int a17, .int a18, w19, w20, w21] [.int s0] (am_SX (am_TL.take 12)) μ (some (.int out.1), (am_SX (am_TL.take 12)), out.2) := by
  intro a2 a12 a15 a16 a17 a18 s0 w0 w3 w4 w7 w19 w20 w21 μ out h
  unfold fL_law_1016 at h
  refine am_Ex.seg 11 1034 [w0, .ref 0, .int a2, .int s0, w4, .ref 111, .ref 112, w7, .ref 114, .ref 115, .ref 116, .ref 117, .int a12, .ref 118, .ref 119, .int a15, .int a16, .int (a17 ||| ((1 : Int32) <<< (a16 &&& 31))), .int (a18 + 1), w19, w20, w21] [.int 0, .ref 114, .int a16] μ (fun _ => rfl) ?_
  refine am_Ex.iald (v := (μ 114 0)) rfl rfl rfl rfl rfl ?_
  rcases am_ite h with ⟨q1, h⟩ | ⟨q1, h⟩
  · refine am_Ex.icmp_ne_t rfl q1 ?_
    refine am_Ex.seg 2 1046 [w0, .ref 0, .int a2, .int s0, w4, .ref 111, .ref 112, w7, .ref 114, .ref 115, .ref 116, .ref 117, .int a12, .ref 118, .ref 119, .int a15, .int a16, .int (a17 ||| ((1 : Int32) <<< (a16 &&& 31))), .int (a18 + 1), w19, w20, w21] [.int a16, .ref 117] μ (fun _ => rfl) ?_
    obtain ⟨q2, h⟩ := am_bif h
    refine am_Ex.iald (v := (μ 117 ((a16).toNatClampNeg))) rfl rfl rfl q2 rfl ?_
    exact e_fL_law_1047 d hk694 hk987 h
  · refine am_Ex.icmp_ne_f rfl (Decidable.not_not.mp q1) ?_
    refine am_Ex.seg 1 1039 [w0, .ref 0, .int a2, .int s0, w4, .ref 111, .ref 112, w7, .ref 114, .ref 115, .ref 116, .ref 117, .int a12, .ref 118, .ref 119, .int a15, .int a16, .int (a17 ||| ((1 : Int32) <<< (a16 &&& 31))), .int (a18 + 1), w19, w20, w21] [.int (-1)] μ (fun _ => rfl) ?_
    refine am_Ex.goto rfl ?_
    exact e_fL_law_1047 d hk694 hk987 h
set_option maxRecDepth 20000 in
set_option maxHeartbeats 1000000 in
theorem e_fL_law_1015 {sL : Nat} {sX : Nat → Int32} (d : Nat) {k694 : Int32 → Int32 → Int32 → Int32 → am_Mu → Option (Int32 × am_Mu)} {k987 : Int32 → Int32 → Int32 → Int32 → Int32 → Int32 → Int32 → Int32 → am_Mu → Option (Int32 × am_Mu)} (hk694 : ∀ {a2 : Int32} {a3 : Int32} {a12 : Int32} {a15 : Int32} {w0 w4 w7 w16 w17 w18 w19 w20 w21 : Value} {μ : am_Mu} {out : Int32 × am_Mu}, k694 a2 a3 a12 a15 μ = some out → am_Ex (some (some (sL, sX))) (d + 7) 95 694 [w0, .ref 0, .int a2, .int a3, w4, .ref 111, .ref 112, w7, .ref 114, .ref 115, .ref 116, .ref 117, .int a12, .ref 118, .ref 119, .int a15, w16, w17, w18, w19, w20, w21] [] (am_SX (am_TL.take 12)) μ (some (.int out.1), (am_SX (am_TL.take 12)), out.2)) (hk987 : ∀ {a2 : Int32} {a3 : Int32} {a12 : Int32} {a15 : Int32} {a16 : Int32} {a17 : Int32} {a18 : Int32} {a19 : Int32} {w0 w4 w7 w20 w21 : Value} {μ : am_Mu} {out : Int32 × am_Mu}, k987 a2 a3 a12 a15 a16 a17 a18 a19 μ = some out → am_Ex (some (some (sL, sX))) (d + 7) 95 987 [w0, .ref 0, .int a2, .int a3, w4, .ref 111, .ref 112, w7, .ref 114, .ref 115, .ref 116, .ref 117, .int a12, .ref 118, .ref 119, .int a15, .int a16, .int a17, .int a18, .int a19, w20, w21] [] (am_SX (am_TL.take 12)) μ (some (.int out.1), (am_SX (am_TL.take 12)), out.2)) : ∀ {a2 : Int32} {a12 : Int32} {a15 : Int32} {a16 : Int32} {a17 : Int32} {a18 : Int32} {w0 w3 w4 w7 w19 w20 w21 : Value} {μ : am_Mu} {out : Int32 × am_Mu}, fL_law_1015 sL sX k694 k987 a2 a12 a15 a16 a17 a18 μ = some out → am_Ex (some (some (sL, sX))) (d + 7) 95 1015 [w0, .ref 0, .int a2, w3, w4, .ref 111, .ref 112, w7, .ref 114, .ref 115, .ref 116, .ref 117, .int a12, .ref 118, .ref 119, .int a15, .int a16, .int a17, .int a18, w19, w20, w21] [] (am_SX (am_TL.take 12)) μ (some (.int out.1), (am_SX (am_TL.take 12)), out.2) := by
  intro a2 a12 a15 a16 a17 a18 w0 w3 w4 w7 w19 w20 w21 μ out h
  unfold fL_law_1015 at h
  refine am_Ex.seg 1 1016 [w0, .ref 0, .int a2, w3, w4, .ref 111, .ref 112, w7, .ref 114, .ref 115, .ref 116, .ref 117, .int a12, .ref 118, .ref 119, .int a15, .int a16, .int a17, .int a18, w19, w20, w21] [.int 0] μ (fun _ => rfl) ?_
  exact e_fL_law_1016 d hk694 hk987 h
set_option maxRecDepth 20000 in
set_option maxHeartbeats 1000000 in
theorem e_fL_law_987 {sL : Nat} {sX : Nat → Int32} (d : Nat) {k694 : Int32 → Int32 → Int32 → Int32 → am_Mu → Option (Int32 × am_Mu)} (hk694 : ∀ {a2 : Int32} {a3 : Int32} {a12 : Int32} {a15 : Int32} {w0 w4 w7 w16 w17 w18 w19 w20 w21 : Value} {μ : am_Mu} {out : Int32 × am_Mu}, k694 a2 a3 a12 a15 μ = some out → am_Ex (some (some (sL, sX))) (d + 7) 95 694 [w0, .ref 0, .int a2, .int a3, w4, .ref 111, .ref 112, w7, .ref 114, .ref 115, .ref 116, .ref 117, .int a12, .ref 118, .ref 119, .int a15, w16, w17, w18, w19, w20, w21] [] (am_SX (am_TL.take 12)) μ (some (.int out.1), (am_SX (am_TL.take 12)), out.2)) : ∀ n : Nat, ∀ {a2 : Int32} {a3 : Int32} {a12 : Int32} {a15 : Int32} {a16 : Int32} {a17 : Int32} {a18 : Int32} {a19 : Int32} {w0 w4 w7 w20 w21 : Value} {μ : am_Mu} {out : Int32 × am_Mu}, fL_law_987 sL sX n k694 a2 a3 a12 a15 a16 a17 a18 a19 μ = some out → am_Ex (some (some (sL, sX))) (d + 7) 95 987 [w0, .ref 0, .int a2, .int a3, w4, .ref 111, .ref 112, w7, .ref 114, .ref 115, .ref 116, .ref 117, .int a12, .ref 118, .ref 119, .int a15, .int a16, .int a17, .int a18, .int a19, w20, w21] [] (am_SX (am_TL.take 12)) μ (some (.int out.1), (am_SX (am_TL.take 12)), out.2) := by
  intro n
  induction n with
  | zero => intros; contradiction
  | succ n ih =>
    have hk987 : ∀ {a2 : Int32} {a3 : Int32} {a12 : Int32} {a15 : Int32} {a16 : Int32} {a17 : Int32} {a18 : Int32} {a19 : Int32} {w0 w4 w7 w20 w21 : Value} {μ : am_Mu} {out : Int32 × am_Mu}, (fL_law_987 sL sX n k694) a2 a3 a12 a15 a16 a17 a18 a19 μ = some out → am_Ex (some (some (sL, sX))) (d + 7) 95 987 [w0, .ref 0, .int a2, .int a3, w4, .ref 111, .ref 112, w7, .ref 114, .ref 115, .ref 116, .ref 117, .int a12, .ref 118, .ref 119, .int a15, .int a16, .int a17, .int a18, .int a19, w20, w21] [] (am_SX (am_TL.take 12)) μ (some (.int out.1), (am_SX (am_TL.take 12)), out.2) := ih
    intro a2 a3 a12 a15 a16 a17 a18 a19 w0 w4 w7 w20 w21 μ out h
    unfold fL_law_987 at h
    refine am_Ex.seg 1 989 [w0, .ref 0, .int a2, .int a3, w4, .ref 111, .ref 112, w7, .ref 114, .ref 115, .ref 116, .ref 117, .int a12, .ref 118, .ref 119, .int a15, .int a16, .int a17, .int a18, .int a19, w20, w21] [.int a19] μ (fun _ => rfl) ?_
    rcases am_ite h with ⟨q1, h⟩ | ⟨q1, h⟩
    · refine am_Ex.if_eq_t rfl q1 ?_
      exact e_fL_law_1112 d hk694 h
    · refine am_Ex.if_eq_f rfl q1 ?_
      refine am_Ex.seg 1 993 [w0, .ref 0, .int a2, .int a3, w4, .ref 111, .ref 112, w7, .ref 114, .ref 115, .ref 116, .ref 117, .int a12, .ref 118, .ref 119, .int a15, .int a16, .int a17, .int a18, .int a19, w20, w21] [.int a3] μ (fun _ => rfl) ?_
      rcases am_ite h with ⟨q2, h⟩ | ⟨q2, h⟩
      · refine am_Ex.if_eq_t rfl q2 ?_
        exact e_fL_law_1015 d hk694 hk987 h
      · refine am_Ex.if_eq_f rfl q2 ?_
        refine am_Ex.seg 5 1003 [w0, .ref 0, .int a2, .int a3, w4, .ref 111, .ref 112, w7, .ref 114, .ref 115, .ref 116, .ref 117, .int a12, .ref 118, .ref 119, .int a15, .int a16, .int a17, .int a18, .int a19, w20, w21] [.int a18, .int a15, .int 0, .int 0, .ref 0] μ (fun _ => rfl) ?_
        obtain ⟨q3, h_q3, h⟩ := am_bind h
        refine am_Ex.ivk (na := 5) (b := 0) (As' := [.int 0, .int 0, .int a15, .int a18]) rfl rfl rfl rfl rfl rfl rfl rfl rfl (e_fB_way (d + 0) h_q3) ?_
        refine am_Ex.same 1006 [w0, .ref 0, .int a2, .int a3, w4, .ref 111, .ref 112, w7, .ref 114, .ref 115, .ref 116, .ref 117, .int a12, .ref 118, .ref 119, .int a15, .int a16, .int a17, .int a18, .int a19, w20, w21] [.int q3.1] q3.2 rfl ?_
        refine am_Ex.seg 1 1008 [w0, .ref 0, .int a2, .int a3, w4, .ref 111, .ref 112, w7, .ref 114, .ref 115, .ref 116, .ref 117, .int a12, .ref 118, .ref 119, .int a15, .int a16, .int a17, .int a18, .int a19, w20, w21] [.int a16, .int q3.1] q3.2 (fun _ => rfl) ?_
        rcases am_ite h with ⟨q4, h⟩ | ⟨q4, h⟩
        · refine am_Ex.icmp_ne_t rfl q4 ?_
          exact e_fL_law_1015 d hk694 hk987 h
        · refine am_Ex.icmp_ne_f rfl (Decidable.not_not.mp q4) ?_
          refine am_Ex.seg 1 1012 [w0, .ref 0, .int a2, .int a3, w4, .ref 111, .ref 112, w7, .ref 114, .ref 115, .ref 116, .ref 117, .int a12, .ref 118, .ref 119, .int a15, .int a16, .int a17, .int a18, .int a19, w20, w21] [.int 1] q3.2 (fun _ => rfl) ?_
          refine am_Ex.goto rfl ?_
          exact e_fL_law_1016 d hk694 hk987 h
set_option maxRecDepth 20000 in
set_option maxHeartbeats 1000000 in
theorem e_fL_law_985 {sL : Nat} {sX : Nat → Int32} (d : Nat) {k694 : Int32 → Int32 → Int32 → Int32 → am_Mu → Option (Int32 × am_Mu)} (hk694 : ∀ {a2 : Int32} {a3 : Int32} {a12 : Int32} {a15 : Int32} {w0 w4 w7 w16 w17 w18 w19 w20 w21 : Value} {μ : am_Mu} {out : Int32 × am_Mu}, k694 a2 a3 a12 a15 μ = some out → am_Ex (some (some (sL, sX))) (d + 7) 95 694 [w0, .ref 0, .int a2, .int a3, w4, .ref 111, .ref 112, w7, .ref 114, .ref 115, .ref 116, .ref 117, .int a12, .ref 118, .ref 119, .int a15, w16, w17, w18, w19, w20, w21] [] (am_SX (am_TL.take 12)) μ (some (.int out.1), (am_SX (am_TL.take 12)), out.2)) : ∀ {a2 : Int32} {a3 : Int32} {a12 : Int32} {a15 : Int32} {a16 : Int32} {a17 : Int32} {a18 : Int32} {s0 : Int32} {w0 w4 w7 w19 w20 w21 : Value} {μ : am_Mu} {out : Int32 × am_Mu}, fL_law_985 sL sX k694 a2 a3 a12 a15 a16 a17 a18 s0 μ = some out → am_Ex (some (some (sL, sX))) (d + 7) 95 985 [w0, .ref 0, .int a2, .int a3, w4, .ref 111, .ref 112, w7, .ref 114, .ref 115, .ref 116, .ref 117, .int a12, .ref 118, .ref 119, .int a15, .int a16, .int a17, .int a18, w19, w20, w21] [.int s0] (am_SX (am_TL.take 12)) μ (some (.int out.1), (am_SX (am_TL.take 12)), out.2) := by
  intro a2 a3 a12 a15 a16 a17 a18 s0 w0 w4 w7 w19 w20 w21 μ out h
  unfold fL_law_985 at h
  refine am_Ex.seg 1 987 [w0, .ref 0, .int a2, .int a3, w4, .ref 111, .ref 112, w7, .ref 114, .ref 115, .ref 116, .ref 117, .int a12, .ref 118, .ref 119, .int a15, .int a16, .int a17, .int a18, .int s0, w20, w21] [] μ (fun _ => rfl) ?_
  exact e_fL_law_987 d hk694 am_F h
set_option maxRecDepth 20000 in
set_option maxHeartbeats 1000000 in
theorem e_fL_law_980 {sL : Nat} {sX : Nat → Int32} (d : Nat) {k694 : Int32 → Int32 → Int32 → Int32 → am_Mu → Option (Int32 × am_Mu)} (hk694 : ∀ {a2 : Int32} {a3 : Int32} {a12 : Int32} {a15 : Int32} {w0 w4 w7 w16 w17 w18 w19 w20 w21 : Value} {μ : am_Mu} {out : Int32 × am_Mu}, k694 a2 a3 a12 a15 μ = some out → am_Ex (some (some (sL, sX))) (d + 7) 95 694 [w0, .ref 0, .int a2, .int a3, w4, .ref 111, .ref 112, w7, .ref 114, .ref 115, .ref 116, .ref 117, .int a12, .ref 118, .ref 119, .int a15, w16, w17, w18, w19, w20, w21] [] (am_SX (am_TL.take 12)) μ (some (.int out.1), (am_SX (am_TL.take 12)), out.2)) : ∀ {a2 : Int32} {a3 : Int32} {a12 : Int32} {a15 : Int32} {a16 : Int32} {a17 : Int32} {a18 : Int32} {w0 w4 w7 w19 w20 w21 : Value} {μ : am_Mu} {out : Int32 × am_Mu}, fL_law_980 sL sX k694 a2 a3 a12 a15 a16 a17 a18 μ = some out → am_Ex (some (some (sL, sX))) (d + 7) 95 980 [w0, .ref 0, .int a2, .int a3, w4, .ref 111, .ref 112, w7, .ref 114, .ref 115, .ref 116, .ref 117, .int a12, .ref 118, .ref 119, .int a15, .int a16, .int a17, .int a18, w19, w20, w21] [] (am_SX (am_TL.take 12)) μ (some (.int out.1), (am_SX (am_TL.take 12)), out.2) := by
  intro a2 a3 a12 a15 a16 a17 a18 w0 w4 w7 w19 w20 w21 μ out h
  unfold fL_law_980 at h
  refine am_Ex.seg 1 981 [w0, .ref 0, .int a2, .int a3, w4, .ref 111, .ref 112, w7, .ref 114, .ref 115, .ref 116, .ref 117, .int a12, .ref 118, .ref 119, .int a15, .int a16, .int a17, .int a18, w19, w20, w21] [.int 1] μ (fun _ => rfl) ?_
  refine am_Ex.goto rfl ?_
  exact e_fL_law_985 d hk694 h
set_option maxRecDepth 20000 in
set_option maxHeartbeats 1000000 in
theorem e_fL_law_953 {sL : Nat} {sX : Nat → Int32} (d : Nat) {k694 : Int32 → Int32 → Int32 → Int32 → am_Mu → Option (Int32 × am_Mu)} (hk694 : ∀ {a2 : Int32} {a3 : Int32} {a12 : Int32} {a15 : Int32} {w0 w4 w7 w16 w17 w18 w19 w20 w21 : Value} {μ : am_Mu} {out : Int32 × am_Mu}, k694 a2 a3 a12 a15 μ = some out → am_Ex (some (some (sL, sX))) (d + 7) 95 694 [w0, .ref 0, .int a2, .int a3, w4, .ref 111, .ref 112, w7, .ref 114, .ref 115, .ref 116, .ref 117, .int a12, .ref 118, .ref 119, .int a15, w16, w17, w18, w19, w20, w21] [] (am_SX (am_TL.take 12)) μ (some (.int out.1), (am_SX (am_TL.take 12)), out.2)) : ∀ {a2 : Int32} {a3 : Int32} {a12 : Int32} {a15 : Int32} {w0 w4 w7 w16 w17 w18 w19 w20 w21 : Value} {μ : am_Mu} {out : Int32 × am_Mu}, fL_law_953 sL sX k694 a2 a3 a12 a15 μ = some out → am_Ex (some (some (sL, sX))) (d + 7) 95 953 [w0, .ref 0, .int a2, .int a3, w4, .ref 111, .ref 112, w7, .ref 114, .ref 115, .ref 116, .ref 117, .int a12, .ref 118, .ref 119, .int a15, w16, w17, w18, w19, w20, w21] [] (am_SX (am_TL.take 12)) μ (some (.int out.1), (am_SX (am_TL.take 12)), out.2) := by
  intro a2 a3 a12 a15 w0 w4 w7 w16 w17 w18 w19 w20 w21 μ out h
  unfold fL_law_953 at h
  refine am_Ex.seg 9 968 [w0, .ref 0, .int a2, .int a3, w4, .ref 111, .ref 112, w7, .ref 114, .ref 115, .ref 116, .ref 117, .int a12, .ref 118, .ref 119, .int a15, .int a15, .int 0, .int 0, w19, w20, w21] [.int 0, .ref 114, .int a15] μ (fun _ => rfl) ?_
  refine am_Ex.iald (v := (μ 114 0)) rfl rfl rfl rfl rfl ?_
  rcases am_ite h with ⟨q1, h⟩ | ⟨q1, h⟩
  · refine am_Ex.icmp_eq_t rfl q1 ?_
    exact e_fL_law_980 d hk694 h
  · refine am_Ex.icmp_eq_f rfl q1 ?_
    refine am_Ex.seg 2 976 [w0, .ref 0, .int a2, .int a3, w4, .ref 111, .ref 112, w7, .ref 114, .ref 115, .ref 116, .ref 117, .int a12, .ref 118, .ref 119, .int a15, .int a15, .int 0, .int 0, w19, w20, w21] [.int a15, .ref 117] μ (fun _ => rfl) ?_
    obtain ⟨q2, h⟩ := am_bif h
    refine am_Ex.iald (v := (μ 117 ((a15).toNatClampNeg))) rfl rfl rfl q2 rfl ?_
    rcases am_ite h with ⟨q3, h⟩ | ⟨q3, h⟩
    · refine am_Ex.if_lt_t rfl q3 ?_
      refine am_Ex.seg 1 985 [w0, .ref 0, .int a2, .int a3, w4, .ref 111, .ref 112, w7, .ref 114, .ref 115, .ref 116, .ref 117, .int a12, .ref 118, .ref 119, .int a15, .int a15, .int 0, .int 0, w19, w20, w21] [.int 0] μ (fun _ => rfl) ?_
      exact e_fL_law_985 d hk694 h
    · refine am_Ex.if_lt_f rfl q3 ?_
      exact e_fL_law_980 d hk694 h
set_option maxRecDepth 20000 in
set_option maxHeartbeats 1000000 in
theorem e_fL_law_946 {sL : Nat} {sX : Nat → Int32} (d : Nat) {k694 : Int32 → Int32 → Int32 → Int32 → am_Mu → Option (Int32 × am_Mu)} {k829 : Int32 → Int32 → Int32 → Int32 → Int32 → am_Mu → Option (Int32 × am_Mu)} (hk694 : ∀ {a2 : Int32} {a3 : Int32} {a12 : Int32} {a15 : Int32} {w0 w4 w7 w16 w17 w18 w19 w20 w21 : Value} {μ : am_Mu} {out : Int32 × am_Mu}, k694 a2 a3 a12 a15 μ = some out → am_Ex (some (some (sL, sX))) (d + 7) 95 694 [w0, .ref 0, .int a2, .int a3, w4, .ref 111, .ref 112, w7, .ref 114, .ref 115, .ref 116, .ref 117, .int a12, .ref 118, .ref 119, .int a15, w16, w17, w18, w19, w20, w21] [] (am_SX (am_TL.take 12)) μ (some (.int out.1), (am_SX (am_TL.take 12)), out.2)) (hk829 : ∀ {a2 : Int32} {a3 : Int32} {a12 : Int32} {a15 : Int32} {a16 : Int32} {w0 w4 w7 w17 w18 w19 w20 w21 : Value} {μ : am_Mu} {out : Int32 × am_Mu}, k829 a2 a3 a12 a15 a16 μ = some out → am_Ex (some (some (sL, sX))) (d + 7) 95 829 [w0, .ref 0, .int a2, .int a3, w4, .ref 111, .ref 112, w7, .ref 114, .ref 115, .ref 116, .ref 117, .int a12, .ref 118, .ref 119, .int a15, .int a16, w17, w18, w19, w20, w21] [] (am_SX (am_TL.take 12)) μ (some (.int out.1), (am_SX (am_TL.take 12)), out.2)) : ∀ {a2 : Int32} {a12 : Int32} {a15 : Int32} {a16 : Int32} {s0 : Int32} {w0 w3 w4 w7 w17 w18 w19 w20 w21 : Value} {μ : am_Mu} {out : Int32 × am_Mu}, fL_law_946 sL sX k694 k829 a2 a12 a15 a16 s0 μ = some out → am_Ex (some (some (sL, sX))) (d + 7) 95 946 [w0, .ref 0, .int a2, w3, w4, .ref 111, .ref 112, w7, .ref 114, .ref 115, .ref 116, .ref 117, .int a12, .ref 118, .ref 119, .int a15, .int a16, w17, w18, w19, w20, w21] [.int s0] (am_SX (am_TL.take 12)) μ (some (.int out.1), (am_SX (am_TL.take 12)), out.2) := by
  intro a2 a12 a15 a16 s0 w0 w3 w4 w7 w17 w18 w19 w20 w21 μ out h
  unfold fL_law_946 at h
  refine am_Ex.seg 2 950 [w0, .ref 0, .int a2, .int s0, w4, .ref 111, .ref 112, w7, .ref 114, .ref 115, .ref 116, .ref 117, .int a12, .ref 118, .ref 119, .int a15, .int (a16 + 1), w17, w18, w19, w20, w21] [] μ (fun _ => rfl) ?_
  refine am_Ex.goto rfl ?_
  exact hk829 h
set_option maxRecDepth 20000 in
set_option maxHeartbeats 1000000 in
theorem e_fL_law_945 {sL : Nat} {sX : Nat → Int32} (d : Nat) {k694 : Int32 → Int32 → Int32 → Int32 → am_Mu → Option (Int32 × am_Mu)} {k829 : Int32 → Int32 → Int32 → Int32 → Int32 → am_Mu → Option (Int32 × am_Mu)} (hk694 : ∀ {a2 : Int32} {a3 : Int32} {a12 : Int32} {a15 : Int32} {w0 w4 w7 w16 w17 w18 w19 w20 w21 : Value} {μ : am_Mu} {out : Int32 × am_Mu}, k694 a2 a3 a12 a15 μ = some out → am_Ex (some (some (sL, sX))) (d + 7) 95 694 [w0, .ref 0, .int a2, .int a3, w4, .ref 111, .ref 112, w7, .ref 114, .ref 115, .ref 116, .ref 117, .int a12, .ref 118, .ref 119, .int a15, w16, w17, w18, w19, w20, w21] [] (am_SX (am_TL.take 12)) μ (some (.int out.1), (am_SX (am_TL.take 12)), out.2)) (hk829 : ∀ {a2 : Int32} {a3 : Int32} {a12 : Int32} {a15 : Int32} {a16 : Int32} {w0 w4 w7 w17 w18 w19 w20 w21 : Value} {μ : am_Mu} {out : Int32 × am_Mu}, k829 a2 a3 a12 a15 a16 μ = some out → am_Ex (some (some (sL, sX))) (d + 7) 95 829 [w0, .ref 0, .int a2, .int a3, w4, .ref 111, .ref 112, w7, .ref 114, .ref 115, .ref 116, .ref 117, .int a12, .ref 118, .ref 119, .int a15, .int a16, w17, w18, w19, w20, w21] [] (am_SX (am_TL.take 12)) μ (some (.int out.1), (am_SX (am_TL.take 12)), out.2)) : ∀ {a2 : Int32} {a12 : Int32} {a15 : Int32} {a16 : Int32} {w0 w3 w4 w7 w17 w18 w19 w20 w21 : Value} {μ : am_Mu} {out : Int32 × am_Mu}, fL_law_945 sL sX k694 k829 a2 a12 a15 a16 μ = some out → am_Ex (some (some (sL, sX))) (d + 7) 95 945 [w0, .ref 0, .int a2, w3, w4, .ref 111, .ref 112, w7, .ref 114, .ref 115, .ref 116, .ref 117, .int a12, .ref 118, .ref 119, .int a15, .int a16, w17, w18, w19, w20, w21] [] (am_SX (am_TL.take 12)) μ (some (.int out.1), (am_SX (am_TL.take 12)), out.2) := by
  intro a2 a12 a15 a16 w0 w3 w4 w7 w17 w18 w19 w20 w21 μ out h
  unfold fL_law_945 at h
  refine am_Ex.seg 1 946 [w0, .ref 0, .int a2, w3, w4, .ref 111, .ref 112, w7, .ref 114, .ref 115, .ref 116, .ref 117, .int a12, .ref 118, .ref 119, .int a15, .int a16, w17, w18, w19, w20, w21] [.int 0] μ (fun _ => rfl) ?_
  exact e_fL_law_946 d hk694 hk829 h
set_option maxRecDepth 20000 in
set_option maxHeartbeats 1000000 in
theorem e_fL_law_921 {sL : Nat} {sX : Nat → Int32} (d : Nat) {k694 : Int32 → Int32 → Int32 → Int32 → am_Mu → Option (Int32 × am_Mu)} {k829 : Int32 → Int32 → Int32 → Int32 → Int32 → am_Mu → Option (Int32 × am_Mu)} (hk694 : ∀ {a2 : Int32} {a3 : Int32} {a12 : Int32} {a15 : Int32} {w0 w4 w7 w16 w17 w18 w19 w20 w21 : Value} {μ : am_Mu} {out : Int32 × am_Mu}, k694 a2 a3 a12 a15 μ = some out → am_Ex (some (some (sL, sX))) (d + 7) 95 694 [w0, .ref 0, .int a2, .int a3, w4, .ref 111, .ref 112, w7, .ref 114, .ref 115, .ref 116, .ref 117, .int a12, .ref 118, .ref 119, .int a15, w16, w17, w18, w19, w20, w21] [] (am_SX (am_TL.take 12)) μ (some (.int out.1), (am_SX (am_TL.take 12)), out.2)) (hk829 : ∀ {a2 : Int32} {a3 : Int32} {a12 : Int32} {a15 : Int32} {a16 : Int32} {w0 w4 w7 w17 w18 w19 w20 w21 : Value} {μ : am_Mu} {out : Int32 × am_Mu}, k829 a2 a3 a12 a15 a16 μ = some out → am_Ex (some (some (sL, sX))) (d + 7) 95 829 [w0, .ref 0, .int a2, .int a3, w4, .ref 111, .ref 112, w7, .ref 114, .ref 115, .ref 116, .ref 117, .int a12, .ref 118, .ref 119, .int a15, .int a16, w17, w18, w19, w20, w21] [] (am_SX (am_TL.take 12)) μ (some (.int out.1), (am_SX (am_TL.take 12)), out.2)) : ∀ {a2 : Int32} {a12 : Int32} {a15 : Int32} {a16 : Int32} {s0 : Int32} {s1 : Int32} {w0 w3 w4 w7 w17 w18 w19 w20 w21 : Value} {μ : am_Mu} {out : Int32 × am_Mu}, fL_law_921 sL sX k694 k829 a2 a12 a15 a16 s0 s1 μ = some out → am_Ex (some (some (sL, sX))) (d + 7) 95 921 [w0, .ref 0, .int a2, w3, w4, .ref 111, .ref 112, w7, .ref 114, .ref 115, .ref 116, .ref 117, .int a12, .ref 118, .ref 119, .int a15, .int a16, w17, w18, w19, w20, w21] [.int s1, .int s0] (am_SX (am_TL.take 12)) μ (some (.int out.1), (am_SX (am_TL.take 12)), out.2) := by
  intro a2 a12 a15 a16 s0 s1 w0 w3 w4 w7 w17 w18 w19 w20 w21 μ out h
  unfold fL_law_921 at h
  rcases am_ite h with ⟨q1, h⟩ | ⟨q1, h⟩
  · refine am_Ex.icmp_ne_t rfl q1 ?_
    exact e_fL_law_945 d hk694 hk829 h
  · refine am_Ex.icmp_ne_f rfl (Decidable.not_not.mp q1) ?_
    refine am_Ex.seg 6 935 [w0, .ref 0, .int a2, w3, w4, .ref 111, .ref 112, w7, .ref 114, .ref 115, .ref 116, .ref 117, .int a12, .ref 118, .ref 119, .int a15, .int a16, w17, w18, w19, w20, w21] [.int 8999, .int a12, .int a16, .int a15, .int 0, .ref 0] μ (fun _ => rfl) ?_
    obtain ⟨q2, h_q2, h⟩ := am_bind h
    refine am_Ex.ivk (na := 6) (b := 0) (As' := [.int 0, .int a15, .int a16, .int a12, .int 8999]) rfl rfl rfl rfl rfl rfl rfl rfl rfl (e_fB_mark (d + 0) h_q2) ?_
    refine am_Ex.same 938 [w0, .ref 0, .int a2, w3, w4, .ref 111, .ref 112, w7, .ref 114, .ref 115, .ref 116, .ref 117, .int a12, .ref 118, .ref 119, .int a15, .int a16, w17, w18, w19, w20, w21] [.int q2.1] q2.2 rfl ?_
    rcases am_ite h with ⟨q3, h⟩ | ⟨q3, h⟩
    · refine am_Ex.if_ne_t rfl q3 ?_
      exact e_fL_law_945 d hk694 hk829 h
    · refine am_Ex.if_ne_f rfl (Decidable.not_not.mp q3) ?_
      refine am_Ex.seg 1 942 [w0, .ref 0, .int a2, w3, w4, .ref 111, .ref 112, w7, .ref 114, .ref 115, .ref 116, .ref 117, .int a12, .ref 118, .ref 119, .int a15, .int a16, w17, w18, w19, w20, w21] [.int 1] q2.2 (fun _ => rfl) ?_
      refine am_Ex.goto rfl ?_
      exact e_fL_law_946 d hk694 hk829 h
set_option maxRecDepth 20000 in
set_option maxHeartbeats 1000000 in
theorem e_fL_law_920 {sL : Nat} {sX : Nat → Int32} (d : Nat) {k694 : Int32 → Int32 → Int32 → Int32 → am_Mu → Option (Int32 × am_Mu)} {k829 : Int32 → Int32 → Int32 → Int32 → Int32 → am_Mu → Option (Int32 × am_Mu)} (hk694 : ∀ {a2 : Int32} {a3 : Int32} {a12 : Int32} {a15 : Int32} {w0 w4 w7 w16 w17 w18 w19 w20 w21 : Value} {μ : am_Mu} {out : Int32 × am_Mu}, k694 a2 a3 a12 a15 μ = some out → am_Ex (some (some (sL, sX))) (d + 7) 95 694 [w0, .ref 0, .int a2, .int a3, w4, .ref 111, .ref 112, w7, .ref 114, .ref 115, .ref 116, .ref 117, .int a12, .ref 118, .ref 119, .int a15, w16, w17, w18, w19, w20, w21] [] (am_SX (am_TL.take 12)) μ (some (.int out.1), (am_SX (am_TL.take 12)), out.2)) (hk829 : ∀ {a2 : Int32} {a3 : Int32} {a12 : Int32} {a15 : Int32} {a16 : Int32} {w0 w4 w7 w17 w18 w19 w20 w21 : Value} {μ : am_Mu} {out : Int32 × am_Mu}, k829 a2 a3 a12 a15 a16 μ = some out → am_Ex (some (some (sL, sX))) (d + 7) 95 829 [w0, .ref 0, .int a2, .int a3, w4, .ref 111, .ref 112, w7, .ref 114, .ref 115, .ref 116, .ref 117, .int a12, .ref 118, .ref 119, .int a15, .int a16, w17, w18, w19, w20, w21] [] (am_SX (am_TL.take 12)) μ (some (.int out.1), (am_SX (am_TL.take 12)), out.2)) : ∀ {a2 : Int32} {a12 : Int32} {a15 : Int32} {a16 : Int32} {s0 : Int32} {w0 w3 w4 w7 w17 w18 w19 w20 w21 : Value} {μ : am_Mu} {out : Int32 × am_Mu}, fL_law_920 sL sX k694 k829 a2 a12 a15 a16 s0 μ = some out → am_Ex (some (some (sL, sX))) (d + 7) 95 920 [w0, .ref 0, .int a2, w3, w4, .ref 111, .ref 112, w7, .ref 114, .ref 115, .ref 116, .ref 117, .int a12, .ref 118, .ref 119, .int a15, .int a16, w17, w18, w19, w20, w21] [.int s0] (am_SX (am_TL.take 12)) μ (some (.int out.1), (am_SX (am_TL.take 12)), out.2) := by
  intro a2 a12 a15 a16 s0 w0 w3 w4 w7 w17 w18 w19 w20 w21 μ out h
  unfold fL_law_920 at h
  refine am_Ex.seg 1 921 [w0, .ref 0, .int a2, w3, w4, .ref 111, .ref 112, w7, .ref 114, .ref 115, .ref 116, .ref 117, .int a12, .ref 118, .ref 119, .int a15, .int a16, w17, w18, w19, w20, w21] [.int 0, .int s0] μ (fun _ => rfl) ?_
  exact e_fL_law_921 d hk694 hk829 h
set_option maxRecDepth 20000 in
set_option maxHeartbeats 1000000 in
theorem e_fL_law_878 {sL : Nat} {sX : Nat → Int32} (d : Nat) {k694 : Int32 → Int32 → Int32 → Int32 → am_Mu → Option (Int32 × am_Mu)} {k829 : Int32 → Int32 → Int32 → Int32 → Int32 → am_Mu → Option (Int32 × am_Mu)} (hk694 : ∀ {a2 : Int32} {a3 : Int32} {a12 : Int32} {a15 : Int32} {w0 w4 w7 w16 w17 w18 w19 w20 w21 : Value} {μ : am_Mu} {out : Int32 × am_Mu}, k694 a2 a3 a12 a15 μ = some out → am_Ex (some (some (sL, sX))) (d + 7) 95 694 [w0, .ref 0, .int a2, .int a3, w4, .ref 111, .ref 112, w7, .ref 114, .ref 115, .ref 116, .ref 117, .int a12, .ref 118, .ref 119, .int a15, w16, w17, w18, w19, w20, w21] [] (am_SX (am_TL.take 12)) μ (some (.int out.1), (am_SX (am_TL.take 12)), out.2)) (hk829 : ∀ {a2 : Int32} {a3 : Int32} {a12 : Int32} {a15 : Int32} {a16 : Int32} {w0 w4 w7 w17 w18 w19 w20 w21 : Value} {μ : am_Mu} {out : Int32 × am_Mu}, k829 a2 a3 a12 a15 a16 μ = some out → am_Ex (some (some (sL, sX))) (d + 7) 95 829 [w0, .ref 0, .int a2, .int a3, w4, .ref 111, .ref 112, w7, .ref 114, .ref 115, .ref 116, .ref 117, .int a12, .ref 118, .ref 119, .int a15, .int a16, w17, w18, w19, w20, w21] [] (am_SX (am_TL.take 12)) μ (some (.int out.1), (am_SX (am_TL.take 12)), out.2)) : ∀ {a2 : Int32} {a12 : Int32} {a15 : Int32} {a16 : Int32} {s0 : Int32} {s1 : Int32} {w0 w3 w4 w7 w17 w18 w19 w20 w21 : Value} {μ : am_Mu} {out : Int32 × am_Mu}, fL_law_878 sL sX k694 k829 a2 a12 a15 a16 s0 s1 μ = some out → am_Ex (some (some (sL, sX))) (d + 7) 95 878 [w0, .ref 0, .int a2, w3, w4, .ref 111, .ref 112, w7, .ref 114, .ref 115, .ref 116, .ref 117, .int a12, .ref 118, .ref 119, .int a15, .int a16, w17, w18, w19, w20, w21] [.int s1, .int s0] (am_SX (am_TL.take 12)) μ (some (.int out.1), (am_SX (am_TL.take 12)), out.2) := by
  intro a2 a12 a15 a16 s0 s1 w0 w3 w4 w7 w17 w18 w19 w20 w21 μ out h
  unfold fL_law_878 at h
  rcases am_ite h with ⟨q1, h⟩ | ⟨q1, h⟩
  · refine am_Ex.icmp_ne_t rfl q1 ?_
    exact e_fL_law_945 d hk694 hk829 h
  · refine am_Ex.icmp_ne_f rfl (Decidable.not_not.mp q1) ?_
    refine am_Ex.seg 6 893 [w0, .ref 0, .int a2, w3, w4, .ref 111, .ref 112, w7, .ref 114, .ref 115, .ref 116, .ref 117, .int a12, .ref 118, .ref 119, .int a15, .int a16, w17, w18, w19, w20, w21] [.int 9000, .int 9000, .int a16, .int a15, .int 0, .ref 0] μ (fun _ => rfl) ?_
    obtain ⟨q2, h_q2, h⟩ := am_bind h
    refine am_Ex.ivk (na := 6) (b := 0) (As' := [.int 0, .int a15, .int a16, .int 9000, .int 9000]) rfl rfl rfl rfl rfl rfl rfl rfl rfl (e_fB_mark (d + 0) h_q2) ?_
    refine am_Ex.same 896 [w0, .ref 0, .int a2, w3, w4, .ref 111, .ref 112, w7, .ref 114, .ref 115, .ref 116, .ref 117, .int a12, .ref 118, .ref 119, .int a15, .int a16, w17, w18, w19, w20, w21] [.int q2.1] q2.2 rfl ?_
    refine am_Ex.seg 2 899 [w0, .ref 0, .int a2, w3, w4, .ref 111, .ref 112, w7, .ref 114, .ref 115, .ref 116, .ref 117, .int a12, .ref 118, .ref 119, .int a15, .int a16, w17, w18, w19, w20, w21] [.int 2, .int a16, .int q2.1] q2.2 (fun _ => rfl) ?_
    rcases am_ite h with ⟨q3, h⟩ | ⟨q3, h⟩
    · refine am_Ex.icmp_ge_t rfl q3 ?_
      exact e_fL_law_920 d hk694 hk829 h
    · refine am_Ex.icmp_ge_f rfl q3 ?_
      refine am_Ex.seg 2 906 [w0, .ref 0, .int a2, w3, w4, .ref 111, .ref 112, w7, .ref 114, .ref 115, .ref 116, .ref 117, .int a12, .ref 118, .ref 119, .int a15, .int a16, w17, w18, w19, w20, w21] [.int a15, .ref 115, .int q2.1] q2.2 (fun _ => rfl) ?_
      obtain ⟨q4, h⟩ := am_bif h
      refine am_Ex.iald (v := (q2.2 115 ((a15).toNatClampNeg))) rfl rfl rfl q4 rfl ?_
      refine am_Ex.seg 5 913 [w0, .ref 0, .int a2, w3, w4, .ref 111, .ref 112, w7, .ref 114, .ref 115, .ref 116, .ref 117, .int a12, .ref 118, .ref 119, .int a15, .int a16, w17, w18, w19, w20, w21] [.int 1, .int (((q2.2 115 ((a15).toNatClampNeg)) >>> (a16 &&& 31)) &&& 1), .int q2.1] q2.2 (fun _ => rfl) ?_
      rcases am_ite h with ⟨q5, h⟩ | ⟨q5, h⟩
      · refine am_Ex.icmp_ne_t rfl q5 ?_
        exact e_fL_law_920 d hk694 hk829 h
      · refine am_Ex.icmp_ne_f rfl (Decidable.not_not.mp q5) ?_
        refine am_Ex.seg 1 917 [w0, .ref 0, .int a2, w3, w4, .ref 111, .ref 112, w7, .ref 114, .ref 115, .ref 116, .ref 117, .int a12, .ref 118, .ref 119, .int a15, .int a16, w17, w18, w19, w20, w21] [.int 2, .int q2.1] q2.2 (fun _ => rfl) ?_
        refine am_Ex.goto rfl ?_
        exact e_fL_law_921 d hk694 hk829 h
set_option maxRecDepth 20000 in
set_option maxHeartbeats 1000000 in
theorem e_fL_law_877 {sL : Nat} {sX : Nat → Int32} (d : Nat) {k694 : Int32 → Int32 → Int32 → Int32 → am_Mu → Option (Int32 × am_Mu)} {k829 : Int32 → Int32 → Int32 → Int32 → Int32 → am_Mu → Option (Int32 × am_Mu)} (hk694 : ∀ {a2 : Int32} {a3 : Int32} {a12 : Int32} {a15 : Int32} {w0 w4 w7 w16 w17 w18 w19 w20 w21 : Value} {μ : am_Mu} {out : Int32 × am_Mu}, k694 a2 a3 a12 a15 μ = some out → am_Ex (some (some (sL, sX))) (d + 7) 95 694 [w0, .ref 0, .int a2, .int a3, w4, .ref 111, .ref 112, w7, .ref 114, .ref 115, .ref 116, .ref 117, .int a12, .ref 118, .ref 119, .int a15, w16, w17, w18, w19, w20, w21] [] (am_SX (am_TL.take 12)) μ (some (.int out.1), (am_SX (am_TL.take 12)), out.2)) (hk829 : ∀ {a2 : Int32} {a3 : Int32} {a12 : Int32} {a15 : Int32} {a16 : Int32} {w0 w4 w7 w17 w18 w19 w20 w21 : Value} {μ : am_Mu} {out : Int32 × am_Mu}, k829 a2 a3 a12 a15 a16 μ = some out → am_Ex (some (some (sL, sX))) (d + 7) 95 829 [w0, .ref 0, .int a2, .int a3, w4, .ref 111, .ref 112, w7, .ref 114, .ref 115, .ref 116, .ref 117, .int a12, .ref 118, .ref 119, .int a15, .int a16, w17, w18, w19, w20, w21] [] (am_SX (am_TL.take 12)) μ (some (.int out.1), (am_SX (am_TL.take 12)), out.2)) : ∀ {a2 : Int32} {a12 : Int32} {a15 : Int32} {a16 : Int32} {s0 : Int32} {w0 w3 w4 w7 w17 w18 w19 w20 w21 : Value} {μ : am_Mu} {out : Int32 × am_Mu}, fL_law_877 sL sX k694 k829 a2 a12 a15 a16 s0 μ = some out → am_Ex (some (some (sL, sX))) (d + 7) 95 877 [w0, .ref 0, .int a2, w3, w4, .ref 111, .ref 112, w7, .ref 114, .ref 115, .ref 116, .ref 117, .int a12, .ref 118, .ref 119, .int a15, .int a16, w17, w18, w19, w20, w21] [.int s0] (am_SX (am_TL.take 12)) μ (some (.int out.1), (am_SX (am_TL.take 12)), out.2) := by
  intro a2 a12 a15 a16 s0 w0 w3 w4 w7 w17 w18 w19 w20 w21 μ out h
  unfold fL_law_877 at h
  refine am_Ex.seg 1 878 [w0, .ref 0, .int a2, w3, w4, .ref 111, .ref 112, w7, .ref 114, .ref 115, .ref 116, .ref 117, .int a12, .ref 118, .ref 119, .int a15, .int a16, w17, w18, w19, w20, w21] [.int 0, .int s0] μ (fun _ => rfl) ?_
  exact e_fL_law_878 d hk694 hk829 h
set_option maxRecDepth 20000 in
set_option maxHeartbeats 1000000 in
theorem e_fL_law_829 {sL : Nat} {sX : Nat → Int32} (d : Nat) {k694 : Int32 → Int32 → Int32 → Int32 → am_Mu → Option (Int32 × am_Mu)} (hk694 : ∀ {a2 : Int32} {a3 : Int32} {a12 : Int32} {a15 : Int32} {w0 w4 w7 w16 w17 w18 w19 w20 w21 : Value} {μ : am_Mu} {out : Int32 × am_Mu}, k694 a2 a3 a12 a15 μ = some out → am_Ex (some (some (sL, sX))) (d + 7) 95 694 [w0, .ref 0, .int a2, .int a3, w4, .ref 111, .ref 112, w7, .ref 114, .ref 115, .ref 116, .ref 117, .int a12, .ref 118, .ref 119, .int a15, w16, w17, w18, w19, w20, w21] [] (am_SX (am_TL.take 12)) μ (some (.int out.1), (am_SX (am_TL.take 12)), out.2)) : ∀ n : Nat, ∀ {a2 : Int32} {a3 : Int32} {a12 : Int32} {a15 : Int32} {a16 : Int32} {w0 w4 w7 w17 w18 w19 w20 w21 : Value} {μ : am_Mu} {out : Int32 × am_Mu}, fL_law_829 sL sX n k694 a2 a3 a12 a15 a16 μ = some out → am_Ex (some (some (sL, sX))) (d + 7) 95 829 [w0, .ref 0, .int a2, .int a3, w4, .ref 111, .ref 112, w7, .ref 114, .ref 115, .ref 116, .ref 117, .int a12, .ref 118, .ref 119, .int a15, .int a16, w17, w18, w19, w20, w21] [] (am_SX (am_TL.take 12)) μ (some (.int out.1), (am_SX (am_TL.take 12)), out.2) := by
  intro n
  induction n with
  | zero => intros; contradiction
  | succ n ih =>
    have hk829 : ∀ {a2 : Int32} {a3 : Int32} {a12 : Int32} {a15 : Int32} {a16 : Int32} {w0 w4 w7 w17 w18 w19 w20 w21 : Value} {μ : am_Mu} {out : Int32 × am_Mu}, (fL_law_829 sL sX n k694) a2 a3 a12 a15 a16 μ = some out → am_Ex (some (some (sL, sX))) (d + 7) 95 829 [w0, .ref 0, .int a2, .int a3, w4, .ref 111, .ref 112, w7, .ref 114, .ref 115, .ref 116, .ref 117, .int a12, .ref 118, .ref 119, .int a15, .int a16, w17, w18, w19, w20, w21] [] (am_SX (am_TL.take 12)) μ (some (.int out.1), (am_SX (am_TL.take 12)), out.2) := ih
    intro a2 a3 a12 a15 a16 w0 w4 w7 w17 w18 w19 w20 w21 μ out h
    unfold fL_law_829 at h
    refine am_Ex.seg 2 832 [w0, .ref 0, .int a2, .int a3, w4, .ref 111, .ref 112, w7, .ref 114, .ref 115, .ref 116, .ref 117, .int a12, .ref 118, .ref 119, .int a15, .int a16, w17, w18, w19, w20, w21] [.int 3, .int a16] μ (fun _ => rfl) ?_
    rcases am_ite h with ⟨q1, h⟩ | ⟨q1, h⟩
    · refine am_Ex.icmp_ge_t rfl q1 ?_
      exact e_fL_law_953 d hk694 h
    · refine am_Ex.icmp_ge_f rfl q1 ?_
      refine am_Ex.seg 1 836 [w0, .ref 0, .int a2, .int a3, w4, .ref 111, .ref 112, w7, .ref 114, .ref 115, .ref 116, .ref 117, .int a12, .ref 118, .ref 119, .int a15, .int a16, w17, w18, w19, w20, w21] [.int a3] μ (fun _ => rfl) ?_
      rcases am_ite h with ⟨q2, h⟩ | ⟨q2, h⟩
      · refine am_Ex.if_eq_t rfl q2 ?_
        exact e_fL_law_945 d hk694 hk829 h
      · refine am_Ex.if_eq_f rfl q2 ?_
        refine am_Ex.seg 6 850 [w0, .ref 0, .int a2, .int a3, w4, .ref 111, .ref 112, w7, .ref 114, .ref 115, .ref 116, .ref 117, .int a12, .ref 118, .ref 119, .int a15, .int a16, w17, w18, w19, w20, w21] [.int 9000, .int a12, .int a16, .int a15, .int 0, .ref 0] μ (fun _ => rfl) ?_
        obtain ⟨q3, h_q3, h⟩ := am_bind h
        refine am_Ex.ivk (na := 6) (b := 0) (As' := [.int 0, .int a15, .int a16, .int a12, .int 9000]) rfl rfl rfl rfl rfl rfl rfl rfl rfl (e_fB_mark (d + 0) h_q3) ?_
        refine am_Ex.same 853 [w0, .ref 0, .int a2, .int a3, w4, .ref 111, .ref 112, w7, .ref 114, .ref 115, .ref 116, .ref 117, .int a12, .ref 118, .ref 119, .int a15, .int a16, w17, w18, w19, w20, w21] [.int q3.1] q3.2 rfl ?_
        refine am_Ex.seg 2 856 [w0, .ref 0, .int a2, .int a3, w4, .ref 111, .ref 112, w7, .ref 114, .ref 115, .ref 116, .ref 117, .int a12, .ref 118, .ref 119, .int a15, .int a16, w17, w18, w19, w20, w21] [.int 2, .int a16, .int q3.1] q3.2 (fun _ => rfl) ?_
        rcases am_ite h with ⟨q4, h⟩ | ⟨q4, h⟩
        · refine am_Ex.icmp_ge_t rfl q4 ?_
          exact e_fL_law_877 d hk694 hk829 h
        · refine am_Ex.icmp_ge_f rfl q4 ?_
          refine am_Ex.seg 2 863 [w0, .ref 0, .int a2, .int a3, w4, .ref 111, .ref 112, w7, .ref 114, .ref 115, .ref 116, .ref 117, .int a12, .ref 118, .ref 119, .int a15, .int a16, w17, w18, w19, w20, w21] [.int a15, .ref 118, .int q3.1] q3.2 (fun _ => rfl) ?_
          obtain ⟨q5, h⟩ := am_bif h
          refine am_Ex.iald (v := (q3.2 118 ((a15).toNatClampNeg))) rfl rfl rfl q5 rfl ?_
          refine am_Ex.seg 5 870 [w0, .ref 0, .int a2, .int a3, w4, .ref 111, .ref 112, w7, .ref 114, .ref 115, .ref 116, .ref 117, .int a12, .ref 118, .ref 119, .int a15, .int a16, w17, w18, w19, w20, w21] [.int 1, .int (((q3.2 118 ((a15).toNatClampNeg)) >>> (a16 &&& 31)) &&& 1), .int q3.1] q3.2 (fun _ => rfl) ?_
          rcases am_ite h with ⟨q6, h⟩ | ⟨q6, h⟩
          · refine am_Ex.icmp_ne_t rfl q6 ?_
            exact e_fL_law_877 d hk694 hk829 h
          · refine am_Ex.icmp_ne_f rfl (Decidable.not_not.mp q6) ?_
            refine am_Ex.seg 1 874 [w0, .ref 0, .int a2, .int a3, w4, .ref 111, .ref 112, w7, .ref 114, .ref 115, .ref 116, .ref 117, .int a12, .ref 118, .ref 119, .int a15, .int a16, w17, w18, w19, w20, w21] [.int 2, .int q3.1] q3.2 (fun _ => rfl) ?_
            refine am_Ex.goto rfl ?_
            exact e_fL_law_878 d hk694 hk829 h
set_option maxRecDepth 20000 in
set_option maxHeartbeats 1000000 in
theorem e_fL_law_825 {sL : Nat} {sX : Nat → Int32} (d : Nat) {k694 : Int32 → Int32 → Int32 → Int32 → am_Mu → Option (Int32 × am_Mu)} (hk694 : ∀ {a2 : Int32} {a3 : Int32} {a12 : Int32} {a15 : Int32} {w0 w4 w7 w16 w17 w18 w19 w20 w21 : Value} {μ : am_Mu} {out : Int32 × am_Mu}, k694 a2 a3 a12 a15 μ = some out → am_Ex (some (some (sL, sX))) (d + 7) 95 694 [w0, .ref 0, .int a2, .int a3, w4, .ref 111, .ref 112, w7, .ref 114, .ref 115, .ref 116, .ref 117, .int a12, .ref 118, .ref 119, .int a15, w16, w17, w18, w19, w20, w21] [] (am_SX (am_TL.take 12)) μ (some (.int out.1), (am_SX (am_TL.take 12)), out.2)) : ∀ {a2 : Int32} {a12 : Int32} {a15 : Int32} {s0 : Int32} {w0 w3 w4 w7 w16 w17 w18 w19 w20 w21 : Value} {μ : am_Mu} {out : Int32 × am_Mu}, fL_law_825 sL sX k694 a2 a12 a15 s0 μ = some out → am_Ex (some (some (sL, sX))) (d + 7) 95 825 [w0, .ref 0, .int a2, w3, w4, .ref 111, .ref 112, w7, .ref 114, .ref 115, .ref 116, .ref 117, .int a12, .ref 118, .ref 119, .int a15, w16, w17, w18, w19, w20, w21] [.int s0] (am_SX (am_TL.take 12)) μ (some (.int out.1), (am_SX (am_TL.take 12)), out.2) := by
  intro a2 a12 a15 s0 w0 w3 w4 w7 w16 w17 w18 w19 w20 w21 μ out h
  unfold fL_law_825 at h
  refine am_Ex.seg 3 829 [w0, .ref 0, .int a2, .int s0, w4, .ref 111, .ref 112, w7, .ref 114, .ref 115, .ref 116, .ref 117, .int a12, .ref 118, .ref 119, .int a15, .int 0, w17, w18, w19, w20, w21] [] μ (fun _ => rfl) ?_
  exact e_fL_law_829 d hk694 am_F h
set_option maxRecDepth 20000 in
set_option maxHeartbeats 1000000 in
theorem e_fL_law_824 {sL : Nat} {sX : Nat → Int32} (d : Nat) {k694 : Int32 → Int32 → Int32 → Int32 → am_Mu → Option (Int32 × am_Mu)} (hk694 : ∀ {a2 : Int32} {a3 : Int32} {a12 : Int32} {a15 : Int32} {w0 w4 w7 w16 w17 w18 w19 w20 w21 : Value} {μ : am_Mu} {out : Int32 × am_Mu}, k694 a2 a3 a12 a15 μ = some out → am_Ex (some (some (sL, sX))) (d + 7) 95 694 [w0, .ref 0, .int a2, .int a3, w4, .ref 111, .ref 112, w7, .ref 114, .ref 115, .ref 116, .ref 117, .int a12, .ref 118, .ref 119, .int a15, w16, w17, w18, w19, w20, w21] [] (am_SX (am_TL.take 12)) μ (some (.int out.1), (am_SX (am_TL.take 12)), out.2)) : ∀ {a2 : Int32} {a12 : Int32} {a15 : Int32} {w0 w3 w4 w7 w16 w17 w18 w19 w20 w21 : Value} {μ : am_Mu} {out : Int32 × am_Mu}, fL_law_824 sL sX k694 a2 a12 a15 μ = some out → am_Ex (some (some (sL, sX))) (d + 7) 95 824 [w0, .ref 0, .int a2, w3, w4, .ref 111, .ref 112, w7, .ref 114, .ref 115, .ref 116, .ref 117, .int a12, .ref 118, .ref 119, .int a15, w16, w17, w18, w19, w20, w21] [] (am_SX (am_TL.take 12)) μ (some (.int out.1), (am_SX (am_TL.take 12)), out.2) := by
  intro a2 a12 a15 w0 w3 w4 w7 w16 w17 w18 w19 w20 w21 μ out h
  unfold fL_law_824 at h
  refine am_Ex.seg 1 825 [w0, .ref 0, .int a2, w3, w4, .ref 111, .ref 112, w7, .ref 114, .ref 115, .ref 116, .ref 117, .int a12, .ref 118, .ref 119, .int a15, w16, w17, w18, w19, w20, w21] [.int 0] μ (fun _ => rfl) ?_
  exact e_fL_law_825 d hk694 h
set_option maxRecDepth 20000 in
set_option maxHeartbeats 1000000 in
theorem e_fL_law_801 {sL : Nat} {sX : Nat → Int32} (d : Nat) {k694 : Int32 → Int32 → Int32 → Int32 → am_Mu → Option (Int32 × am_Mu)} (hk694 : ∀ {a2 : Int32} {a3 : Int32} {a12 : Int32} {a15 : Int32} {w0 w4 w7 w16 w17 w18 w19 w20 w21 : Value} {μ : am_Mu} {out : Int32 × am_Mu}, k694 a2 a3 a12 a15 μ = some out → am_Ex (some (some (sL, sX))) (d + 7) 95 694 [w0, .ref 0, .int a2, .int a3, w4, .ref 111, .ref 112, w7, .ref 114, .ref 115, .ref 116, .ref 117, .int a12, .ref 118, .ref 119, .int a15, w16, w17, w18, w19, w20, w21] [] (am_SX (am_TL.take 12)) μ (some (.int out.1), (am_SX (am_TL.take 12)), out.2)) : ∀ {a2 : Int32} {a12 : Int32} {a15 : Int32} {s0 : Int32} {s1 : Int32} {w0 w3 w4 w7 w16 w17 w18 w19 w20 w21 : Value} {μ : am_Mu} {out : Int32 × am_Mu}, fL_law_801 sL sX k694 a2 a12 a15 s0 s1 μ = some out → am_Ex (some (some (sL, sX))) (d + 7) 95 801 [w0, .ref 0, .int a2, w3, w4, .ref 111, .ref 112, w7, .ref 114, .ref 115, .ref 116, .ref 117, .int a12, .ref 118, .ref 119, .int a15, w16, w17, w18, w19, w20, w21] [.int s1, .int s0] (am_SX (am_TL.take 12)) μ (some (.int out.1), (am_SX (am_TL.take 12)), out.2) := by
  intro a2 a12 a15 s0 s1 w0 w3 w4 w7 w16 w17 w18 w19 w20 w21 μ out h
  unfold fL_law_801 at h
  rcases am_ite h with ⟨q1, h⟩ | ⟨q1, h⟩
  · refine am_Ex.icmp_ne_t rfl q1 ?_
    exact e_fL_law_824 d hk694 h
  · refine am_Ex.icmp_ne_f rfl (Decidable.not_not.mp q1) ?_
    refine am_Ex.seg 4 809 [w0, .ref 0, .int a2, w3, w4, .ref 111, .ref 112, w7, .ref 114, .ref 115, .ref 116, .ref 117, .int a12, .ref 118, .ref 119, .int a15, w16, w17, w18, w19, w20, w21] [.int a15, .int 0, .int 0, .ref 0] μ (fun _ => rfl) ?_
    obtain ⟨q2, h_q2, h⟩ := am_bind h
    refine am_Ex.ivk (na := 4) (b := 0) (As' := [.int 0, .int 0, .int a15]) rfl rfl rfl rfl rfl rfl rfl rfl rfl (e_fB_reached (d + 0) h_q2) ?_
    refine am_Ex.same 812 [w0, .ref 0, .int a2, w3, w4, .ref 111, .ref 112, w7, .ref 114, .ref 115, .ref 116, .ref 117, .int a12, .ref 118, .ref 119, .int a15, w16, w17, w18, w19, w20, w21] [.int q2.1] q2.2 rfl ?_
    refine am_Ex.seg 2 816 [w0, .ref 0, .int a2, w3, w4, .ref 111, .ref 112, w7, .ref 114, .ref 115, .ref 116, .ref 117, .int a12, .ref 118, .ref 119, .int a15, w16, w17, w18, w19, w20, w21] [.int a15, .ref 117, .int q2.1] q2.2 (fun _ => rfl) ?_
    obtain ⟨q3, h⟩ := am_bif h
    refine am_Ex.iald (v := (q2.2 117 ((a15).toNatClampNeg))) rfl rfl rfl q3 rfl ?_
    rcases am_ite h with ⟨q4, h⟩ | ⟨q4, h⟩
    · refine am_Ex.icmp_ne_t rfl q4 ?_
      exact e_fL_law_824 d hk694 h
    · refine am_Ex.icmp_ne_f rfl (Decidable.not_not.mp q4) ?_
      refine am_Ex.seg 1 821 [w0, .ref 0, .int a2, w3, w4, .ref 111, .ref 112, w7, .ref 114, .ref 115, .ref 116, .ref 117, .int a12, .ref 118, .ref 119, .int a15, w16, w17, w18, w19, w20, w21] [.int 1] q2.2 (fun _ => rfl) ?_
      refine am_Ex.goto rfl ?_
      exact e_fL_law_825 d hk694 h
set_option maxRecDepth 20000 in
set_option maxHeartbeats 1000000 in
theorem e_fL_law_800 {sL : Nat} {sX : Nat → Int32} (d : Nat) {k694 : Int32 → Int32 → Int32 → Int32 → am_Mu → Option (Int32 × am_Mu)} (hk694 : ∀ {a2 : Int32} {a3 : Int32} {a12 : Int32} {a15 : Int32} {w0 w4 w7 w16 w17 w18 w19 w20 w21 : Value} {μ : am_Mu} {out : Int32 × am_Mu}, k694 a2 a3 a12 a15 μ = some out → am_Ex (some (some (sL, sX))) (d + 7) 95 694 [w0, .ref 0, .int a2, .int a3, w4, .ref 111, .ref 112, w7, .ref 114, .ref 115, .ref 116, .ref 117, .int a12, .ref 118, .ref 119, .int a15, w16, w17, w18, w19, w20, w21] [] (am_SX (am_TL.take 12)) μ (some (.int out.1), (am_SX (am_TL.take 12)), out.2)) : ∀ {a2 : Int32} {a12 : Int32} {a15 : Int32} {s0 : Int32} {w0 w3 w4 w7 w16 w17 w18 w19 w20 w21 : Value} {μ : am_Mu} {out : Int32 × am_Mu}, fL_law_800 sL sX k694 a2 a12 a15 s0 μ = some out → am_Ex (some (some (sL, sX))) (d + 7) 95 800 [w0, .ref 0, .int a2, w3, w4, .ref 111, .ref 112, w7, .ref 114, .ref 115, .ref 116, .ref 117, .int a12, .ref 118, .ref 119, .int a15, w16, w17, w18, w19, w20, w21] [.int s0] (am_SX (am_TL.take 12)) μ (some (.int out.1), (am_SX (am_TL.take 12)), out.2) := by
  intro a2 a12 a15 s0 w0 w3 w4 w7 w16 w17 w18 w19 w20 w21 μ out h
  unfold fL_law_800 at h
  refine am_Ex.seg 1 801 [w0, .ref 0, .int a2, w3, w4, .ref 111, .ref 112, w7, .ref 114, .ref 115, .ref 116, .ref 117, .int a12, .ref 118, .ref 119, .int a15, w16, w17, w18, w19, w20, w21] [.int 0, .int s0] μ (fun _ => rfl) ?_
  exact e_fL_law_801 d hk694 h
set_option maxRecDepth 20000 in
set_option maxHeartbeats 1000000 in
theorem e_fL_law_764 {sL : Nat} {sX : Nat → Int32} (d : Nat) {k694 : Int32 → Int32 → Int32 → Int32 → am_Mu → Option (Int32 × am_Mu)} (hk694 : ∀ {a2 : Int32} {a3 : Int32} {a12 : Int32} {a15 : Int32} {w0 w4 w7 w16 w17 w18 w19 w20 w21 : Value} {μ : am_Mu} {out : Int32 × am_Mu}, k694 a2 a3 a12 a15 μ = some out → am_Ex (some (some (sL, sX))) (d + 7) 95 694 [w0, .ref 0, .int a2, .int a3, w4, .ref 111, .ref 112, w7, .ref 114, .ref 115, .ref 116, .ref 117, .int a12, .ref 118, .ref 119, .int a15, w16, w17, w18, w19, w20, w21] [] (am_SX (am_TL.take 12)) μ (some (.int out.1), (am_SX (am_TL.take 12)), out.2)) : ∀ {a2 : Int32} {a12 : Int32} {a15 : Int32} {s0 : Int32} {s1 : Int32} {w0 w3 w4 w7 w16 w17 w18 w19 w20 w21 : Value} {μ : am_Mu} {out : Int32 × am_Mu}, fL_law_764 sL sX k694 a2 a12 a15 s0 s1 μ = some out → am_Ex (some (some (sL, sX))) (d + 7) 95 764 [w0, .ref 0, .int a2, w3, w4, .ref 111, .ref 112, w7, .ref 114, .ref 115, .ref 116, .ref 117, .int a12, .ref 118, .ref 119, .int a15, w16, w17, w18, w19, w20, w21] [.int s1, .int s0] (am_SX (am_TL.take 12)) μ (some (.int out.1), (am_SX (am_TL.take 12)), out.2) := by
  intro a2 a12 a15 s0 s1 w0 w3 w4 w7 w16 w17 w18 w19 w20 w21 μ out h
  unfold fL_law_764 at h
  rcases am_ite h with ⟨q1, h⟩ | ⟨q1, h⟩
  · refine am_Ex.icmp_ne_t rfl q1 ?_
    exact e_fL_law_824 d hk694 h
  · refine am_Ex.icmp_ne_f rfl (Decidable.not_not.mp q1) ?_
    refine am_Ex.seg 5 775 [w0, .ref 0, .int a2, w3, w4, .ref 111, .ref 112, w7, .ref 114, .ref 115, .ref 116, .ref 117, .int a12, .ref 118, .ref 119, .int a15, w16, w17, w18, w19, w20, w21] [.int 5000, .int a15, .int 1, .int 0, .ref 0] μ (fun _ => rfl) ?_
    obtain ⟨q2, h_q2, h⟩ := am_bind h
    refine am_Ex.ivk (na := 5) (b := 0) (As' := [.int 0, .int 1, .int a15, .int 5000]) rfl rfl rfl rfl rfl rfl rfl rfl rfl (e_fB_leads (d + 0) h_q2) ?_
    refine am_Ex.same 778 [w0, .ref 0, .int a2, w3, w4, .ref 111, .ref 112, w7, .ref 114, .ref 115, .ref 116, .ref 117, .int a12, .ref 118, .ref 119, .int a15, w16, w17, w18, w19, w20, w21] [.int q2.1] q2.2 rfl ?_
    refine am_Ex.seg 3 783 [w0, .ref 0, .int a2, w3, w4, .ref 111, .ref 112, w7, .ref 114, .ref 115, .ref 116, .ref 117, .int a12, .ref 118, .ref 119, .int a15, w16, w17, w18, w19, w20, w21] [.int 0, .ref 114, .int a15, .int q2.1] q2.2 (fun _ => rfl) ?_
    refine am_Ex.iald (v := (q2.2 114 0)) rfl rfl rfl rfl rfl ?_
    rcases am_ite h with ⟨q3, h⟩ | ⟨q3, h⟩
    · refine am_Ex.icmp_ne_t rfl q3 ?_
      exact e_fL_law_800 d hk694 h
    · refine am_Ex.icmp_ne_f rfl (Decidable.not_not.mp q3) ?_
      refine am_Ex.seg 2 790 [w0, .ref 0, .int a2, w3, w4, .ref 111, .ref 112, w7, .ref 114, .ref 115, .ref 116, .ref 117, .int a12, .ref 118, .ref 119, .int a15, w16, w17, w18, w19, w20, w21] [.int 1, .ref 114, .int q2.1] q2.2 (fun _ => rfl) ?_
      refine am_Ex.iald (v := (q2.2 114 1)) rfl rfl rfl rfl rfl ?_
      refine am_Ex.seg 1 793 [w0, .ref 0, .int a2, w3, w4, .ref 111, .ref 112, w7, .ref 114, .ref 115, .ref 116, .ref 117, .int a12, .ref 118, .ref 119, .int a15, w16, w17, w18, w19, w20, w21] [.int a15, .int (q2.2 114 1), .int q2.1] q2.2 (fun _ => rfl) ?_
      rcases am_ite h with ⟨q4, h⟩ | ⟨q4, h⟩
      · refine am_Ex.icmp_eq_t rfl q4 ?_
        exact e_fL_law_800 d hk694 h
      · refine am_Ex.icmp_eq_f rfl q4 ?_
        refine am_Ex.seg 1 797 [w0, .ref 0, .int a2, w3, w4, .ref 111, .ref 112, w7, .ref 114, .ref 115, .ref 116, .ref 117, .int a12, .ref 118, .ref 119, .int a15, w16, w17, w18, w19, w20, w21] [.int 2, .int q2.1] q2.2 (fun _ => rfl) ?_
        refine am_Ex.goto rfl ?_
        exact e_fL_law_801 d hk694 h
set_option maxRecDepth 20000 in
set_option maxHeartbeats 1000000 in
theorem e_fL_law_732 {sL : Nat} {sX : Nat → Int32} (d : Nat) {k694 : Int32 → Int32 → Int32 → Int32 → am_Mu → Option (Int32 × am_Mu)} (hk694 : ∀ {a2 : Int32} {a3 : Int32} {a12 : Int32} {a15 : Int32} {w0 w4 w7 w16 w17 w18 w19 w20 w21 : Value} {μ : am_Mu} {out : Int32 × am_Mu}, k694 a2 a3 a12 a15 μ = some out → am_Ex (some (some (sL, sX))) (d + 7) 95 694 [w0, .ref 0, .int a2, .int a3, w4, .ref 111, .ref 112, w7, .ref 114, .ref 115, .ref 116, .ref 117, .int a12, .ref 118, .ref 119, .int a15, w16, w17, w18, w19, w20, w21] [] (am_SX (am_TL.take 12)) μ (some (.int out.1), (am_SX (am_TL.take 12)), out.2)) : ∀ {a2 : Int32} {a12 : Int32} {a15 : Int32} {s0 : Int32} {s1 : Int32} {w0 w3 w4 w7 w16 w17 w18 w19 w20 w21 : Value} {μ : am_Mu} {out : Int32 × am_Mu}, fL_law_732 sL sX k694 a2 a12 a15 s0 s1 μ = some out → am_Ex (some (some (sL, sX))) (d + 7) 95 732 [w0, .ref 0, .int a2, w3, w4, .ref 111, .ref 112, w7, .ref 114, .ref 115, .ref 116, .ref 117, .int a12, .ref 118, .ref 119, .int a15, w16, w17, w18, w19, w20, w21] [.int s1, .int s0] (am_SX (am_TL.take 12)) μ (some (.int out.1), (am_SX (am_TL.take 12)), out.2) := by
  intro a2 a12 a15 s0 s1 w0 w3 w4 w7 w16 w17 w18 w19 w20 w21 μ out h
  unfold fL_law_732 at h
  rcases am_ite h with ⟨q1, h⟩ | ⟨q1, h⟩
  · refine am_Ex.icmp_ne_t rfl q1 ?_
    exact e_fL_law_824 d hk694 h
  · refine am_Ex.icmp_ne_f rfl (Decidable.not_not.mp q1) ?_
    refine am_Ex.seg 5 743 [w0, .ref 0, .int a2, w3, w4, .ref 111, .ref 112, w7, .ref 114, .ref 115, .ref 116, .ref 117, .int a12, .ref 118, .ref 119, .int a15, w16, w17, w18, w19, w20, w21] [.int 9000, .int a15, .int 0, .int 0, .ref 0] μ (fun _ => rfl) ?_
    obtain ⟨q2, h_q2, h⟩ := am_bind h
    refine am_Ex.ivk (na := 5) (b := 0) (As' := [.int 0, .int 0, .int a15, .int 9000]) rfl rfl rfl rfl rfl rfl rfl rfl rfl (e_fB_leads (d + 0) h_q2) ?_
    refine am_Ex.same 746 [w0, .ref 0, .int a2, w3, w4, .ref 111, .ref 112, w7, .ref 114, .ref 115, .ref 116, .ref 117, .int a12, .ref 118, .ref 119, .int a15, w16, w17, w18, w19, w20, w21] [.int q2.1] q2.2 rfl ?_
    refine am_Ex.seg 2 750 [w0, .ref 0, .int a2, w3, w4, .ref 111, .ref 112, w7, .ref 114, .ref 115, .ref 116, .ref 117, .int a12, .ref 118, .ref 119, .int a15, w16, w17, w18, w19, w20, w21] [.int a15, .ref 115, .int q2.1] q2.2 (fun _ => rfl) ?_
    obtain ⟨q3, h⟩ := am_bif h
    refine am_Ex.iald (v := (q2.2 115 ((a15).toNatClampNeg))) rfl rfl rfl q3 rfl ?_
    refine am_Ex.seg 2 755 [w0, .ref 0, .int a2, w3, w4, .ref 111, .ref 112, w7, .ref 114, .ref 115, .ref 116, .ref 117, .int a12, .ref 118, .ref 119, .int a15, w16, w17, w18, w19, w20, w21] [.int a15, .ref 116, .int (q2.2 115 ((a15).toNatClampNeg)), .int q2.1] q2.2 (fun _ => rfl) ?_
    refine am_Ex.iald (v := (q2.2 116 ((a15).toNatClampNeg))) rfl rfl rfl q3 rfl ?_
    rcases am_ite h with ⟨q4, h⟩ | ⟨q4, h⟩
    · refine am_Ex.icmp_eq_t rfl q4 ?_
      refine am_Ex.seg 1 764 [w0, .ref 0, .int a2, w3, w4, .ref 111, .ref 112, w7, .ref 114, .ref 115, .ref 116, .ref 117, .int a12, .ref 118, .ref 119, .int a15, w16, w17, w18, w19, w20, w21] [.int 0, .int q2.1] q2.2 (fun _ => rfl) ?_
      exact e_fL_law_764 d hk694 h
    · refine am_Ex.icmp_eq_f rfl q4 ?_
      refine am_Ex.seg 1 760 [w0, .ref 0, .int a2, w3, w4, .ref 111, .ref 112, w7, .ref 114, .ref 115, .ref 116, .ref 117, .int a12, .ref 118, .ref 119, .int a15, w16, w17, w18, w19, w20, w21] [.int 2, .int q2.1] q2.2 (fun _ => rfl) ?_
      refine am_Ex.goto rfl ?_
      exact e_fL_law_764 d hk694 h
set_option maxRecDepth 20000 in
set_option maxHeartbeats 1000000 in
theorem e_fL_law_694 {sL : Nat} {sX : Nat → Int32} (d : Nat) : ∀ n : Nat, ∀ {a2 : Int32} {a3 : Int32} {a12 : Int32} {a15 : Int32} {w0 w4 w7 w16 w17 w18 w19 w20 w21 : Value} {μ : am_Mu} {out : Int32 × am_Mu}, fL_law_694 sL sX n a2 a3 a12 a15 μ = some out → am_Ex (some (some (sL, sX))) (d + 7) 95 694 [w0, .ref 0, .int a2, .int a3, w4, .ref 111, .ref 112, w7, .ref 114, .ref 115, .ref 116, .ref 117, .int a12, .ref 118, .ref 119, .int a15, w16, w17, w18, w19, w20, w21] [] (am_SX (am_TL.take 12)) μ (some (.int out.1), (am_SX (am_TL.take 12)), out.2) := by
  intro n
  induction n with
  | zero => intros; contradiction
  | succ n ih =>
    have hk694 : ∀ {a2 : Int32} {a3 : Int32} {a12 : Int32} {a15 : Int32} {w0 w4 w7 w16 w17 w18 w19 w20 w21 : Value} {μ : am_Mu} {out : Int32 × am_Mu}, (fL_law_694 sL sX n) a2 a3 a12 a15 μ = some out → am_Ex (some (some (sL, sX))) (d + 7) 95 694 [w0, .ref 0, .int a2, .int a3, w4, .ref 111, .ref 112, w7, .ref 114, .ref 115, .ref 116, .ref 117, .int a12, .ref 118, .ref 119, .int a15, w16, w17, w18, w19, w20, w21] [] (am_SX (am_TL.take 12)) μ (some (.int out.1), (am_SX (am_TL.take 12)), out.2) := ih
    intro a2 a3 a12 a15 w0 w4 w7 w16 w17 w18 w19 w20 w21 μ out h
    unfold fL_law_694 at h
    refine am_Ex.seg 2 697 [w0, .ref 0, .int a2, .int a3, w4, .ref 111, .ref 112, w7, .ref 114, .ref 115, .ref 116, .ref 117, .int a12, .ref 118, .ref 119, .int a15, w16, w17, w18, w19, w20, w21] [.int a2, .int a15] μ (fun _ => rfl) ?_
    rcases am_ite h with ⟨q1, h⟩ | ⟨q1, h⟩
    · refine am_Ex.icmp_ge_t rfl q1 ?_
      exact e_fL_law_1205 d h
    · refine am_Ex.icmp_ge_f rfl q1 ?_
      refine am_Ex.seg 1 701 [w0, .ref 0, .int a2, .int a3, w4, .ref 111, .ref 112, w7, .ref 114, .ref 115, .ref 116, .ref 117, .int a12, .ref 118, .ref 119, .int a15, w16, w17, w18, w19, w20, w21] [.int a3] μ (fun _ => rfl) ?_
      rcases am_ite h with ⟨q2, h⟩ | ⟨q2, h⟩
      · refine am_Ex.if_eq_t rfl q2 ?_
        exact e_fL_law_824 d hk694 h
      · refine am_Ex.if_eq_f rfl q2 ?_
        refine am_Ex.seg 5 711 [w0, .ref 0, .int a2, .int a3, w4, .ref 111, .ref 112, w7, .ref 114, .ref 115, .ref 116, .ref 117, .int a12, .ref 118, .ref 119, .int a15, w16, w17, w18, w19, w20, w21] [.int a12, .int a15, .int 0, .int 0, .ref 0] μ (fun _ => rfl) ?_
        obtain ⟨q3, h_q3, h⟩ := am_bind h
        refine am_Ex.ivk (na := 5) (b := 0) (As' := [.int 0, .int 0, .int a15, .int a12]) rfl rfl rfl rfl rfl rfl rfl rfl rfl (e_fB_leads (d + 0) h_q3) ?_
        refine am_Ex.same 714 [w0, .ref 0, .int a2, .int a3, w4, .ref 111, .ref 112, w7, .ref 114, .ref 115, .ref 116, .ref 117, .int a12, .ref 118, .ref 119, .int a15, w16, w17, w18, w19, w20, w21] [.int q3.1] q3.2 rfl ?_
        refine am_Ex.seg 2 718 [w0, .ref 0, .int a2, .int a3, w4, .ref 111, .ref 112, w7, .ref 114, .ref 115, .ref 116, .ref 117, .int a12, .ref 118, .ref 119, .int a15, w16, w17, w18, w19, w20, w21] [.int a15, .ref 118, .int q3.1] q3.2 (fun _ => rfl) ?_
        obtain ⟨q4, h⟩ := am_bif h
        refine am_Ex.iald (v := (q3.2 118 ((a15).toNatClampNeg))) rfl rfl rfl q4 rfl ?_
        refine am_Ex.seg 2 723 [w0, .ref 0, .int a2, .int a3, w4, .ref 111, .ref 112, w7, .ref 114, .ref 115, .ref 116, .ref 117, .int a12, .ref 118, .ref 119, .int a15, w16, w17, w18, w19, w20, w21] [.int a15, .ref 119, .int (q3.2 118 ((a15).toNatClampNeg)), .int q3.1] q3.2 (fun _ => rfl) ?_
        refine am_Ex.iald (v := (q3.2 119 ((a15).toNatClampNeg))) rfl rfl rfl q4 rfl ?_
        rcases am_ite h with ⟨q5, h⟩ | ⟨q5, h⟩
        · refine am_Ex.icmp_eq_t rfl q5 ?_
          refine am_Ex.seg 1 732 [w0, .ref 0, .int a2, .int a3, w4, .ref 111, .ref 112, w7, .ref 114, .ref 115, .ref 116, .ref 117, .int a12, .ref 118, .ref 119, .int a15, w16, w17, w18, w19, w20, w21] [.int 0, .int q3.1] q3.2 (fun _ => rfl) ?_
          exact e_fL_law_732 d hk694 h
        · refine am_Ex.icmp_eq_f rfl q5 ?_
          refine am_Ex.seg 1 728 [w0, .ref 0, .int a2, .int a3, w4, .ref 111, .ref 112, w7, .ref 114, .ref 115, .ref 116, .ref 117, .int a12, .ref 118, .ref 119, .int a15, w16, w17, w18, w19, w20, w21] [.int 2, .int q3.1] q3.2 (fun _ => rfl) ?_
          refine am_Ex.goto rfl ?_
          exact e_fL_law_732 d hk694 h
set_option maxRecDepth 20000 in
set_option maxHeartbeats 1000000 in
theorem e_fL_law_691 {sL : Nat} {sX : Nat → Int32} (d : Nat) : ∀ {a2 : Int32} {a3 : Int32} {a12 : Int32} {w0 w4 w7 w15 w16 w17 w18 w19 w20 w21 : Value} {μ : am_Mu} {out : Int32 × am_Mu}, fL_law_691 sL sX a2 a3 a12 μ = some out → am_Ex (some (some (sL, sX))) (d + 7) 95 691 [w0, .ref 0, .int a2, .int a3, w4, .ref 111, .ref 112, w7, .ref 114, .ref 115, .ref 116, .ref 117, .int a12, .ref 118, .ref 119, w15, w16, w17, w18, w19, w20, w21] [] (am_SX (am_TL.take 12)) μ (some (.int out.1), (am_SX (am_TL.take 12)), out.2) := by
  intro a2 a3 a12 w0 w4 w7 w15 w16 w17 w18 w19 w20 w21 μ out h
  unfold fL_law_691 at h
  refine am_Ex.seg 2 694 [w0, .ref 0, .int a2, .int a3, w4, .ref 111, .ref 112, w7, .ref 114, .ref 115, .ref 116, .ref 117, .int a12, .ref 118, .ref 119, .int 0, w16, w17, w18, w19, w20, w21] [] μ (fun _ => rfl) ?_
  exact e_fL_law_694 d am_F h
set_option maxRecDepth 20000 in
set_option maxHeartbeats 1000000 in
theorem e_fL_law_685 {sL : Nat} {sX : Nat → Int32} (d : Nat) {k455 : Int32 → Int32 → Int32 → Int32 → am_Mu → Option (Int32 × am_Mu)} (hk455 : ∀ {a2 : Int32} {a3 : Int32} {a12 : Int32} {a15 : Int32} {w0 w16 w17 w18 w19 w20 w21 : Value} {μ : am_Mu} {out : Int32 × am_Mu}, k455 a2 a3 a12 a15 μ = some out → am_Ex (some (some (sL, sX))) (d + 7) 95 455 [w0, .ref 0, .int a2, .int a3, .ref 110, .ref 111, .ref 112, .ref 113, .ref 114, .ref 115, .ref 116, .ref 117, .int a12, .ref 118, .ref 119, .int a15, w16, w17, w18, w19, w20, w21] [] (am_SX (am_TL.take 12)) μ (some (.int out.1), (am_SX (am_TL.take 12)), out.2)) : ∀ {a2 : Int32} {a3 : Int32} {a12 : Int32} {a15 : Int32} {w0 w16 w17 w18 w19 w20 w21 : Value} {μ : am_Mu} {out : Int32 × am_Mu}, fL_law_685 sL sX k455 a2 a3 a12 a15 μ = some out → am_Ex (some (some (sL, sX))) (d + 7) 95 685 [w0, .ref 0, .int a2, .int a3, .ref 110, .ref 111, .ref 112, .ref 113, .ref 114, .ref 115, .ref 116, .ref 117, .int a12, .ref 118, .ref 119, .int a15, w16, w17, w18, w19, w20, w21] [] (am_SX (am_TL.take 12)) μ (some (.int out.1), (am_SX (am_TL.take 12)), out.2) := by
  intro a2 a3 a12 a15 w0 w16 w17 w18 w19 w20 w21 μ out h
  unfold fL_law_685 at h
  refine am_Ex.seg 1 688 [w0, .ref 0, .int a2, .int a3, .ref 110, .ref 111, .ref 112, .ref 113, .ref 114, .ref 115, .ref 116, .ref 117, .int a12, .ref 118, .ref 119, .int (a15 + 1), w16, w17, w18, w19, w20, w21] [] μ (fun _ => rfl) ?_
  refine am_Ex.goto rfl ?_
  exact hk455 h
set_option maxRecDepth 20000 in
set_option maxHeartbeats 1000000 in
theorem e_fL_law_646 {sL : Nat} {sX : Nat → Int32} (d : Nat) {k455 : Int32 → Int32 → Int32 → Int32 → am_Mu → Option (Int32 × am_Mu)} (hk455 : ∀ {a2 : Int32} {a3 : Int32} {a12 : Int32} {a15 : Int32} {w0 w16 w17 w18 w19 w20 w21 : Value} {μ : am_Mu} {out : Int32 × am_Mu}, k455 a2 a3 a12 a15 μ = some out → am_Ex (some (some (sL, sX))) (d + 7) 95 455 [w0, .ref 0, .int a2, .int a3, .ref 110, .ref 111, .ref 112, .ref 113, .ref 114, .ref 115, .ref 116, .ref 117, .int a12, .ref 118, .ref 119, .int a15, w16, w17, w18, w19, w20, w21] [] (am_SX (am_TL.take 12)) μ (some (.int out.1), (am_SX (am_TL.take 12)), out.2)) : ∀ n : Nat, ∀ {a2 : Int32} {a3 : Int32} {a12 : Int32} {a15 : Int32} {a16 : Int32} {w0 w17 w18 w19 w20 w21 : Value} {μ : am_Mu} {out : Int32 × am_Mu}, fL_law_646 sL sX n k455 a2 a3 a12 a15 a16 μ = some out → am_Ex (some (some (sL, sX))) (d + 7) 95 646 [w0, .ref 0, .int a2, .int a3, .ref 110, .ref 111, .ref 112, .ref 113, .ref 114, .ref 115, .ref 116, .ref 117, .int a12, .ref 118, .ref 119, .int a15, .int a16, w17, w18, w19, w20, w21] [] (am_SX (am_TL.take 12)) μ (some (.int out.1), (am_SX (am_TL.take 12)), out.2) := by
  intro n
  induction n with
  | zero => intros; contradiction
  | succ n ih =>
    have hk646 : ∀ {a2 : Int32} {a3 : Int32} {a12 : Int32} {a15 : Int32} {a16 : Int32} {w0 w17 w18 w19 w20 w21 : Value} {μ : am_Mu} {out : Int32 × am_Mu}, (fL_law_646 sL sX n k455) a2 a3 a12 a15 a16 μ = some out → am_Ex (some (some (sL, sX))) (d + 7) 95 646 [w0, .ref 0, .int a2, .int a3, .ref 110, .ref 111, .ref 112, .ref 113, .ref 114, .ref 115, .ref 116, .ref 117, .int a12, .ref 118, .ref 119, .int a15, .int a16, w17, w18, w19, w20, w21] [] (am_SX (am_TL.take 12)) μ (some (.int out.1), (am_SX (am_TL.take 12)), out.2) := ih
    intro a2 a3 a12 a15 a16 w0 w17 w18 w19 w20 w21 μ out h
    unfold fL_law_646 at h
    refine am_Ex.seg 2 649 [w0, .ref 0, .int a2, .int a3, .ref 110, .ref 111, .ref 112, .ref 113, .ref 114, .ref 115, .ref 116, .ref 117, .int a12, .ref 118, .ref 119, .int a15, .int a16, w17, w18, w19, w20, w21] [.int a2, .int a16] μ (fun _ => rfl) ?_
    rcases am_ite h with ⟨q1, h⟩ | ⟨q1, h⟩
    · refine am_Ex.icmp_ge_t rfl q1 ?_
      exact e_fL_law_685 d hk455 h
    · refine am_Ex.icmp_ge_f rfl q1 ?_
      refine am_Ex.seg 2 656 [w0, .ref 0, .int a2, .int a3, .ref 110, .ref 111, .ref 112, .ref 113, .ref 114, .ref 115, .ref 116, .ref 117, .int a12, .ref 118, .ref 119, .int a15, .int a16, w17, w18, w19, w20, w21] [.int a12, .int a15] μ (fun _ => rfl) ?_
      rcases am_ite h with ⟨q2, h⟩ | ⟨q2, h⟩
      · refine am_Ex.icmp_ne_t rfl q2 ?_
        exact e_fL_law_685 d hk455 h
      · refine am_Ex.icmp_ne_f rfl (Decidable.not_not.mp q2) ?_
        refine am_Ex.seg 4 667 [w0, .ref 0, .int a2, .int a3, .ref 110, .ref 111, .ref 112, .ref 113, .ref 114, .ref 115, .ref 116, .ref 117, .int a12, .ref 118, .ref 119, .int a15, .int a16, w17, w18, w19, w20, w21] [.int a16, .ref 115, .int a16, .ref 118] μ (fun _ => rfl) ?_
        obtain ⟨q3, h⟩ := am_bif h
        refine am_Ex.iald (v := (μ 115 ((a16).toNatClampNeg))) rfl rfl rfl q3 rfl ?_
        refine am_Ex.iast (v2 := (μ 115 ((a16).toNatClampNeg))) (i2 := (a16).toNatClampNeg) rfl rfl q3 rfl rfl ?_
        refine am_Ex.seg 4 677 [w0, .ref 0, .int a2, .int a3, .ref 110, .ref 111, .ref 112, .ref 113, .ref 114, .ref 115, .ref 116, .ref 117, .int a12, .ref 118, .ref 119, .int a15, .int a16, w17, w18, w19, w20, w21] [.int a16, .ref 116, .int a16, .ref 119] (am_up μ 118 ((a16).toNatClampNeg) (μ 115 ((a16).toNatClampNeg))) (fun _ => rfl) ?_
        refine am_Ex.iald (v := (μ 116 ((a16).toNatClampNeg))) rfl rfl rfl q3 ((am_up_k (by decide)).trans rfl) ?_
        refine am_Ex.iast (v2 := (μ 116 ((a16).toNatClampNeg))) (i2 := (a16).toNatClampNeg) rfl rfl q3 rfl rfl ?_
        refine am_Ex.seg 1 682 [w0, .ref 0, .int a2, .int a3, .ref 110, .ref 111, .ref 112, .ref 113, .ref 114, .ref 115, .ref 116, .ref 117, .int a12, .ref 118, .ref 119, .int a15, .int (a16 + 1), w17, w18, w19, w20, w21] [] (am_up (am_up μ 118 ((a16).toNatClampNeg) (μ 115 ((a16).toNatClampNeg))) 119 ((a16).toNatClampNeg) (μ 116 ((a16).toNatClampNeg))) (fun _ => rfl) ?_
        refine am_Ex.goto rfl ?_
        exact hk646 h
set_option maxRecDepth 20000 in
set_option maxHeartbeats 1000000 in
theorem e_fL_law_643 {sL : Nat} {sX : Nat → Int32} (d : Nat) {k455 : Int32 → Int32 → Int32 → Int32 → am_Mu → Option (Int32 × am_Mu)} (hk455 : ∀ {a2 : Int32} {a3 : Int32} {a12 : Int32} {a15 : Int32} {w0 w16 w17 w18 w19 w20 w21 : Value} {μ : am_Mu} {out : Int32 × am_Mu}, k455 a2 a3 a12 a15 μ = some out → am_Ex (some (some (sL, sX))) (d + 7) 95 455 [w0, .ref 0, .int a2, .int a3, .ref 110, .ref 111, .ref 112, .ref 113, .ref 114, .ref 115, .ref 116, .ref 117, .int a12, .ref 118, .ref 119, .int a15, w16, w17, w18, w19, w20, w21] [] (am_SX (am_TL.take 12)) μ (some (.int out.1), (am_SX (am_TL.take 12)), out.2)) : ∀ {a2 : Int32} {a3 : Int32} {a12 : Int32} {a15 : Int32} {w0 w16 w17 w18 w19 w20 w21 : Value} {μ : am_Mu} {out : Int32 × am_Mu}, fL_law_643 sL sX k455 a2 a3 a12 a15 μ = some out → am_Ex (some (some (sL, sX))) (d + 7) 95 643 [w0, .ref 0, .int a2, .int a3, .ref 110, .ref 111, .ref 112, .ref 113, .ref 114, .ref 115, .ref 116, .ref 117, .int a12, .ref 118, .ref 119, .int a15, w16, w17, w18, w19, w20, w21] [] (am_SX (am_TL.take 12)) μ (some (.int out.1), (am_SX (am_TL.take 12)), out.2) := by
  intro a2 a3 a12 a15 w0 w16 w17 w18 w19 w20 w21 μ out h
  unfold fL_law_643 at h
  refine am_Ex.seg 2 646 [w0, .ref 0, .int a2, .int a3, .ref 110, .ref 111, .ref 112, .ref 113, .ref 114, .ref 115, .ref 116, .ref 117, .int a12, .ref 118, .ref 119, .int a15, .int 0, w17, w18, w19, w20, w21] [] μ (fun _ => rfl) ?_
  exact e_fL_law_646 d hk455 am_F h
set_option maxRecDepth 20000 in
set_option maxHeartbeats 1000000 in
theorem e_fL_law_637 {sL : Nat} {sX : Nat → Int32} (d : Nat) {k455 : Int32 → Int32 → Int32 → Int32 → am_Mu → Option (Int32 × am_Mu)} {k525 : Int32 → Int32 → Int32 → Int32 → Int32 → am_Mu → Option (Int32 × am_Mu)} (hk455 : ∀ {a2 : Int32} {a3 : Int32} {a12 : Int32} {a15 : Int32} {w0 w16 w17 w18 w19 w20 w21 : Value} {μ : am_Mu} {out : Int32 × am_Mu}, k455 a2 a3 a12 a15 μ = some out → am_Ex (some (some (sL, sX))) (d + 7) 95 455 [w0, .ref 0, .int a2, .int a3, .ref 110, .ref 111, .ref 112, .ref 113, .ref 114, .ref 115, .ref 116, .ref 117, .int a12, .ref 118, .ref 119, .int a15, w16, w17, w18, w19, w20, w21] [] (am_SX (am_TL.take 12)) μ (some (.int out.1), (am_SX (am_TL.take 12)), out.2)) (hk525 : ∀ {a2 : Int32} {a3 : Int32} {a12 : Int32} {a15 : Int32} {a16 : Int32} {w0 w17 w18 w19 w20 w21 : Value} {μ : am_Mu} {out : Int32 × am_Mu}, k525 a2 a3 a12 a15 a16 μ = some out → am_Ex (some (some (sL, sX))) (d + 7) 95 525 [w0, .ref 0, .int a2, .int a3, .ref 110, .ref 111, .ref 112, .ref 113, .ref 114, .ref 115, .ref 116, .ref 117, .int a12, .ref 118, .ref 119, .int a15, .int a16, w17, w18, w19, w20, w21] [] (am_SX (am_TL.take 12)) μ (some (.int out.1), (am_SX (am_TL.take 12)), out.2)) : ∀ {a2 : Int32} {a3 : Int32} {a12 : Int32} {a15 : Int32} {a16 : Int32} {w0 w17 w18 w19 w20 w21 : Value} {μ : am_Mu} {out : Int32 × am_Mu}, fL_law_637 sL sX k455 k525 a2 a3 a12 a15 a16 μ = some out → am_Ex (some (some (sL, sX))) (d + 7) 95 637 [w0, .ref 0, .int a2, .int a3, .ref 110, .ref 111, .ref 112, .ref 113, .ref 114, .ref 115, .ref 116, .ref 117, .int a12, .ref 118, .ref 119, .int a15, .int a16, w17, w18, w19, w20, w21] [] (am_SX (am_TL.take 12)) μ (some (.int out.1), (am_SX (am_TL.take 12)), out.2) := by
  intro a2 a3 a12 a15 a16 w0 w17 w18 w19 w20 w21 μ out h
  unfold fL_law_637 at h
  refine am_Ex.seg 1 640 [w0, .ref 0, .int a2, .int a3, .ref 110, .ref 111, .ref 112, .ref 113, .ref 114, .ref 115, .ref 116, .ref 117, .int a12, .ref 118, .ref 119, .int a15, .int (a16 + 1), w17, w18, w19, w20, w21] [] μ (fun _ => rfl) ?_
  refine am_Ex.goto rfl ?_
  exact hk525 h
set_option maxRecDepth 20000 in
set_option maxHeartbeats 1000000 in
theorem e_fL_law_631 {sL : Nat} {sX : Nat → Int32} (d : Nat) {k455 : Int32 → Int32 → Int32 → Int32 → am_Mu → Option (Int32 × am_Mu)} {k525 : Int32 → Int32 → Int32 → Int32 → Int32 → am_Mu → Option (Int32 × am_Mu)} {k588 : Int32 → Int32 → Int32 → Int32 → Int32 → Int32 → am_Mu → Option (Int32 × am_Mu)} (hk455 : ∀ {a2 : Int32} {a3 : Int32} {a12 : Int32} {a15 : Int32} {w0 w16 w17 w18 w19 w20 w21 : Value} {μ : am_Mu} {out : Int32 × am_Mu}, k455 a2 a3 a12 a15 μ = some out → am_Ex (some (some (sL, sX))) (d + 7) 95 455 [w0, .ref 0, .int a2, .int a3, .ref 110, .ref 111, .ref 112, .ref 113, .ref 114, .ref 115, .ref 116, .ref 117, .int a12, .ref 118, .ref 119, .int a15, w16, w17, w18, w19, w20, w21] [] (am_SX (am_TL.take 12)) μ (some (.int out.1), (am_SX (am_TL.take 12)), out.2)) (hk525 : ∀ {a2 : Int32} {a3 : Int32} {a12 : Int32} {a15 : Int32} {a16 : Int32} {w0 w17 w18 w19 w20 w21 : Value} {μ : am_Mu} {out : Int32 × am_Mu}, k525 a2 a3 a12 a15 a16 μ = some out → am_Ex (some (some (sL, sX))) (d + 7) 95 525 [w0, .ref 0, .int a2, .int a3, .ref 110, .ref 111, .ref 112, .ref 113, .ref 114, .ref 115, .ref 116, .ref 117, .int a12, .ref 118, .ref 119, .int a15, .int a16, w17, w18, w19, w20, w21] [] (am_SX (am_TL.take 12)) μ (some (.int out.1), (am_SX (am_TL.take 12)), out.2)) (hk588 : ∀ {a2 : Int32} {a3 : Int32} {a12 : Int32} {a15 : Int32} {a16 : Int32} {a17 : Int32} {w0 w18 w19 w20 w21 : Value} {μ : am_Mu} {out : Int32 × am_Mu}, k588 a2 a3 a12 a15 a16 a17 μ = some out → am_Ex (some (some (sL, sX))) (d + 7) 95 588 [w0, .ref 0, .int a2, .int a3, .ref 110, .ref 111, .ref 112, .ref 113, .ref 114, .ref 115, .ref 116, .ref 117, .int a12, .ref 118, .ref 119, .int a15, .int a16, .int a17, w18, w19, w20, w21] [] (am_SX (am_TL.take 12)) μ (some (.int out.1), (am_SX (am_TL.take 12)), out.2)) : ∀ {a2 : Int32} {a3 : Int32} {a12 : Int32} {a15 : Int32} {a16 : Int32} {a17 : Int32} {w0 w18 w19 w20 w21 : Value} {μ : am_Mu} {out : Int32 × am_Mu}, fL_law_631 sL sX k455 k525 k588 a2 a3 a12 a15 a16 a17 μ = some out → am_Ex (some (some (sL, sX))) (d + 7) 95 631 [w0, .ref 0, .int a2, .int a3, .ref 110, .ref 111, .ref 112, .ref 113, .ref 114, .ref 115, .ref 116, .ref 117, .int a12, .ref 118, .ref 119, .int a15, .int a16, .int a17, w18, w19, w20, w21] [] (am_SX (am_TL.take 12)) μ (some (.int out.1), (am_SX (am_TL.take 12)), out.2) := by
  intro a2 a3 a12 a15 a16 a17 w0 w18 w19 w20 w21 μ out h
  unfold fL_law_631 at h
  refine am_Ex.seg 1 634 [w0, .ref 0, .int a2, .int a3, .ref 110, .ref 111, .ref 112, .ref 113, .ref 114, .ref 115, .ref 116, .ref 117, .int a12, .ref 118, .ref 119, .int a15, .int a16, .int (a17 + 1), w18, w19, w20, w21] [] μ (fun _ => rfl) ?_
  refine am_Ex.goto rfl ?_
  exact hk588 h
set_option maxRecDepth 20000 in
set_option maxHeartbeats 1000000 in
theorem e_fL_law_588 {sL : Nat} {sX : Nat → Int32} (d : Nat) {k455 : Int32 → Int32 → Int32 → Int32 → am_Mu → Option (Int32 × am_Mu)} {k525 : Int32 → Int32 → Int32 → Int32 → Int32 → am_Mu → Option (Int32 × am_Mu)} (hk455 : ∀ {a2 : Int32} {a3 : Int32} {a12 : Int32} {a15 : Int32} {w0 w16 w17 w18 w19 w20 w21 : Value} {μ : am_Mu} {out : Int32 × am_Mu}, k455 a2 a3 a12 a15 μ = some out → am_Ex (some (some (sL, sX))) (d + 7) 95 455 [w0, .ref 0, .int a2, .int a3, .ref 110, .ref 111, .ref 112, .ref 113, .ref 114, .ref 115, .ref 116, .ref 117, .int a12, .ref 118, .ref 119, .int a15, w16, w17, w18, w19, w20, w21] [] (am_SX (am_TL.take 12)) μ (some (.int out.1), (am_SX (am_TL.take 12)), out.2)) (hk525 : ∀ {a2 : Int32} {a3 : Int32} {a12 : Int32} {a15 : Int32} {a16 : Int32} {w0 w17 w18 w19 w20 w21 : Value} {μ : am_Mu} {out : Int32 × am_Mu}, k525 a2 a3 a12 a15 a16 μ = some out → am_Ex (some (some (sL, sX))) (d + 7) 95 525 [w0, .ref 0, .int a2, .int a3, .ref 110, .ref 111, .ref 112, .ref 113, .ref 114, .ref 115, .ref 116, .ref 117, .int a12, .ref 118, .ref 119, .int a15, .int a16, w17, w18, w19, w20, w21] [] (am_SX (am_TL.take 12)) μ (some (.int out.1), (am_SX (am_TL.take 12)), out.2)) : ∀ n : Nat, ∀ {a2 : Int32} {a3 : Int32} {a12 : Int32} {a15 : Int32} {a16 : Int32} {a17 : Int32} {w0 w18 w19 w20 w21 : Value} {μ : am_Mu} {out : Int32 × am_Mu}, fL_law_588 sL sX n k455 k525 a2 a3 a12 a15 a16 a17 μ = some out → am_Ex (some (some (sL, sX))) (d + 7) 95 588 [w0, .ref 0, .int a2, .int a3, .ref 110, .ref 111, .ref 112, .ref 113, .ref 114, .ref 115, .ref 116, .ref 117, .int a12, .ref 118, .ref 119, .int a15, .int a16, .int a17, w18, w19, w20, w21] [] (am_SX (am_TL.take 12)) μ (some (.int out.1), (am_SX (am_TL.take 12)), out.2) := by
  intro n
  induction n with
  | zero => intros; contradiction
  | succ n ih =>
    have hk588 : ∀ {a2 : Int32} {a3 : Int32} {a12 : Int32} {a15 : Int32} {a16 : Int32} {a17 : Int32} {w0 w18 w19 w20 w21 : Value} {μ : am_Mu} {out : Int32 × am_Mu}, (fL_law_588 sL sX n k455 k525) a2 a3 a12 a15 a16 a17 μ = some out → am_Ex (some (some (sL, sX))) (d + 7) 95 588 [w0, .ref 0, .int a2, .int a3, .ref 110, .ref 111, .ref 112, .ref 113, .ref 114, .ref 115, .ref 116, .ref 117, .int a12, .ref 118, .ref 119, .int a15, .int a16, .int a17, w18, w19, w20, w21] [] (am_SX (am_TL.take 12)) μ (some (.int out.1), (am_SX (am_TL.take 12)), out.2) := ih
    intro a2 a3 a12 a15 a16 a17 w0 w18 w19 w20 w21 μ out h
    unfold fL_law_588 at h
    refine am_Ex.seg 2 591 [w0, .ref 0, .int a2, .int a3, .ref 110, .ref 111, .ref 112, .ref 113, .ref 114, .ref 115, .ref 116, .ref 117, .int a12, .ref 118, .ref 119, .int a15, .int a16, .int a17, w18, w19, w20, w21] [.int a2, .int a17] μ (fun _ => rfl) ?_
    rcases am_ite h with ⟨q1, h⟩ | ⟨q1, h⟩
    · refine am_Ex.icmp_ge_t rfl q1 ?_
      exact e_fL_law_637 d hk455 hk525 h
    · refine am_Ex.icmp_ge_f rfl q1 ?_
      refine am_Ex.seg 2 598 [w0, .ref 0, .int a2, .int a3, .ref 110, .ref 111, .ref 112, .ref 113, .ref 114, .ref 115, .ref 116, .ref 117, .int a12, .ref 118, .ref 119, .int a15, .int a16, .int a17, w18, w19, w20, w21] [.int a17, .ref 117] μ (fun _ => rfl) ?_
      obtain ⟨q2, h⟩ := am_bif h
      refine am_Ex.iald (v := (μ 117 ((a17).toNatClampNeg))) rfl rfl rfl q2 rfl ?_
      rcases am_ite h with ⟨q3, h⟩ | ⟨q3, h⟩
      · refine am_Ex.if_ge_t rfl q3 ?_
        exact e_fL_law_631 d hk455 hk525 hk588 h
      · refine am_Ex.if_ge_f rfl q3 ?_
        refine am_Ex.seg 3 607 [w0, .ref 0, .int a2, .int a3, .ref 110, .ref 111, .ref 112, .ref 113, .ref 114, .ref 115, .ref 116, .ref 117, .int a12, .ref 118, .ref 119, .int a15, .int a16, .int a17, w18, w19, w20, w21] [.int 0, .ref 114, .int a17] μ (fun _ => rfl) ?_
        refine am_Ex.iald (v := (μ 114 0)) rfl rfl rfl rfl rfl ?_
        rcases am_ite h with ⟨q4, h⟩ | ⟨q4, h⟩
        · refine am_Ex.icmp_eq_t rfl q4 ?_
          exact e_fL_law_631 d hk455 hk525 hk588 h
        · refine am_Ex.icmp_eq_f rfl q4 ?_
          refine am_Ex.seg 2 615 [w0, .ref 0, .int a2, .int a3, .ref 110, .ref 111, .ref 112, .ref 113, .ref 114, .ref 115, .ref 116, .ref 117, .int a12, .ref 118, .ref 119, .int a15, .int a16, .int a17, w18, w19, w20, w21] [.int a17, .ref 115] μ (fun _ => rfl) ?_
          refine am_Ex.iald (v := (μ 115 ((a17).toNatClampNeg))) rfl rfl rfl q2 rfl ?_
          refine am_Ex.seg 2 620 [w0, .ref 0, .int a2, .int a3, .ref 110, .ref 111, .ref 112, .ref 113, .ref 114, .ref 115, .ref 116, .ref 117, .int a12, .ref 118, .ref 119, .int a15, .int a16, .int a17, w18, w19, w20, w21] [.int a17, .ref 116, .int (μ 115 ((a17).toNatClampNeg))] μ (fun _ => rfl) ?_
          refine am_Ex.iald (v := (μ 116 ((a17).toNatClampNeg))) rfl rfl rfl q2 rfl ?_
          rcases am_ite h with ⟨q5, h⟩ | ⟨q5, h⟩
          · refine am_Ex.icmp_eq_t rfl q5 ?_
            exact e_fL_law_631 d hk455 hk525 hk588 h
          · refine am_Ex.icmp_eq_f rfl q5 ?_
            refine am_Ex.seg 3 630 [w0, .ref 0, .int a2, .int a3, .ref 110, .ref 111, .ref 112, .ref 113, .ref 114, .ref 115, .ref 116, .ref 117, .int a12, .ref 118, .ref 119, .int a15, .int a16, .int a17, w18, w19, w20, w21] [.int a16, .int a17, .ref 117] μ (fun _ => rfl) ?_
            refine am_Ex.iast (v2 := a16) (i2 := (a17).toNatClampNeg) rfl rfl q2 rfl rfl ?_
            exact e_fL_law_631 d hk455 hk525 hk588 h
set_option maxRecDepth 20000 in
set_option maxHeartbeats 1000000 in
theorem e_fL_law_525 {sL : Nat} {sX : Nat → Int32} (d : Nat) {k455 : Int32 → Int32 → Int32 → Int32 → am_Mu → Option (Int32 × am_Mu)} (hk455 : ∀ {a2 : Int32} {a3 : Int32} {a12 : Int32} {a15 : Int32} {w0 w16 w17 w18 w19 w20 w21 : Value} {μ : am_Mu} {out : Int32 × am_Mu}, k455 a2 a3 a12 a15 μ = some out → am_Ex (some (some (sL, sX))) (d + 7) 95 455 [w0, .ref 0, .int a2, .int a3, .ref 110, .ref 111, .ref 112, .ref 113, .ref 114, .ref 115, .ref 116, .ref 117, .int a12, .ref 118, .ref 119, .int a15, w16, w17, w18, w19, w20, w21] [] (am_SX (am_TL.take 12)) μ (some (.int out.1), (am_SX (am_TL.take 12)), out.2)) : ∀ n : Nat, ∀ {a2 : Int32} {a3 : Int32} {a12 : Int32} {a15 : Int32} {a16 : Int32} {w0 w17 w18 w19 w20 w21 : Value} {μ : am_Mu} {out : Int32 × am_Mu}, fL_law_525 sL sX n k455 a2 a3 a12 a15 a16 μ = some out → am_Ex (some (some (sL, sX))) (d + 7) 95 525 [w0, .ref 0, .int a2, .int a3, .ref 110, .ref 111, .ref 112, .ref 113, .ref 114, .ref 115, .ref 116, .ref 117, .int a12, .ref 118, .ref 119, .int a15, .int a16, w17, w18, w19, w20, w21] [] (am_SX (am_TL.take 12)) μ (some (.int out.1), (am_SX (am_TL.take 12)), out.2) := by
  intro n
  induction n with
  | zero => intros; contradiction
  | succ n ih =>
    have hk525 : ∀ {a2 : Int32} {a3 : Int32} {a12 : Int32} {a15 : Int32} {a16 : Int32} {w0 w17 w18 w19 w20 w21 : Value} {μ : am_Mu} {out : Int32 × am_Mu}, (fL_law_525 sL sX n k455) a2 a3 a12 a15 a16 μ = some out → am_Ex (some (some (sL, sX))) (d + 7) 95 525 [w0, .ref 0, .int a2, .int a3, .ref 110, .ref 111, .ref 112, .ref 113, .ref 114, .ref 115, .ref 116, .ref 117, .int a12, .ref 118, .ref 119, .int a15, .int a16, w17, w18, w19, w20, w21] [] (am_SX (am_TL.take 12)) μ (some (.int out.1), (am_SX (am_TL.take 12)), out.2) := ih
    intro a2 a3 a12 a15 a16 w0 w17 w18 w19 w20 w21 μ out h
    unfold fL_law_525 at h
    refine am_Ex.seg 2 529 [w0, .ref 0, .int a2, .int a3, .ref 110, .ref 111, .ref 112, .ref 113, .ref 114, .ref 115, .ref 116, .ref 117, .int a12, .ref 118, .ref 119, .int a15, .int a16, w17, w18, w19, w20, w21] [.int 14, .int a16] μ (fun _ => rfl) ?_
    rcases am_ite h with ⟨q1, h⟩ | ⟨q1, h⟩
    · refine am_Ex.icmp_ge_t rfl q1 ?_
      exact e_fL_law_643 d hk455 h
    · refine am_Ex.icmp_ge_f rfl q1 ?_
      refine am_Ex.seg 2 536 [w0, .ref 0, .int a2, .int a3, .ref 110, .ref 111, .ref 112, .ref 113, .ref 114, .ref 115, .ref 116, .ref 117, .int a12, .ref 118, .ref 119, .int a15, .int a16, w17, w18, w19, w20, w21] [.int a16, .ref 113] μ (fun _ => rfl) ?_
      obtain ⟨q2, h⟩ := am_bif h
      refine am_Ex.iald (v := (μ 113 ((a16).toNatClampNeg))) rfl rfl rfl q2 rfl ?_
      refine am_Ex.seg 1 539 [w0, .ref 0, .int a2, .int a3, .ref 110, .ref 111, .ref 112, .ref 113, .ref 114, .ref 115, .ref 116, .ref 117, .int a12, .ref 118, .ref 119, .int a15, .int a16, w17, w18, w19, w20, w21] [.int a15, .int (μ 113 ((a16).toNatClampNeg))] μ (fun _ => rfl) ?_
      rcases am_ite h with ⟨q3, h⟩ | ⟨q3, h⟩
      · refine am_Ex.icmp_eq_t rfl q3 ?_
        refine am_Ex.seg 2 549 [w0, .ref 0, .int a2, .int a3, .ref 110, .ref 111, .ref 112, .ref 113, .ref 114, .ref 115, .ref 116, .ref 117, .int a12, .ref 118, .ref 119, .int a15, .int a16, w17, w18, w19, w20, w21] [.int a16, .ref 110] μ (fun _ => rfl) ?_
        obtain ⟨q4, h⟩ := am_bif h
        refine am_Ex.iald (v := (μ 110 ((a16).toNatClampNeg))) rfl rfl rfl q4 rfl ?_
        refine am_Ex.seg 2 554 [w0, .ref 0, .int a2, .int a3, .ref 110, .ref 111, .ref 112, .ref 113, .ref 114, .ref 115, .ref 116, .ref 117, .int a12, .ref 118, .ref 119, .int a15, .int a16, w17, w18, w19, w20, w21] [.int a16, .ref 111, .int (μ 110 ((a16).toNatClampNeg))] μ (fun _ => rfl) ?_
        refine am_Ex.iald (v := (μ 111 ((a16).toNatClampNeg))) rfl rfl rfl q4 rfl ?_
        refine am_Ex.seg 2 559 [w0, .ref 0, .int a2, .int a3, .ref 110, .ref 111, .ref 112, .ref 113, .ref 114, .ref 115, .ref 116, .ref 117, .int a12, .ref 118, .ref 119, .int a15, .int a16, w17, w18, w19, w20, w21] [.int a16, .ref 112, .int (μ 111 ((a16).toNatClampNeg)), .int (μ 110 ((a16).toNatClampNeg))] μ (fun _ => rfl) ?_
        refine am_Ex.iald (v := (μ 112 ((a16).toNatClampNeg))) rfl rfl rfl q4 rfl ?_
        refine am_Ex.seg 1 562 [w0, .ref 0, .int a2, .int a3, .ref 110, .ref 111, .ref 112, .ref 113, .ref 114, .ref 115, .ref 116, .ref 117, .int a12, .ref 118, .ref 119, .int a15, .int a16, w17, w18, w19, w20, w21] [.ref 115, .int (μ 112 ((a16).toNatClampNeg)), .int (μ 111 ((a16).toNatClampNeg)), .int (μ 110 ((a16).toNatClampNeg))] μ (fun _ => rfl) ?_
        obtain ⟨q5, h_q5, h⟩ := am_bind h
        refine am_Ex.isk (na := 4) rfl (As := [.int (μ 110 ((a16).toNatClampNeg)), .int (μ 111 ((a16).toNatClampNeg)), .int (μ 112 ((a16).toNatClampNeg)), .ref 115]) rfl rfl rfl rfl rfl rfl (e_fL_goesW (d + 6) h_q5) ?_
        refine am_Ex.same 565 [w0, .ref 0, .int a2, .int a3, .ref 110, .ref 111, .ref 112, .ref 113, .ref 114, .ref 115, .ref 116, .ref 117, .int a12, .ref 118, .ref 119, .int a15, .int a16, w17, w18, w19, w20, w21] [] q5 rfl ?_
        refine am_Ex.seg 2 569 [w0, .ref 0, .int a2, .int a3, .ref 110, .ref 111, .ref 112, .ref 113, .ref 114, .ref 115, .ref 116, .ref 117, .int a12, .ref 118, .ref 119, .int a15, .int a16, w17, w18, w19, w20, w21] [.int a16, .ref 110] q5 (fun _ => rfl) ?_
        refine am_Ex.iald (v := (q5 110 ((a16).toNatClampNeg))) rfl rfl rfl q4 rfl ?_
        refine am_Ex.seg 2 574 [w0, .ref 0, .int a2, .int a3, .ref 110, .ref 111, .ref 112, .ref 113, .ref 114, .ref 115, .ref 116, .ref 117, .int a12, .ref 118, .ref 119, .int a15, .int a16, w17, w18, w19, w20, w21] [.int a16, .ref 111, .int (q5 110 ((a16).toNatClampNeg))] q5 (fun _ => rfl) ?_
        refine am_Ex.iald (v := (q5 111 ((a16).toNatClampNeg))) rfl rfl rfl q4 rfl ?_
        refine am_Ex.seg 2 579 [w0, .ref 0, .int a2, .int a3, .ref 110, .ref 111, .ref 112, .ref 113, .ref 114, .ref 115, .ref 116, .ref 117, .int a12, .ref 118, .ref 119, .int a15, .int a16, w17, w18, w19, w20, w21] [.int a16, .ref 112, .int (q5 111 ((a16).toNatClampNeg)), .int (q5 110 ((a16).toNatClampNeg))] q5 (fun _ => rfl) ?_
        refine am_Ex.iald (v := (q5 112 ((a16).toNatClampNeg))) rfl rfl rfl q4 rfl ?_
        refine am_Ex.seg 1 582 [w0, .ref 0, .int a2, .int a3, .ref 110, .ref 111, .ref 112, .ref 113, .ref 114, .ref 115, .ref 116, .ref 117, .int a12, .ref 118, .ref 119, .int a15, .int a16, w17, w18, w19, w20, w21] [.ref 116, .int (q5 112 ((a16).toNatClampNeg)), .int (q5 111 ((a16).toNatClampNeg)), .int (q5 110 ((a16).toNatClampNeg))] q5 (fun _ => rfl) ?_
        obtain ⟨q6, h_q6, h⟩ := am_bind h
        refine am_Ex.isk (na := 4) rfl (As := [.int (q5 110 ((a16).toNatClampNeg)), .int (q5 111 ((a16).toNatClampNeg)), .int (q5 112 ((a16).toNatClampNeg)), .ref 116]) rfl rfl rfl rfl rfl rfl (e_fL_goesL (d + 6) h_q6) ?_
        refine am_Ex.same 585 [w0, .ref 0, .int a2, .int a3, .ref 110, .ref 111, .ref 112, .ref 113, .ref 114, .ref 115, .ref 116, .ref 117, .int a12, .ref 118, .ref 119, .int a15, .int a16, w17, w18, w19, w20, w21] [] q6 rfl ?_
        refine am_Ex.seg 2 588 [w0, .ref 0, .int a2, .int a3, .ref 110, .ref 111, .ref 112, .ref 113, .ref 114, .ref 115, .ref 116, .ref 117, .int a12, .ref 118, .ref 119, .int a15, .int a16, .int 0, w18, w19, w20, w21] [] q6 (fun _ => rfl) ?_
        exact e_fL_law_588 d hk455 hk525 am_F h
      · refine am_Ex.icmp_eq_f rfl q3 ?_
        refine am_Ex.goto rfl ?_
        exact e_fL_law_637 d hk455 hk525 h
set_option maxRecDepth 20000 in
set_option maxHeartbeats 1000000 in
theorem e_fL_law_522 {sL : Nat} {sX : Nat → Int32} (d : Nat) {k455 : Int32 → Int32 → Int32 → Int32 → am_Mu → Option (Int32 × am_Mu)} (hk455 : ∀ {a2 : Int32} {a3 : Int32} {a12 : Int32} {a15 : Int32} {w0 w16 w17 w18 w19 w20 w21 : Value} {μ : am_Mu} {out : Int32 × am_Mu}, k455 a2 a3 a12 a15 μ = some out → am_Ex (some (some (sL, sX))) (d + 7) 95 455 [w0, .ref 0, .int a2, .int a3, .ref 110, .ref 111, .ref 112, .ref 113, .ref 114, .ref 115, .ref 116, .ref 117, .int a12, .ref 118, .ref 119, .int a15, w16, w17, w18, w19, w20, w21] [] (am_SX (am_TL.take 12)) μ (some (.int out.1), (am_SX (am_TL.take 12)), out.2)) : ∀ {a2 : Int32} {a3 : Int32} {a12 : Int32} {a15 : Int32} {w0 w16 w17 w18 w19 w20 w21 : Value} {μ : am_Mu} {out : Int32 × am_Mu}, fL_law_522 sL sX k455 a2 a3 a12 a15 μ = some out → am_Ex (some (some (sL, sX))) (d + 7) 95 522 [w0, .ref 0, .int a2, .int a3, .ref 110, .ref 111, .ref 112, .ref 113, .ref 114, .ref 115, .ref 116, .ref 117, .int a12, .ref 118, .ref 119, .int a15, w16, w17, w18, w19, w20, w21] [] (am_SX (am_TL.take 12)) μ (some (.int out.1), (am_SX (am_TL.take 12)), out.2) := by
  intro a2 a3 a12 a15 w0 w16 w17 w18 w19 w20 w21 μ out h
  unfold fL_law_522 at h
  refine am_Ex.seg 2 525 [w0, .ref 0, .int a2, .int a3, .ref 110, .ref 111, .ref 112, .ref 113, .ref 114, .ref 115, .ref 116, .ref 117, .int a12, .ref 118, .ref 119, .int a15, .int 0, w17, w18, w19, w20, w21] [] μ (fun _ => rfl) ?_
  exact e_fL_law_525 d hk455 am_F h
set_option maxRecDepth 20000 in
set_option maxHeartbeats 1000000 in
theorem e_fL_law_516 {sL : Nat} {sX : Nat → Int32} (d : Nat) {k455 : Int32 → Int32 → Int32 → Int32 → am_Mu → Option (Int32 × am_Mu)} {k465 : Int32 → Int32 → Int32 → Int32 → Int32 → am_Mu → Option (Int32 × am_Mu)} (hk455 : ∀ {a2 : Int32} {a3 : Int32} {a12 : Int32} {a15 : Int32} {w0 w16 w17 w18 w19 w20 w21 : Value} {μ : am_Mu} {out : Int32 × am_Mu}, k455 a2 a3 a12 a15 μ = some out → am_Ex (some (some (sL, sX))) (d + 7) 95 455 [w0, .ref 0, .int a2, .int a3, .ref 110, .ref 111, .ref 112, .ref 113, .ref 114, .ref 115, .ref 116, .ref 117, .int a12, .ref 118, .ref 119, .int a15, w16, w17, w18, w19, w20, w21] [] (am_SX (am_TL.take 12)) μ (some (.int out.1), (am_SX (am_TL.take 12)), out.2)) (hk465 : ∀ {a2 : Int32} {a3 : Int32} {a12 : Int32} {a15 : Int32} {a16 : Int32} {w0 w17 w18 w19 w20 w21 : Value} {μ : am_Mu} {out : Int32 × am_Mu}, k465 a2 a3 a12 a15 a16 μ = some out → am_Ex (some (some (sL, sX))) (d + 7) 95 465 [w0, .ref 0, .int a2, .int a3, .ref 110, .ref 111, .ref 112, .ref 113, .ref 114, .ref 115, .ref 116, .ref 117, .int a12, .ref 118, .ref 119, .int a15, .int a16, w17, w18, w19, w20, w21] [] (am_SX (am_TL.take 12)) μ (some (.int out.1), (am_SX (am_TL.take 12)), out.2)) : ∀ {a2 : Int32} {a3 : Int32} {a12 : Int32} {a15 : Int32} {a16 : Int32} {w0 w17 w18 w19 w20 w21 : Value} {μ : am_Mu} {out : Int32 × am_Mu}, fL_law_516 sL sX k455 k465 a2 a3 a12 a15 a16 μ = some out → am_Ex (some (some (sL, sX))) (d + 7) 95 516 [w0, .ref 0, .int a2, .int a3, .ref 110, .ref 111, .ref 112, .ref 113, .ref 114, .ref 115, .ref 116, .ref 117, .int a12, .ref 118, .ref 119, .int a15, .int a16, w17, w18, w19, w20, w21] [] (am_SX (am_TL.take 12)) μ (some (.int out.1), (am_SX (am_TL.take 12)), out.2) := by
  intro a2 a3 a12 a15 a16 w0 w17 w18 w19 w20 w21 μ out h
  unfold fL_law_516 at h
  refine am_Ex.seg 1 519 [w0, .ref 0, .int a2, .int a3, .ref 110, .ref 111, .ref 112, .ref 113, .ref 114, .ref 115, .ref 116, .ref 117, .int a12, .ref 118, .ref 119, .int a15, .int (a16 + 1), w17, w18, w19, w20, w21] [] μ (fun _ => rfl) ?_
  refine am_Ex.goto rfl ?_
  exact hk465 h
set_option maxRecDepth 20000 in
set_option maxHeartbeats 1000000 in
theorem e_fL_law_465 {sL : Nat} {sX : Nat → Int32} (d : Nat) {k455 : Int32 → Int32 → Int32 → Int32 → am_Mu → Option (Int32 × am_Mu)} (hk455 : ∀ {a2 : Int32} {a3 : Int32} {a12 : Int32} {a15 : Int32} {w0 w16 w17 w18 w19 w20 w21 : Value} {μ : am_Mu} {out : Int32 × am_Mu}, k455 a2 a3 a12 a15 μ = some out → am_Ex (some (some (sL, sX))) (d + 7) 95 455 [w0, .ref 0, .int a2, .int a3, .ref 110, .ref 111, .ref 112, .ref 113, .ref 114, .ref 115, .ref 116, .ref 117, .int a12, .ref 118, .ref 119, .int a15, w16, w17, w18, w19, w20, w21] [] (am_SX (am_TL.take 12)) μ (some (.int out.1), (am_SX (am_TL.take 12)), out.2)) : ∀ n : Nat, ∀ {a2 : Int32} {a3 : Int32} {a12 : Int32} {a15 : Int32} {a16 : Int32} {w0 w17 w18 w19 w20 w21 : Value} {μ : am_Mu} {out : Int32 × am_Mu}, fL_law_465 sL sX n k455 a2 a3 a12 a15 a16 μ = some out → am_Ex (some (some (sL, sX))) (d + 7) 95 465 [w0, .ref 0, .int a2, .int a3, .ref 110, .ref 111, .ref 112, .ref 113, .ref 114, .ref 115, .ref 116, .ref 117, .int a12, .ref 118, .ref 119, .int a15, .int a16, w17, w18, w19, w20, w21] [] (am_SX (am_TL.take 12)) μ (some (.int out.1), (am_SX (am_TL.take 12)), out.2) := by
  intro n
  induction n with
  | zero => intros; contradiction
  | succ n ih =>
    have hk465 : ∀ {a2 : Int32} {a3 : Int32} {a12 : Int32} {a15 : Int32} {a16 : Int32} {w0 w17 w18 w19 w20 w21 : Value} {μ : am_Mu} {out : Int32 × am_Mu}, (fL_law_465 sL sX n k455) a2 a3 a12 a15 a16 μ = some out → am_Ex (some (some (sL, sX))) (d + 7) 95 465 [w0, .ref 0, .int a2, .int a3, .ref 110, .ref 111, .ref 112, .ref 113, .ref 114, .ref 115, .ref 116, .ref 117, .int a12, .ref 118, .ref 119, .int a15, .int a16, w17, w18, w19, w20, w21] [] (am_SX (am_TL.take 12)) μ (some (.int out.1), (am_SX (am_TL.take 12)), out.2) := ih
    intro a2 a3 a12 a15 a16 w0 w17 w18 w19 w20 w21 μ out h
    unfold fL_law_465 at h
    refine am_Ex.seg 2 468 [w0, .ref 0, .int a2, .int a3, .ref 110, .ref 111, .ref 112, .ref 113, .ref 114, .ref 115, .ref 116, .ref 117, .int a12, .ref 118, .ref 119, .int a15, .int a16, w17, w18, w19, w20, w21] [.int 2, .int a16] μ (fun _ => rfl) ?_
    rcases am_ite h with ⟨q1, h⟩ | ⟨q1, h⟩
    · refine am_Ex.icmp_ge_t rfl q1 ?_
      exact e_fL_law_522 d hk455 h
    · refine am_Ex.icmp_ge_f rfl q1 ?_
      refine am_Ex.seg 4 478 [w0, .ref 0, .int a2, .int a3, .ref 110, .ref 111, .ref 112, .ref 113, .ref 114, .ref 115, .ref 116, .ref 117, .int a12, .ref 118, .ref 119, .int a15, .int a16, w17, w18, w19, w20, w21] [.int ((16 : Int32) + a16), .ref 113] μ (fun _ => rfl) ?_
      obtain ⟨q2, h⟩ := am_bif h
      refine am_Ex.iald (v := (μ 113 ((((16 : Int32) + a16)).toNatClampNeg))) rfl rfl rfl q2 rfl ?_
      refine am_Ex.seg 1 481 [w0, .ref 0, .int a2, .int a3, .ref 110, .ref 111, .ref 112, .ref 113, .ref 114, .ref 115, .ref 116, .ref 117, .int a12, .ref 118, .ref 119, .int a15, .int a16, w17, w18, w19, w20, w21] [.int a15, .int (μ 113 ((((16 : Int32) + a16)).toNatClampNeg))] μ (fun _ => rfl) ?_
      rcases am_ite h with ⟨q3, h⟩ | ⟨q3, h⟩
      · refine am_Ex.icmp_eq_t rfl q3 ?_
        refine am_Ex.seg 3 493 [w0, .ref 0, .int a2, .int a3, .ref 110, .ref 111, .ref 112, .ref 113, .ref 114, .ref 115, .ref 116, .ref 117, .int a12, .ref 118, .ref 119, .int a15, .int a16, w17, w18, w19, w20, w21] [.int a16, .ref 114, .ref 115] μ (fun _ => rfl) ?_
        obtain ⟨q4, h⟩ := am_bif h
        refine am_Ex.iald (v := (μ 114 ((a16).toNatClampNeg))) rfl rfl rfl q4 rfl ?_
        refine am_Ex.seg 1 495 [w0, .ref 0, .int a2, .int a3, .ref 110, .ref 111, .ref 112, .ref 113, .ref 114, .ref 115, .ref 116, .ref 117, .int a12, .ref 118, .ref 119, .int a15, .int a16, w17, w18, w19, w20, w21] [.int (μ 114 ((a16).toNatClampNeg)), .ref 115, .int (μ 114 ((a16).toNatClampNeg)), .ref 115] μ (fun _ => rfl) ?_
        obtain ⟨q5, h⟩ := am_bif h
        refine am_Ex.iald (v := (μ 115 (((μ 114 ((a16).toNatClampNeg))).toNatClampNeg))) rfl rfl rfl q5 rfl ?_
        refine am_Ex.seg 2 498 [w0, .ref 0, .int a2, .int a3, .ref 110, .ref 111, .ref 112, .ref 113, .ref 114, .ref 115, .ref 116, .ref 117, .int a12, .ref 118, .ref 119, .int a15, .int a16, w17, w18, w19, w20, w21] [.int ((μ 115 (((μ 114 ((a16).toNatClampNeg))).toNatClampNeg)) ||| 1), .int (μ 114 ((a16).toNatClampNeg)), .ref 115] μ (fun _ => rfl) ?_
        refine am_Ex.iast (v2 := ((μ 115 (((μ 114 ((a16).toNatClampNeg))).toNatClampNeg)) ||| 1)) (i2 := ((μ 114 ((a16).toNatClampNeg))).toNatClampNeg) rfl rfl q5 rfl rfl ?_
        refine am_Ex.seg 1 501 [w0, .ref 0, .int a2, .int a3, .ref 110, .ref 111, .ref 112, .ref 113, .ref 114, .ref 115, .ref 116, .ref 117, .int a12, .ref 118, .ref 119, .int a15, .int a16, w17, w18, w19, w20, w21] [.int a16] (am_up μ 115 (((μ 114 ((a16).toNatClampNeg))).toNatClampNeg) ((μ 115 (((μ 114 ((a16).toNatClampNeg))).toNatClampNeg)) ||| 1)) (fun _ => rfl) ?_
        rcases am_ite h with ⟨q6, h⟩ | ⟨q6, h⟩
        · refine am_Ex.if_le_t rfl q6 ?_
          exact e_fL_law_516 d hk455 hk465 h
        · refine am_Ex.if_le_f rfl q6 ?_
          refine am_Ex.seg 3 510 [w0, .ref 0, .int a2, .int a3, .ref 110, .ref 111, .ref 112, .ref 113, .ref 114, .ref 115, .ref 116, .ref 117, .int a12, .ref 118, .ref 119, .int a15, .int a16, w17, w18, w19, w20, w21] [.int a16, .ref 114, .ref 116] (am_up μ 115 (((μ 114 ((a16).toNatClampNeg))).toNatClampNeg) ((μ 115 (((μ 114 ((a16).toNatClampNeg))).toNatClampNeg)) ||| 1)) (fun _ => rfl) ?_
          refine am_Ex.iald (v := (μ 114 ((a16).toNatClampNeg))) rfl rfl rfl q4 ((am_up_k (by decide)).trans rfl) ?_
          refine am_Ex.seg 1 512 [w0, .ref 0, .int a2, .int a3, .ref 110, .ref 111, .ref 112, .ref 113, .ref 114, .ref 115, .ref 116, .ref 117, .int a12, .ref 118, .ref 119, .int a15, .int a16, w17, w18, w19, w20, w21] [.int (μ 114 ((a16).toNatClampNeg)), .ref 116, .int (μ 114 ((a16).toNatClampNeg)), .ref 116] (am_up μ 115 (((μ 114 ((a16).toNatClampNeg))).toNatClampNeg) ((μ 115 (((μ 114 ((a16).toNatClampNeg))).toNatClampNeg)) ||| 1)) (fun _ => rfl) ?_
          refine am_Ex.iald (v := (μ 116 (((μ 114 ((a16).toNatClampNeg))).toNatClampNeg))) rfl rfl rfl q5 ((am_up_k (by decide)).trans rfl) ?_
          refine am_Ex.seg 2 515 [w0, .ref 0, .int a2, .int a3, .ref 110, .ref 111, .ref 112, .ref 113, .ref 114, .ref 115, .ref 116, .ref 117, .int a12, .ref 118, .ref 119, .int a15, .int a16, w17, w18, w19, w20, w21] [.int ((μ 116 (((μ 114 ((a16).toNatClampNeg))).toNatClampNeg)) ||| 1), .int (μ 114 ((a16).toNatClampNeg)), .ref 116] (am_up μ 115 (((μ 114 ((a16).toNatClampNeg))).toNatClampNeg) ((μ 115 (((μ 114 ((a16).toNatClampNeg))).toNatClampNeg)) ||| 1)) (fun _ => rfl) ?_
          refine am_Ex.iast (v2 := ((μ 116 (((μ 114 ((a16).toNatClampNeg))).toNatClampNeg)) ||| 1)) (i2 := ((μ 114 ((a16).toNatClampNeg))).toNatClampNeg) rfl rfl q5 rfl rfl ?_
          exact e_fL_law_516 d hk455 hk465 h
      · refine am_Ex.icmp_eq_f rfl q3 ?_
        refine am_Ex.goto rfl ?_
        exact e_fL_law_516 d hk455 hk465 h
set_option maxRecDepth 20000 in
set_option maxHeartbeats 1000000 in
theorem e_fL_law_455 {sL : Nat} {sX : Nat → Int32} (d : Nat) : ∀ n : Nat, ∀ {a2 : Int32} {a3 : Int32} {a12 : Int32} {a15 : Int32} {w0 w16 w17 w18 w19 w20 w21 : Value} {μ : am_Mu} {out : Int32 × am_Mu}, fL_law_455 sL sX n a2 a3 a12 a15 μ = some out → am_Ex (some (some (sL, sX))) (d + 7) 95 455 [w0, .ref 0, .int a2, .int a3, .ref 110, .ref 111, .ref 112, .ref 113, .ref 114, .ref 115, .ref 116, .ref 117, .int a12, .ref 118, .ref 119, .int a15, w16, w17, w18, w19, w20, w21] [] (am_SX (am_TL.take 12)) μ (some (.int out.1), (am_SX (am_TL.take 12)), out.2) := by
  intro n
  induction n with
  | zero => intros; contradiction
  | succ n ih =>
    have hk455 : ∀ {a2 : Int32} {a3 : Int32} {a12 : Int32} {a15 : Int32} {w0 w16 w17 w18 w19 w20 w21 : Value} {μ : am_Mu} {out : Int32 × am_Mu}, (fL_law_455 sL sX n) a2 a3 a12 a15 μ = some out → am_Ex (some (some (sL, sX))) (d + 7) 95 455 [w0, .ref 0, .int a2, .int a3, .ref 110, .ref 111, .ref 112, .ref 113, .ref 114, .ref 115, .ref 116, .ref 117, .int a12, .ref 118, .ref 119, .int a15, w16, w17, w18, w19, w20, w21] [] (am_SX (am_TL.take 12)) μ (some (.int out.1), (am_SX (am_TL.take 12)), out.2) := ih
    intro a2 a3 a12 a15 w0 w16 w17 w18 w19 w20 w21 μ out h
    unfold fL_law_455 at h
    refine am_Ex.seg 2 459 [w0, .ref 0, .int a2, .int a3, .ref 110, .ref 111, .ref 112, .ref 113, .ref 114, .ref 115, .ref 116, .ref 117, .int a12, .ref 118, .ref 119, .int a15, w16, w17, w18, w19, w20, w21] [.int 60, .int a15] μ (fun _ => rfl) ?_
    rcases am_ite h with ⟨q1, h⟩ | ⟨q1, h⟩
    · refine am_Ex.icmp_ge_t rfl q1 ?_
      exact e_fL_law_691 d h
    · refine am_Ex.icmp_ge_f rfl q1 ?_
      refine am_Ex.seg 2 465 [w0, .ref 0, .int a2, .int a3, .ref 110, .ref 111, .ref 112, .ref 113, .ref 114, .ref 115, .ref 116, .ref 117, .int a12, .ref 118, .ref 119, .int a15, .int 0, w17, w18, w19, w20, w21] [] μ (fun _ => rfl) ?_
      exact e_fL_law_465 d hk455 am_F h
set_option maxRecDepth 20000 in
set_option maxHeartbeats 1000000 in
theorem e_fL_law_424 {sL : Nat} {sX : Nat → Int32} (d : Nat) : ∀ {a2 : Int32} {a3 : Int32} {w12 w13 w14 w15 w16 w17 w18 w19 w20 w21 : Value} {μ : am_Mu} {out : Int32 × am_Mu}, fL_law_424 sL sX a2 a3 μ = some out → am_Ex (some (some (sL, sX))) (d + 7) 95 424 [.ref am_SCR, .ref 0, .int a2, .int a3, .ref 110, .ref 111, .ref 112, .ref 113, .ref 114, .ref 115, .ref 116, .ref 117, w12, w13, w14, w15, w16, w17, w18, w19, w20, w21] [] (am_SX (am_TL.take 10)) μ (some (.int out.1), (am_SX (am_TL.take 12)), out.2) := by
  intro a2 a3 w12 w13 w14 w15 w16 w17 w18 w19 w20 w21 μ out h
  unfold fL_law_424 at h
  refine am_Ex.seg 3 429 [.ref am_SCR, .ref 0, .int a2, .int a3, .ref 110, .ref 111, .ref 112, .ref 113, .ref 114, .ref 115, .ref 116, .ref 117, w12, w13, w14, w15, w16, w17, w18, w19, w20, w21] [.int 17, .ref am_SCR, .int 10] μ (fun _ => rfl) ?_
  obtain ⟨q1, h_q1, h⟩ := am_bind h
  refine am_Ex.iskc (na := 2) rfl (As := [.ref am_SCR, .int 17]) rfl rfl rfl rfl rfl rfl (e_fL_cell (d + 6) h_q1) ?_
  refine am_Ex.same 432 [.ref am_SCR, .ref 0, .int a2, .int a3, .ref 110, .ref 111, .ref 112, .ref 113, .ref 114, .ref 115, .ref 116, .ref 117, w12, w13, w14, w15, w16, w17, w18, w19, w20, w21] [.int q1.1, .int 10] q1.2 rfl ?_
  refine am_Ex.seg 1 434 [.ref am_SCR, .ref 0, .int a2, .int a3, .ref 110, .ref 111, .ref 112, .ref 113, .ref 114, .ref 115, .ref 116, .ref 117, w12, w13, w14, w15, w16, w17, w18, w19, w20, w21] [.int 45, .int q1.1, .int 10] q1.2 (fun _ => rfl) ?_
  obtain ⟨q2, h_q2, h⟩ := am_bind h
  refine am_Ex.isk (na := 2) rfl (As := [.int q1.1, .int 45]) rfl rfl rfl rfl rfl rfl (e_fL_pick (d + 6) h_q2) ?_
  refine am_Ex.same 437 [.ref am_SCR, .ref 0, .int a2, .int a3, .ref 110, .ref 111, .ref 112, .ref 113, .ref 114, .ref 115, .ref 116, .ref 117, w12, w13, w14, w15, w16, w17, w18, w19, w20, w21] [.int q2.1, .int 10] q2.2 rfl ?_
  refine am_Ex.seg 3 442 [.ref am_SCR, .ref 0, .int a2, .int a3, .ref 110, .ref 111, .ref 112, .ref 113, .ref 114, .ref 115, .ref 116, .ref 117, .int ((10 : Int32) + q2.1), w13, w14, w15, w16, w17, w18, w19, w20, w21] [.int 6] q2.2 (fun _ => rfl) ?_
  refine am_Ex.newa (n := 118) (L1 := [.ref am_SCR, .ref 0, .int a2, .int a3, .ref 110, .ref 111, .ref 112, .ref 113, .ref 114, .ref 115, .ref 116, .ref 117, .int ((10 : Int32) + q2.1), (am_mk 118 w13), (am_mk 118 w14), (am_mk 118 w15), (am_mk 118 w16), (am_mk 118 w17), (am_mk 118 w18), (am_mk 118 w19), (am_mk 118 w20), (am_mk 118 w21)]) (sh1 := (am_SX (am_TL.take 11))) rfl rfl (by decide +kernel) rfl rfl rfl ?_
  refine am_Ex.seg 2 448 [.ref am_SCR, .ref 0, .int a2, .int a3, .ref 110, .ref 111, .ref 112, .ref 113, .ref 114, .ref 115, .ref 116, .ref 117, .int ((10 : Int32) + q2.1), .ref 118, (am_mk 118 w14), (am_mk 118 w15), (am_mk 118 w16), (am_mk 118 w17), (am_mk 118 w18), (am_mk 118 w19), (am_mk 118 w20), (am_mk 118 w21)] [.int 6] (am_row q2.2 118 (fun _ => 0)) (fun _ => rfl) ?_
  refine am_Ex.newa (n := 119) (L1 := [.ref am_SCR, .ref 0, .int a2, .int a3, .ref 110, .ref 111, .ref 112, .ref 113, .ref 114, .ref 115, .ref 116, .ref 117, .int ((10 : Int32) + q2.1), .ref 118, (am_mk 119 (am_mk 118 w14)), (am_mk 119 (am_mk 118 w15)), (am_mk 119 (am_mk 118 w16)), (am_mk 119 (am_mk 118 w17)), (am_mk 119 (am_mk 118 w18)), (am_mk 119 (am_mk 118 w19)), (am_mk 119 (am_mk 118 w20)), (am_mk 119 (am_mk 118 w21))]) (sh1 := (am_SX (am_TL.take 12))) rfl rfl (by decide +kernel) rfl rfl rfl ?_
  refine am_Ex.seg 3 455 [.ref am_SCR, .ref 0, .int a2, .int a3, .ref 110, .ref 111, .ref 112, .ref 113, .ref 114, .ref 115, .ref 116, .ref 117, .int ((10 : Int32) + q2.1), .ref 118, .ref 119, .int 0, (am_mk 119 (am_mk 118 w16)), (am_mk 119 (am_mk 118 w17)), (am_mk 119 (am_mk 118 w18)), (am_mk 119 (am_mk 118 w19)), (am_mk 119 (am_mk 118 w20)), (am_mk 119 (am_mk 118 w21))] [] (am_row (am_row q2.2 118 (fun _ => 0)) 119 (fun _ => 0)) (fun _ => rfl) ?_
  exact e_fL_law_455 d am_F h
set_option maxRecDepth 20000 in
set_option maxHeartbeats 1000000 in
theorem e_fL_law_406 {sL : Nat} {sX : Nat → Int32} (d : Nat) : ∀ n : Nat, ∀ {a2 : Int32} {a3 : Int32} {a12 : Int32} {w13 w14 w15 w16 w17 w18 w19 w20 w21 : Value} {μ : am_Mu} {out : Int32 × am_Mu}, fL_law_406 sL sX n a2 a3 a12 μ = some out → am_Ex (some (some (sL, sX))) (d + 7) 95 406 [.ref am_SCR, .ref 0, .int a2, .int a3, .ref 110, .ref 111, .ref 112, .ref 113, .ref 114, .ref 115, .ref 116, .ref 117, .int a12, w13, w14, w15, w16, w17, w18, w19, w20, w21] [] (am_SX (am_TL.take 10)) μ (some (.int out.1), (am_SX (am_TL.take 12)), out.2) := by
  intro n
  induction n with
  | zero => intros; contradiction
  | succ n ih =>
    have hk406 : ∀ {a2 : Int32} {a3 : Int32} {a12 : Int32} {w13 w14 w15 w16 w17 w18 w19 w20 w21 : Value} {μ : am_Mu} {out : Int32 × am_Mu}, (fL_law_406 sL sX n) a2 a3 a12 μ = some out → am_Ex (some (some (sL, sX))) (d + 7) 95 406 [.ref am_SCR, .ref 0, .int a2, .int a3, .ref 110, .ref 111, .ref 112, .ref 113, .ref 114, .ref 115, .ref 116, .ref 117, .int a12, w13, w14, w15, w16, w17, w18, w19, w20, w21] [] (am_SX (am_TL.take 10)) μ (some (.int out.1), (am_SX (am_TL.take 12)), out.2) := ih
    intro a2 a3 a12 w13 w14 w15 w16 w17 w18 w19 w20 w21 μ out h
    unfold fL_law_406 at h
    refine am_Ex.seg 2 409 [.ref am_SCR, .ref 0, .int a2, .int a3, .ref 110, .ref 111, .ref 112, .ref 113, .ref 114, .ref 115, .ref 116, .ref 117, .int a12, w13, w14, w15, w16, w17, w18, w19, w20, w21] [.int a2, .int a12] μ (fun _ => rfl) ?_
    rcases am_ite h with ⟨q1, h⟩ | ⟨q1, h⟩
    · refine am_Ex.icmp_ge_t rfl q1 ?_
      exact e_fL_law_424 d h
    · refine am_Ex.icmp_ge_f rfl q1 ?_
      refine am_Ex.seg 3 417 [.ref am_SCR, .ref 0, .int a2, .int a3, .ref 110, .ref 111, .ref 112, .ref 113, .ref 114, .ref 115, .ref 116, .ref 117, .int a12, w13, w14, w15, w16, w17, w18, w19, w20, w21] [.int (-1), .int a12, .ref 117] μ (fun _ => rfl) ?_
      obtain ⟨q2, h⟩ := am_bif h
      refine am_Ex.iast (v2 := (-1)) (i2 := (a12).toNatClampNeg) rfl rfl q2 rfl rfl ?_
      refine am_Ex.seg 1 421 [.ref am_SCR, .ref 0, .int a2, .int a3, .ref 110, .ref 111, .ref 112, .ref 113, .ref 114, .ref 115, .ref 116, .ref 117, .int (a12 + 1), w13, w14, w15, w16, w17, w18, w19, w20, w21] [] (am_up μ 117 ((a12).toNatClampNeg) (-1)) (fun _ => rfl) ?_
      refine am_Ex.goto rfl ?_
      exact hk406 h
set_option maxRecDepth 20000 in
set_option maxHeartbeats 1000000 in
theorem e_fL_law_385 {sL : Nat} {sX : Nat → Int32} (d : Nat) : ∀ {a2 : Int32} {a3 : Int32} {w9 w10 w11 w12 w13 w14 w15 w16 w17 w18 w19 w20 w21 : Value} {μ : am_Mu} {out : Int32 × am_Mu}, fL_law_385 sL sX a2 a3 μ = some out → am_Ex (some (some (sL, sX))) (d + 7) 95 385 [.ref am_SCR, .ref 0, .int a2, .int a3, .ref 110, .ref 111, .ref 112, .ref 113, .ref 114, w9, w10, w11, w12, w13, w14, w15, w16, w17, w18, w19, w20, w21] [] (am_SX (am_TL.take 7)) μ (some (.int out.1), (am_SX (am_TL.take 12)), out.2) := by
  intro a2 a3 w9 w10 w11 w12 w13 w14 w15 w16 w17 w18 w19 w20 w21 μ out h
  unfold fL_law_385 at h
  refine am_Ex.seg 1 387 [.ref am_SCR, .ref 0, .int a2, .int a3, .ref 110, .ref 111, .ref 112, .ref 113, .ref 114, w9, w10, w11, w12, w13, w14, w15, w16, w17, w18, w19, w20, w21] [.int 6] μ (fun _ => rfl) ?_
  refine am_Ex.newa (n := 115) (L1 := [.ref am_SCR, .ref 0, .int a2, .int a3, .ref 110, .ref 111, .ref 112, .ref 113, .ref 114, (am_mk 115 w9), (am_mk 115 w10), (am_mk 115 w11), (am_mk 115 w12), (am_mk 115 w13), (am_mk 115 w14), (am_mk 115 w15), (am_mk 115 w16), (am_mk 115 w17), (am_mk 115 w18), (am_mk 115 w19), (am_mk 115 w20), (am_mk 115 w21)]) (sh1 := (am_SX (am_TL.take 8))) rfl rfl (by decide +kernel) rfl rfl rfl ?_
  refine am_Ex.seg 2 393 [.ref am_SCR, .ref 0, .int a2, .int a3, .ref 110, .ref 111, .ref 112, .ref 113, .ref 114, .ref 115, (am_mk 115 w10), (am_mk 115 w11), (am_mk 115 w12), (am_mk 115 w13), (am_mk 115 w14), (am_mk 115 w15), (am_mk 115 w16), (am_mk 115 w17), (am_mk 115 w18), (am_mk 115 w19), (am_mk 115 w20), (am_mk 115 w21)] [.int 6] (am_row μ 115 (fun _ => 0)) (fun _ => rfl) ?_
  refine am_Ex.newa (n := 116) (L1 := [.ref am_SCR, .ref 0, .int a2, .int a3, .ref 110, .ref 111, .ref 112, .ref 113, .ref 114, .ref 115, (am_mk 116 (am_mk 115 w10)), (am_mk 116 (am_mk 115 w11)), (am_mk 116 (am_mk 115 w12)), (am_mk 116 (am_mk 115 w13)), (am_mk 116 (am_mk 115 w14)), (am_mk 116 (am_mk 115 w15)), (am_mk 116 (am_mk 115 w16)), (am_mk 116 (am_mk 115 w17)), (am_mk 116 (am_mk 115 w18)), (am_mk 116 (am_mk 115 w19)), (am_mk 116 (am_mk 115 w20)), (am_mk 116 (am_mk 115 w21))]) (sh1 := (am_SX (am_TL.take 9))) rfl rfl (by decide +kernel) rfl rfl rfl ?_
  refine am_Ex.seg 2 399 [.ref am_SCR, .ref 0, .int a2, .int a3, .ref 110, .ref 111, .ref 112, .ref 113, .ref 114, .ref 115, .ref 116, (am_mk 116 (am_mk 115 w11)), (am_mk 116 (am_mk 115 w12)), (am_mk 116 (am_mk 115 w13)), (am_mk 116 (am_mk 115 w14)), (am_mk 116 (am_mk 115 w15)), (am_mk 116 (am_mk 115 w16)), (am_mk 116 (am_mk 115 w17)), (am_mk 116 (am_mk 115 w18)), (am_mk 116 (am_mk 115 w19)), (am_mk 116 (am_mk 115 w20)), (am_mk 116 (am_mk 115 w21))] [.int 6] (am_row (am_row μ 115 (fun _ => 0)) 116 (fun _ => 0)) (fun _ => rfl) ?_
  refine am_Ex.newa (n := 117) (L1 := [.ref am_SCR, .ref 0, .int a2, .int a3, .ref 110, .ref 111, .ref 112, .ref 113, .ref 114, .ref 115, .ref 116, (am_mk 117 (am_mk 116 (am_mk 115 w11))), (am_mk 117 (am_mk 116 (am_mk 115 w12))), (am_mk 117 (am_mk 116 (am_mk 115 w13))), (am_mk 117 (am_mk 116 (am_mk 115 w14))), (am_mk 117 (am_mk 116 (am_mk 115 w15))), (am_mk 117 (am_mk 116 (am_mk 115 w16))), (am_mk 117 (am_mk 116 (am_mk 115 w17))), (am_mk 117 (am_mk 116 (am_mk 115 w18))), (am_mk 117 (am_mk 116 (am_mk 115 w19))), (am_mk 117 (am_mk 116 (am_mk 115 w20))), (am_mk 117 (am_mk 116 (am_mk 115 w21)))]) (sh1 := (am_SX (am_TL.take 10))) rfl rfl (by decide +kernel) rfl rfl rfl ?_
  refine am_Ex.seg 3 406 [.ref am_SCR, .ref 0, .int a2, .int a3, .ref 110, .ref 111, .ref 112, .ref 113, .ref 114, .ref 115, .ref 116, .ref 117, .int 0, (am_mk 117 (am_mk 116 (am_mk 115 w13))), (am_mk 117 (am_mk 116 (am_mk 115 w14))), (am_mk 117 (am_mk 116 (am_mk 115 w15))), (am_mk 117 (am_mk 116 (am_mk 115 w16))), (am_mk 117 (am_mk 116 (am_mk 115 w17))), (am_mk 117 (am_mk 116 (am_mk 115 w18))), (am_mk 117 (am_mk 116 (am_mk 115 w19))), (am_mk 117 (am_mk 116 (am_mk 115 w20))), (am_mk 117 (am_mk 116 (am_mk 115 w21)))] [] (am_row (am_row (am_row μ 115 (fun _ => 0)) 116 (fun _ => 0)) 117 (fun _ => 0)) (fun _ => rfl) ?_
  exact e_fL_law_406 d am_F h
set_option maxRecDepth 20000 in
set_option maxHeartbeats 1000000 in
theorem e_fL_law_378 {sL : Nat} {sX : Nat → Int32} (d : Nat) {k297 : Int32 → Int32 → Int32 → am_Mu → Option (Int32 × am_Mu)} (hk297 : ∀ {a2 : Int32} {a3 : Int32} {a9 : Int32} {w10 w11 w12 w13 w14 w15 w16 w17 w18 w19 w20 w21 : Value} {μ : am_Mu} {out : Int32 × am_Mu}, k297 a2 a3 a9 μ = some out → am_Ex (some (some (sL, sX))) (d + 7) 95 297 [.ref am_SCR, .ref 0, .int a2, .int a3, .ref 110, .ref 111, .ref 112, .ref 113, .ref 114, .int a9, w10, w11, w12, w13, w14, w15, w16, w17, w18, w19, w20, w21] [] (am_SX (am_TL.take 7)) μ (some (.int out.1), (am_SX (am_TL.take 12)), out.2)) : ∀ {a2 : Int32} {a9 : Int32} {s0 : Int32} {w3 w10 w11 w12 w13 w14 w15 w16 w17 w18 w19 w20 w21 : Value} {μ : am_Mu} {out : Int32 × am_Mu}, fL_law_378 sL sX k297 a2 a9 s0 μ = some out → am_Ex (some (some (sL, sX))) (d + 7) 95 378 [.ref am_SCR, .ref 0, .int a2, w3, .ref 110, .ref 111, .ref 112, .ref 113, .ref 114, .int a9, w10, w11, w12, w13, w14, w15, w16, w17, w18, w19, w20, w21] [.int s0] (am_SX (am_TL.take 7)) μ (some (.int out.1), (am_SX (am_TL.take 12)), out.2) := by
  intro a2 a9 s0 w3 w10 w11 w12 w13 w14 w15 w16 w17 w18 w19 w20 w21 μ out h
  unfold fL_law_378 at h
  refine am_Ex.seg 2 382 [.ref am_SCR, .ref 0, .int a2, .int s0, .ref 110, .ref 111, .ref 112, .ref 113, .ref 114, .int (a9 + 1), w10, w11, w12, w13, w14, w15, w16, w17, w18, w19, w20, w21] [] μ (fun _ => rfl) ?_
  refine am_Ex.goto rfl ?_
  exact hk297 h
set_option maxRecDepth 20000 in
set_option maxHeartbeats 1000000 in
theorem e_fL_law_377 {sL : Nat} {sX : Nat → Int32} (d : Nat) {k297 : Int32 → Int32 → Int32 → am_Mu → Option (Int32 × am_Mu)} (hk297 : ∀ {a2 : Int32} {a3 : Int32} {a9 : Int32} {w10 w11 w12 w13 w14 w15 w16 w17 w18 w19 w20 w21 : Value} {μ : am_Mu} {out : Int32 × am_Mu}, k297 a2 a3 a9 μ = some out → am_Ex (some (some (sL, sX))) (d + 7) 95 297 [.ref am_SCR, .ref 0, .int a2, .int a3, .ref 110, .ref 111, .ref 112, .ref 113, .ref 114, .int a9, w10, w11, w12, w13, w14, w15, w16, w17, w18, w19, w20, w21] [] (am_SX (am_TL.take 7)) μ (some (.int out.1), (am_SX (am_TL.take 12)), out.2)) : ∀ {a2 : Int32} {a9 : Int32} {w3 w10 w11 w12 w13 w14 w15 w16 w17 w18 w19 w20 w21 : Value} {μ : am_Mu} {out : Int32 × am_Mu}, fL_law_377 sL sX k297 a2 a9 μ = some out → am_Ex (some (some (sL, sX))) (d + 7) 95 377 [.ref am_SCR, .ref 0, .int a2, w3, .ref 110, .ref 111, .ref 112, .ref 113, .ref 114, .int a9, w10, w11, w12, w13, w14, w15, w16, w17, w18, w19, w20, w21] [] (am_SX (am_TL.take 7)) μ (some (.int out.1), (am_SX (am_TL.take 12)), out.2) := by
  intro a2 a9 w3 w10 w11 w12 w13 w14 w15 w16 w17 w18 w19 w20 w21 μ out h
  unfold fL_law_377 at h
  refine am_Ex.seg 1 378 [.ref am_SCR, .ref 0, .int a2, w3, .ref 110, .ref 111, .ref 112, .ref 113, .ref 114, .int a9, w10, w11, w12, w13, w14, w15, w16, w17, w18, w19, w20, w21] [.int 0] μ (fun _ => rfl) ?_
  exact e_fL_law_378 d hk297 h
set_option maxRecDepth 20000 in
set_option maxHeartbeats 1000000 in
theorem e_fL_law_297 {sL : Nat} {sX : Nat → Int32} (d : Nat) : ∀ n : Nat, ∀ {a2 : Int32} {a3 : Int32} {a9 : Int32} {w10 w11 w12 w13 w14 w15 w16 w17 w18 w19 w20 w21 : Value} {μ : am_Mu} {out : Int32 × am_Mu}, fL_law_297 sL sX n a2 a3 a9 μ = some out → am_Ex (some (some (sL, sX))) (d + 7) 95 297 [.ref am_SCR, .ref 0, .int a2, .int a3, .ref 110, .ref 111, .ref 112, .ref 113, .ref 114, .int a9, w10, w11, w12, w13, w14, w15, w16, w17, w18, w19, w20, w21] [] (am_SX (am_TL.take 7)) μ (some (.int out.1), (am_SX (am_TL.take 12)), out.2) := by
  intro n
  induction n with
  | zero => intros; contradiction
  | succ n ih =>
    have hk297 : ∀ {a2 : Int32} {a3 : Int32} {a9 : Int32} {w10 w11 w12 w13 w14 w15 w16 w17 w18 w19 w20 w21 : Value} {μ : am_Mu} {out : Int32 × am_Mu}, (fL_law_297 sL sX n) a2 a3 a9 μ = some out → am_Ex (some (some (sL, sX))) (d + 7) 95 297 [.ref am_SCR, .ref 0, .int a2, .int a3, .ref 110, .ref 111, .ref 112, .ref 113, .ref 114, .int a9, w10, w11, w12, w13, w14, w15, w16, w17, w18, w19, w20, w21] [] (am_SX (am_TL.take 7)) μ (some (.int out.1), (am_SX (am_TL.take 12)), out.2) := ih
    intro a2 a3 a9 w10 w11 w12 w13 w14 w15 w16 w17 w18 w19 w20 w21 μ out h
    unfold fL_law_297 at h
    refine am_Ex.seg 2 300 [.ref am_SCR, .ref 0, .int a2, .int a3, .ref 110, .ref 111, .ref 112, .ref 113, .ref 114, .int a9, w10, w11, w12, w13, w14, w15, w16, w17, w18, w19, w20, w21] [.int 2, .int a9] μ (fun _ => rfl) ?_
    rcases am_ite h with ⟨q1, h⟩ | ⟨q1, h⟩
    · refine am_Ex.icmp_ge_t rfl q1 ?_
      exact e_fL_law_385 d h
    · refine am_Ex.icmp_ge_f rfl q1 ?_
      refine am_Ex.seg 6 313 [.ref am_SCR, .ref 0, .int a2, .int a3, .ref 110, .ref 111, .ref 112, .ref 113, .ref 114, .int a9, w10, w11, w12, w13, w14, w15, w16, w17, w18, w19, w20, w21] [.int ((15 : Int32) + a9), .ref am_SCR, .int a9, .ref 114] μ (fun _ => rfl) ?_
      obtain ⟨q2, h_q2, h⟩ := am_bind h
      refine am_Ex.iskc (na := 2) rfl (As := [.ref am_SCR, .int ((15 : Int32) + a9)]) rfl rfl rfl rfl rfl rfl (e_fL_cell (d + 6) h_q2) ?_
      refine am_Ex.same 316 [.ref am_SCR, .ref 0, .int a2, .int a3, .ref 110, .ref 111, .ref 112, .ref 113, .ref 114, .int a9, w10, w11, w12, w13, w14, w15, w16, w17, w18, w19, w20, w21] [.int q2.1, .int a9, .ref 114] q2.2 rfl ?_
      refine am_Ex.seg 1 317 [.ref am_SCR, .ref 0, .int a2, .int a3, .ref 110, .ref 111, .ref 112, .ref 113, .ref 114, .int a9, w10, w11, w12, w13, w14, w15, w16, w17, w18, w19, w20, w21] [.int a2, .int q2.1, .int a9, .ref 114] q2.2 (fun _ => rfl) ?_
      obtain ⟨q3, h_q3, h⟩ := am_bind h
      refine am_Ex.isk (na := 2) rfl (As := [.int q2.1, .int a2]) rfl rfl rfl rfl rfl rfl (e_fL_pick (d + 6) h_q3) ?_
      refine am_Ex.same 320 [.ref am_SCR, .ref 0, .int a2, .int a3, .ref 110, .ref 111, .ref 112, .ref 113, .ref 114, .int a9, w10, w11, w12, w13, w14, w15, w16, w17, w18, w19, w20, w21] [.int q3.1, .int a9, .ref 114] q3.2 rfl ?_
      obtain ⟨q4, h⟩ := am_bif h
      refine am_Ex.iast (v2 := q3.1) (i2 := (a9).toNatClampNeg) rfl rfl q4 rfl rfl ?_
      refine am_Ex.seg 8 334 [.ref am_SCR, .ref 0, .int a2, .int a3, .ref 110, .ref 111, .ref 112, .ref 113, .ref 114, .int a9, w10, w11, w12, w13, w14, w15, w16, w17, w18, w19, w20, w21] [.int ((15 : Int32) + a9), .ref am_SCR, .int ((16 : Int32) + a9), .ref 113] (am_up q3.2 114 ((a9).toNatClampNeg) q3.1) (fun _ => rfl) ?_
      obtain ⟨q5, h_q5, h⟩ := am_bind h
      refine am_Ex.iskc (na := 2) rfl (As := [.ref am_SCR, .int ((15 : Int32) + a9)]) rfl rfl rfl rfl rfl rfl (e_fL_cell (d + 6) h_q5) ?_
      refine am_Ex.same 337 [.ref am_SCR, .ref 0, .int a2, .int a3, .ref 110, .ref 111, .ref 112, .ref 113, .ref 114, .int a9, w10, w11, w12, w13, w14, w15, w16, w17, w18, w19, w20, w21] [.int q5.1, .int ((16 : Int32) + a9), .ref 113] q5.2 rfl ?_
      refine am_Ex.seg 3 342 [.ref am_SCR, .ref 0, .int a2, .int a3, .ref 110, .ref 111, .ref 112, .ref 113, .ref 114, .int a9, w10, w11, w12, w13, w14, w15, w16, w17, w18, w19, w20, w21] [.int 40, .int (q5.1 >>> (8 &&& 31)), .int ((16 : Int32) + a9), .ref 113] q5.2 (fun _ => rfl) ?_
      obtain ⟨q6, h_q6, h⟩ := am_bind h
      refine am_Ex.isk (na := 2) rfl (As := [.int (q5.1 >>> (8 &&& 31)), .int 40]) rfl rfl rfl rfl rfl rfl (e_fL_pick (d + 6) h_q6) ?_
      refine am_Ex.same 345 [.ref am_SCR, .ref 0, .int a2, .int a3, .ref 110, .ref 111, .ref 112, .ref 113, .ref 114, .int a9, w10, w11, w12, w13, w14, w15, w16, w17, w18, w19, w20, w21] [.int q6.1, .int ((16 : Int32) + a9), .ref 113] q6.2 rfl ?_
      obtain ⟨q7, h⟩ := am_bif h
      refine am_Ex.iast (v2 := q6.1) (i2 := (((16 : Int32) + a9)).toNatClampNeg) rfl rfl q7 rfl rfl ?_
      refine am_Ex.seg 1 347 [.ref am_SCR, .ref 0, .int a2, .int a3, .ref 110, .ref 111, .ref 112, .ref 113, .ref 114, .int a9, w10, w11, w12, w13, w14, w15, w16, w17, w18, w19, w20, w21] [.int a3] (am_up q6.2 113 ((((16 : Int32) + a9)).toNatClampNeg) q6.1) (fun _ => rfl) ?_
      rcases am_ite h with ⟨q8, h⟩ | ⟨q8, h⟩
      · refine am_Ex.if_eq_t rfl q8 ?_
        exact e_fL_law_377 d hk297 h
      · refine am_Ex.if_eq_f rfl q8 ?_
        refine am_Ex.seg 3 355 [.ref am_SCR, .ref 0, .int a2, .int a3, .ref 110, .ref 111, .ref 112, .ref 113, .ref 114, .int a9, w10, w11, w12, w13, w14, w15, w16, w17, w18, w19, w20, w21] [.int a9, .ref 114, .ref 0] (am_up q6.2 113 ((((16 : Int32) + a9)).toNatClampNeg) q6.1) (fun _ => rfl) ?_
        refine am_Ex.iald (v := (q6.2 114 ((a9).toNatClampNeg))) rfl rfl rfl q4 ((am_up_k (by decide)).trans rfl) ?_
        refine am_Ex.seg 5 364 [.ref am_SCR, .ref 0, .int a2, .int a3, .ref 110, .ref 111, .ref 112, .ref 113, .ref 114, .int a9, w10, w11, w12, w13, w14, w15, w16, w17, w18, w19, w20, w21] [.int ((16 : Int32) + a9), .ref 113, .int 0, .int (q6.2 114 ((a9).toNatClampNeg)), .ref 0] (am_up q6.2 113 ((((16 : Int32) + a9)).toNatClampNeg) q6.1) (fun _ => rfl) ?_
        refine am_Ex.iald (v := ((am_up q6.2 113 ((((16 : Int32) + a9)).toNatClampNeg) q6.1) 113 ((((16 : Int32) + a9)).toNatClampNeg))) rfl rfl rfl q7 rfl ?_
        obtain ⟨q9, h_q9, h⟩ := am_bind h
        refine am_Ex.ivk (na := 4) (b := 0) (As' := [.int (q6.2 114 ((a9).toNatClampNeg)), .int 0, .int ((am_up q6.2 113 ((((16 : Int32) + a9)).toNatClampNeg) q6.1) 113 ((((16 : Int32) + a9)).toNatClampNeg))]) rfl rfl rfl rfl rfl rfl rfl rfl rfl (e_fB_mistake (d + 1) h_q9) ?_
        refine am_Ex.same 368 [.ref am_SCR, .ref 0, .int a2, .int a3, .ref 110, .ref 111, .ref 112, .ref 113, .ref 114, .int a9, w10, w11, w12, w13, w14, w15, w16, w17, w18, w19, w20, w21] [.int q9.1] q9.2 rfl ?_
        refine am_Ex.seg 1 370 [.ref am_SCR, .ref 0, .int a2, .int a3, .ref 110, .ref 111, .ref 112, .ref 113, .ref 114, .int a9, w10, w11, w12, w13, w14, w15, w16, w17, w18, w19, w20, w21] [.int a9, .int q9.1] q9.2 (fun _ => rfl) ?_
        rcases am_ite h with ⟨q10, h⟩ | ⟨q10, h⟩
        · refine am_Ex.icmp_ne_t rfl q10 ?_
          exact e_fL_law_377 d hk297 h
        · refine am_Ex.icmp_ne_f rfl (Decidable.not_not.mp q10) ?_
          refine am_Ex.seg 1 374 [.ref am_SCR, .ref 0, .int a2, .int a3, .ref 110, .ref 111, .ref 112, .ref 113, .ref 114, .int a9, w10, w11, w12, w13, w14, w15, w16, w17, w18, w19, w20, w21] [.int 1] q9.2 (fun _ => rfl) ?_
          refine am_Ex.goto rfl ?_
          exact e_fL_law_378 d hk297 h
set_option maxRecDepth 20000 in
set_option maxHeartbeats 1000000 in
theorem e_fL_law_289 {sL : Nat} {sX : Nat → Int32} (d : Nat) : ∀ {a2 : Int32} {a3 : Int32} {w8 w9 w10 w11 w12 w13 w14 w15 w16 w17 w18 w19 w20 w21 : Value} {μ : am_Mu} {out : Int32 × am_Mu}, fL_law_289 sL sX a2 a3 μ = some out → am_Ex (some (some (sL, sX))) (d + 7) 95 289 [.ref am_SCR, .ref 0, .int a2, .int a3, .ref 110, .ref 111, .ref 112, .ref 113, w8, w9, w10, w11, w12, w13, w14, w15, w16, w17, w18, w19, w20, w21] [] (am_SX (am_TL.take 6)) μ (some (.int out.1), (am_SX (am_TL.take 12)), out.2) := by
  intro a2 a3 w8 w9 w10 w11 w12 w13 w14 w15 w16 w17 w18 w19 w20 w21 μ out h
  unfold fL_law_289 at h
  refine am_Ex.seg 1 290 [.ref am_SCR, .ref 0, .int a2, .int a3, .ref 110, .ref 111, .ref 112, .ref 113, w8, w9, w10, w11, w12, w13, w14, w15, w16, w17, w18, w19, w20, w21] [.int 2] μ (fun _ => rfl) ?_
  refine am_Ex.newa (n := 114) (L1 := [.ref am_SCR, .ref 0, .int a2, .int a3, .ref 110, .ref 111, .ref 112, .ref 113, (am_mk 114 w8), (am_mk 114 w9), (am_mk 114 w10), (am_mk 114 w11), (am_mk 114 w12), (am_mk 114 w13), (am_mk 114 w14), (am_mk 114 w15), (am_mk 114 w16), (am_mk 114 w17), (am_mk 114 w18), (am_mk 114 w19), (am_mk 114 w20), (am_mk 114 w21)]) (sh1 := (am_SX (am_TL.take 7))) rfl rfl (by decide +kernel) rfl rfl rfl ?_
  refine am_Ex.seg 3 297 [.ref am_SCR, .ref 0, .int a2, .int a3, .ref 110, .ref 111, .ref 112, .ref 113, .ref 114, .int 0, (am_mk 114 w10), (am_mk 114 w11), (am_mk 114 w12), (am_mk 114 w13), (am_mk 114 w14), (am_mk 114 w15), (am_mk 114 w16), (am_mk 114 w17), (am_mk 114 w18), (am_mk 114 w19), (am_mk 114 w20), (am_mk 114 w21)] [] (am_row μ 114 (fun _ => 0)) (fun _ => rfl) ?_
  exact e_fL_law_297 d am_F h
set_option maxRecDepth 20000 in
set_option maxHeartbeats 1000000 in
theorem e_fL_law_282 {sL : Nat} {sX : Nat → Int32} (d : Nat) {k119 : Int32 → Int32 → Int32 → am_Mu → Option (Int32 × am_Mu)} (hk119 : ∀ {a2 : Int32} {a3 : Int32} {a8 : Int32} {w9 w10 w11 w12 w13 w14 w15 w16 w17 w18 w19 w20 w21 : Value} {μ : am_Mu} {out : Int32 × am_Mu}, k119 a2 a3 a8 μ = some out → am_Ex (some (some (sL, sX))) (d + 7) 95 119 [.ref am_SCR, .ref 0, .int a2, .int a3, .ref 110, .ref 111, .ref 112, .ref 113, .int a8, w9, w10, w11, w12, w13, w14, w15, w16, w17, w18, w19, w20, w21] [] (am_SX (am_TL.take 6)) μ (some (.int out.1), (am_SX (am_TL.take 12)), out.2)) : ∀ {a2 : Int32} {a8 : Int32} {s0 : Int32} {w3 w9 w10 w11 w12 w13 w14 w15 w16 w17 w18 w19 w20 w21 : Value} {μ : am_Mu} {out : Int32 × am_Mu}, fL_law_282 sL sX k119 a2 a8 s0 μ = some out → am_Ex (some (some (sL, sX))) (d + 7) 95 282 [.ref am_SCR, .ref 0, .int a2, w3, .ref 110, .ref 111, .ref 112, .ref 113, .int a8, w9, w10, w11, w12, w13, w14, w15, w16, w17, w18, w19, w20, w21] [.int s0] (am_SX (am_TL.take 6)) μ (some (.int out.1), (am_SX (am_TL.take 12)), out.2) := by
  intro a2 a8 s0 w3 w9 w10 w11 w12 w13 w14 w15 w16 w17 w18 w19 w20 w21 μ out h
  unfold fL_law_282 at h
  refine am_Ex.seg 2 286 [.ref am_SCR, .ref 0, .int a2, .int s0, .ref 110, .ref 111, .ref 112, .ref 113, .int (a8 + 1), w9, w10, w11, w12, w13, w14, w15, w16, w17, w18, w19, w20, w21] [] μ (fun _ => rfl) ?_
  refine am_Ex.goto rfl ?_
  exact hk119 h
set_option maxRecDepth 20000 in
set_option maxHeartbeats 1000000 in
theorem e_fL_law_281 {sL : Nat} {sX : Nat → Int32} (d : Nat) {k119 : Int32 → Int32 → Int32 → am_Mu → Option (Int32 × am_Mu)} (hk119 : ∀ {a2 : Int32} {a3 : Int32} {a8 : Int32} {w9 w10 w11 w12 w13 w14 w15 w16 w17 w18 w19 w20 w21 : Value} {μ : am_Mu} {out : Int32 × am_Mu}, k119 a2 a3 a8 μ = some out → am_Ex (some (some (sL, sX))) (d + 7) 95 119 [.ref am_SCR, .ref 0, .int a2, .int a3, .ref 110, .ref 111, .ref 112, .ref 113, .int a8, w9, w10, w11, w12, w13, w14, w15, w16, w17, w18, w19, w20, w21] [] (am_SX (am_TL.take 6)) μ (some (.int out.1), (am_SX (am_TL.take 12)), out.2)) : ∀ {a2 : Int32} {a8 : Int32} {w3 w9 w10 w11 w12 w13 w14 w15 w16 w17 w18 w19 w20 w21 : Value} {μ : am_Mu} {out : Int32 × am_Mu}, fL_law_281 sL sX k119 a2 a8 μ = some out → am_Ex (some (some (sL, sX))) (d + 7) 95 281 [.ref am_SCR, .ref 0, .int a2, w3, .ref 110, .ref 111, .ref 112, .ref 113, .int a8, w9, w10, w11, w12, w13, w14, w15, w16, w17, w18, w19, w20, w21] [] (am_SX (am_TL.take 6)) μ (some (.int out.1), (am_SX (am_TL.take 12)), out.2) := by
  intro a2 a8 w3 w9 w10 w11 w12 w13 w14 w15 w16 w17 w18 w19 w20 w21 μ out h
  unfold fL_law_281 at h
  refine am_Ex.seg 1 282 [.ref am_SCR, .ref 0, .int a2, w3, .ref 110, .ref 111, .ref 112, .ref 113, .int a8, w9, w10, w11, w12, w13, w14, w15, w16, w17, w18, w19, w20, w21] [.int 0] μ (fun _ => rfl) ?_
  exact e_fL_law_282 d hk119 h
set_option maxRecDepth 20000 in
set_option maxHeartbeats 1000000 in
theorem e_fL_law_224 {sL : Nat} {sX : Nat → Int32} (d : Nat) {k119 : Int32 → Int32 → Int32 → am_Mu → Option (Int32 × am_Mu)} (hk119 : ∀ {a2 : Int32} {a3 : Int32} {a8 : Int32} {w9 w10 w11 w12 w13 w14 w15 w16 w17 w18 w19 w20 w21 : Value} {μ : am_Mu} {out : Int32 × am_Mu}, k119 a2 a3 a8 μ = some out → am_Ex (some (some (sL, sX))) (d + 7) 95 119 [.ref am_SCR, .ref 0, .int a2, .int a3, .ref 110, .ref 111, .ref 112, .ref 113, .int a8, w9, w10, w11, w12, w13, w14, w15, w16, w17, w18, w19, w20, w21] [] (am_SX (am_TL.take 6)) μ (some (.int out.1), (am_SX (am_TL.take 12)), out.2)) : ∀ {a2 : Int32} {a3 : Int32} {a8 : Int32} {a9 : Int32} {s1 : Int32} {s2 : Int32} {w10 w11 w12 w13 w14 w15 w16 w17 w18 w19 w20 w21 : Value} {μ : am_Mu} {out : Int32 × am_Mu}, fL_law_224 sL sX k119 a2 a3 a8 a9 s1 s2 μ = some out → am_Ex (some (some (sL, sX))) (d + 7) 95 224 [.ref am_SCR, .ref 0, .int a2, .int a3, .ref 110, .ref 111, .ref 112, .ref 113, .int a8, .int a9, w10, w11, w12, w13, w14, w15, w16, w17, w18, w19, w20, w21] [.int s2, .int s1, .ref 112] (am_SX (am_TL.take 6)) μ (some (.int out.1), (am_SX (am_TL.take 12)), out.2) := by
  intro a2 a3 a8 a9 s1 s2 w10 w11 w12 w13 w14 w15 w16 w17 w18 w19 w20 w21 μ out h
  unfold fL_law_224 at h
  obtain ⟨q1, h⟩ := am_bif h
  refine am_Ex.iast (v2 := s2) (i2 := (s1).toNatClampNeg) rfl rfl q1 rfl rfl ?_
  refine am_Ex.seg 7 238 [.ref am_SCR, .ref 0, .int a2, .int a3, .ref 110, .ref 111, .ref 112, .ref 113, .int a8, .int a9, w10, w11, w12, w13, w14, w15, w16, w17, w18, w19, w20, w21] [.int 40, .int (a9 >>> (12 &&& 31)), .int 10, .int a8, .ref 113] (am_up μ 112 ((s1).toNatClampNeg) s2) (fun _ => rfl) ?_
  obtain ⟨q2, h_q2, h⟩ := am_bind h
  refine am_Ex.isk (na := 2) rfl (As := [.int (a9 >>> (12 &&& 31)), .int 40]) rfl rfl rfl rfl rfl rfl (e_fL_pick (d + 6) h_q2) ?_
  refine am_Ex.same 241 [.ref am_SCR, .ref 0, .int a2, .int a3, .ref 110, .ref 111, .ref 112, .ref 113, .int a8, .int a9, w10, w11, w12, w13, w14, w15, w16, w17, w18, w19, w20, w21] [.int q2.1, .int 10, .int a8, .ref 113] q2.2 rfl ?_
  refine am_Ex.seg 1 242 [.ref am_SCR, .ref 0, .int a2, .int a3, .ref 110, .ref 111, .ref 112, .ref 113, .int a8, .int a9, w10, w11, w12, w13, w14, w15, w16, w17, w18, w19, w20, w21] [.int ((10 : Int32) + q2.1), .int a8, .ref 113] q2.2 (fun _ => rfl) ?_
  obtain ⟨q3, h⟩ := am_bif h
  refine am_Ex.iast (v2 := ((10 : Int32) + q2.1)) (i2 := (a8).toNatClampNeg) rfl rfl q3 rfl rfl ?_
  refine am_Ex.seg 1 244 [.ref am_SCR, .ref 0, .int a2, .int a3, .ref 110, .ref 111, .ref 112, .ref 113, .int a8, .int a9, w10, w11, w12, w13, w14, w15, w16, w17, w18, w19, w20, w21] [.int a3] (am_up q2.2 113 ((a8).toNatClampNeg) ((10 : Int32) + q2.1)) (fun _ => rfl) ?_
  rcases am_ite h with ⟨q4, h⟩ | ⟨q4, h⟩
  · refine am_Ex.if_eq_t rfl q4 ?_
    exact e_fL_law_281 d hk119 h
  · refine am_Ex.if_eq_f rfl q4 ?_
    refine am_Ex.seg 3 252 [.ref am_SCR, .ref 0, .int a2, .int a3, .ref 110, .ref 111, .ref 112, .ref 113, .int a8, .int a9, w10, w11, w12, w13, w14, w15, w16, w17, w18, w19, w20, w21] [.int a8, .ref 110, .ref 0] (am_up q2.2 113 ((a8).toNatClampNeg) ((10 : Int32) + q2.1)) (fun _ => rfl) ?_
    obtain ⟨q5, h⟩ := am_bif h
    refine am_Ex.iald (v := (q2.2 110 ((a8).toNatClampNeg))) rfl rfl rfl q5 ((am_up_k (by decide)).trans rfl) ?_
    refine am_Ex.seg 2 257 [.ref am_SCR, .ref 0, .int a2, .int a3, .ref 110, .ref 111, .ref 112, .ref 113, .int a8, .int a9, w10, w11, w12, w13, w14, w15, w16, w17, w18, w19, w20, w21] [.int a8, .ref 111, .int (q2.2 110 ((a8).toNatClampNeg)), .ref 0] (am_up q2.2 113 ((a8).toNatClampNeg) ((10 : Int32) + q2.1)) (fun _ => rfl) ?_
    refine am_Ex.iald (v := (q2.2 111 ((a8).toNatClampNeg))) rfl rfl rfl q5 ((am_up_k (by decide)).trans rfl) ?_
    refine am_Ex.seg 2 262 [.ref am_SCR, .ref 0, .int a2, .int a3, .ref 110, .ref 111, .ref 112, .ref 113, .int a8, .int a9, w10, w11, w12, w13, w14, w15, w16, w17, w18, w19, w20, w21] [.int a8, .ref 112, .int (q2.2 111 ((a8).toNatClampNeg)), .int (q2.2 110 ((a8).toNatClampNeg)), .ref 0] (am_up q2.2 113 ((a8).toNatClampNeg) ((10 : Int32) + q2.1)) (fun _ => rfl) ?_
    refine am_Ex.iald (v := (q2.2 112 ((a8).toNatClampNeg))) rfl rfl rfl q5 ((am_up_k (by decide)).trans rfl) ?_
    refine am_Ex.seg 2 267 [.ref am_SCR, .ref 0, .int a2, .int a3, .ref 110, .ref 111, .ref 112, .ref 113, .int a8, .int a9, w10, w11, w12, w13, w14, w15, w16, w17, w18, w19, w20, w21] [.int a8, .ref 113, .int (q2.2 112 ((a8).toNatClampNeg)), .int (q2.2 111 ((a8).toNatClampNeg)), .int (q2.2 110 ((a8).toNatClampNeg)), .ref 0] (am_up q2.2 113 ((a8).toNatClampNeg) ((10 : Int32) + q2.1)) (fun _ => rfl) ?_
    refine am_Ex.iald (v := ((am_up q2.2 113 ((a8).toNatClampNeg) ((10 : Int32) + q2.1)) 113 ((a8).toNatClampNeg))) rfl rfl rfl q3 rfl ?_
    refine am_Ex.seg 1 269 [.ref am_SCR, .ref 0, .int a2, .int a3, .ref 110, .ref 111, .ref 112, .ref 113, .int a8, .int a9, w10, w11, w12, w13, w14, w15, w16, w17, w18, w19, w20, w21] [.int 1, .int ((am_up q2.2 113 ((a8).toNatClampNeg) ((10 : Int32) + q2.1)) 113 ((a8).toNatClampNeg)), .int (q2.2 112 ((a8).toNatClampNeg)), .int (q2.2 111 ((a8).toNatClampNeg)), .int (q2.2 110 ((a8).toNatClampNeg)), .ref 0] (am_up q2.2 113 ((a8).toNatClampNeg) ((10 : Int32) + q2.1)) (fun _ => rfl) ?_
    obtain ⟨q6, h_q6, h⟩ := am_bind h
    refine am_Ex.ivk (na := 6) (b := 0) (As' := [.int (q2.2 110 ((a8).toNatClampNeg)), .int (q2.2 111 ((a8).toNatClampNeg)), .int (q2.2 112 ((a8).toNatClampNeg)), .int ((am_up q2.2 113 ((a8).toNatClampNeg) ((10 : Int32) + q2.1)) 113 ((a8).toNatClampNeg)), .int 1]) rfl rfl rfl rfl rfl rfl rfl rfl rfl (e_fB_act (d + 1) h_q6) ?_
    refine am_Ex.same 272 [.ref am_SCR, .ref 0, .int a2, .int a3, .ref 110, .ref 111, .ref 112, .ref 113, .int a8, .int a9, w10, w11, w12, w13, w14, w15, w16, w17, w18, w19, w20, w21] [.int q6.1] q6.2 rfl ?_
    refine am_Ex.seg 1 274 [.ref am_SCR, .ref 0, .int a2, .int a3, .ref 110, .ref 111, .ref 112, .ref 113, .int a8, .int a9, w10, w11, w12, w13, w14, w15, w16, w17, w18, w19, w20, w21] [.int a8, .int q6.1] q6.2 (fun _ => rfl) ?_
    rcases am_ite h with ⟨q7, h⟩ | ⟨q7, h⟩
    · refine am_Ex.icmp_ne_t rfl q7 ?_
      exact e_fL_law_281 d hk119 h
    · refine am_Ex.icmp_ne_f rfl (Decidable.not_not.mp q7) ?_
      refine am_Ex.seg 1 278 [.ref am_SCR, .ref 0, .int a2, .int a3, .ref 110, .ref 111, .ref 112, .ref 113, .int a8, .int a9, w10, w11, w12, w13, w14, w15, w16, w17, w18, w19, w20, w21] [.int 1] q6.2 (fun _ => rfl) ?_
      refine am_Ex.goto rfl ?_
      exact e_fL_law_282 d hk119 h
set_option maxRecDepth 20000 in
set_option maxHeartbeats 1000000 in
theorem e_fL_law_172 {sL : Nat} {sX : Nat → Int32} (d : Nat) {k119 : Int32 → Int32 → Int32 → am_Mu → Option (Int32 × am_Mu)} (hk119 : ∀ {a2 : Int32} {a3 : Int32} {a8 : Int32} {w9 w10 w11 w12 w13 w14 w15 w16 w17 w18 w19 w20 w21 : Value} {μ : am_Mu} {out : Int32 × am_Mu}, k119 a2 a3 a8 μ = some out → am_Ex (some (some (sL, sX))) (d + 7) 95 119 [.ref am_SCR, .ref 0, .int a2, .int a3, .ref 110, .ref 111, .ref 112, .ref 113, .int a8, w9, w10, w11, w12, w13, w14, w15, w16, w17, w18, w19, w20, w21] [] (am_SX (am_TL.take 6)) μ (some (.int out.1), (am_SX (am_TL.take 12)), out.2)) : ∀ {a2 : Int32} {a3 : Int32} {a8 : Int32} {a9 : Int32} {s1 : Int32} {s2 : Int32} {w10 w11 w12 w13 w14 w15 w16 w17 w18 w19 w20 w21 : Value} {μ : am_Mu} {out : Int32 × am_Mu}, fL_law_172 sL sX k119 a2 a3 a8 a9 s1 s2 μ = some out → am_Ex (some (some (sL, sX))) (d + 7) 95 172 [.ref am_SCR, .ref 0, .int a2, .int a3, .ref 110, .ref 111, .ref 112, .ref 113, .int a8, .int a9, w10, w11, w12, w13, w14, w15, w16, w17, w18, w19, w20, w21] [.int s2, .int s1, .ref 110] (am_SX (am_TL.take 6)) μ (some (.int out.1), (am_SX (am_TL.take 12)), out.2) := by
  intro a2 a3 a8 a9 s1 s2 w10 w11 w12 w13 w14 w15 w16 w17 w18 w19 w20 w21 μ out h
  unfold fL_law_172 at h
  obtain ⟨q1, h⟩ := am_bif h
  refine am_Ex.iast (v2 := s2) (i2 := (s1).toNatClampNeg) rfl rfl q1 rfl rfl ?_
  refine am_Ex.seg 6 182 [.ref am_SCR, .ref 0, .int a2, .int a3, .ref 110, .ref 111, .ref 112, .ref 113, .int a8, .int a9, w10, w11, w12, w13, w14, w15, w16, w17, w18, w19, w20, w21] [.int a2, .int (a9 >>> (4 &&& 31)), .int a8, .ref 111] (am_up μ 110 ((s1).toNatClampNeg) s2) (fun _ => rfl) ?_
  obtain ⟨q2, h_q2, h⟩ := am_bind h
  refine am_Ex.isk (na := 2) rfl (As := [.int (a9 >>> (4 &&& 31)), .int a2]) rfl rfl rfl rfl rfl rfl (e_fL_pick (d + 6) h_q2) ?_
  refine am_Ex.same 185 [.ref am_SCR, .ref 0, .int a2, .int a3, .ref 110, .ref 111, .ref 112, .ref 113, .int a8, .int a9, w10, w11, w12, w13, w14, w15, w16, w17, w18, w19, w20, w21] [.int q2.1, .int a8, .ref 111] q2.2 rfl ?_
  obtain ⟨q3, h⟩ := am_bif h
  refine am_Ex.iast (v2 := q2.1) (i2 := (a8).toNatClampNeg) rfl rfl q3 rfl rfl ?_
  refine am_Ex.seg 4 194 [.ref am_SCR, .ref 0, .int a2, .int a3, .ref 110, .ref 111, .ref 112, .ref 113, .int a8, .int a9, w10, w11, w12, w13, w14, w15, w16, w17, w18, w19, w20, w21] [.int a8, .ref 110, .int a8, .ref 112] (am_up q2.2 111 ((a8).toNatClampNeg) q2.1) (fun _ => rfl) ?_
  refine am_Ex.iald (v := (q2.2 110 ((a8).toNatClampNeg))) rfl rfl rfl q3 ((am_up_k (by decide)).trans rfl) ?_
  refine am_Ex.seg 1 196 [.ref am_SCR, .ref 0, .int a2, .int a3, .ref 110, .ref 111, .ref 112, .ref 113, .int a8, .int a9, w10, w11, w12, w13, w14, w15, w16, w17, w18, w19, w20, w21] [.int 2, .int (q2.2 110 ((a8).toNatClampNeg)), .int a8, .ref 112] (am_up q2.2 111 ((a8).toNatClampNeg) q2.1) (fun _ => rfl) ?_
  rcases am_ite h with ⟨q4, h⟩ | ⟨q4, h⟩
  · refine am_Ex.icmp_ne_t rfl q4 ?_
    refine am_Ex.seg 2 207 [.ref am_SCR, .ref 0, .int a2, .int a3, .ref 110, .ref 111, .ref 112, .ref 113, .int a8, .int a9, w10, w11, w12, w13, w14, w15, w16, w17, w18, w19, w20, w21] [.int a8, .ref 111, .int a8, .ref 112] (am_up q2.2 111 ((a8).toNatClampNeg) q2.1) (fun _ => rfl) ?_
    refine am_Ex.iald (v := ((am_up q2.2 111 ((a8).toNatClampNeg) q2.1) 111 ((a8).toNatClampNeg))) rfl rfl rfl q3 rfl ?_
    refine am_Ex.seg 8 218 [.ref am_SCR, .ref 0, .int a2, .int a3, .ref 110, .ref 111, .ref 112, .ref 113, .int a8, .int a9, w10, w11, w12, w13, w14, w15, w16, w17, w18, w19, w20, w21] [.int (a2 - 1), .int (a9 >>> (8 &&& 31)), .int (((am_up q2.2 111 ((a8).toNatClampNeg) q2.1) 111 ((a8).toNatClampNeg)) + 1), .int a8, .ref 112] (am_up q2.2 111 ((a8).toNatClampNeg) q2.1) (fun _ => rfl) ?_
    obtain ⟨q5, h_q5, h⟩ := am_bind h
    refine am_Ex.isk (na := 2) rfl (As := [.int (a9 >>> (8 &&& 31)), .int (a2 - 1)]) rfl rfl rfl rfl rfl rfl (e_fL_pick (d + 6) h_q5) ?_
    refine am_Ex.same 221 [.ref am_SCR, .ref 0, .int a2, .int a3, .ref 110, .ref 111, .ref 112, .ref 113, .int a8, .int a9, w10, w11, w12, w13, w14, w15, w16, w17, w18, w19, w20, w21] [.int q5.1, .int (((am_up q2.2 111 ((a8).toNatClampNeg) q2.1) 111 ((a8).toNatClampNeg)) + 1), .int a8, .ref 112] q5.2 rfl ?_
    refine am_Ex.seg 2 223 [.ref am_SCR, .ref 0, .int a2, .int a3, .ref 110, .ref 111, .ref 112, .ref 113, .int a8, .int a9, w10, w11, w12, w13, w14, w15, w16, w17, w18, w19, w20, w21] [.int a2, .int ((((am_up q2.2 111 ((a8).toNatClampNeg) q2.1) 111 ((a8).toNatClampNeg)) + 1) + q5.1), .int a8, .ref 112] q5.2 (fun _ => rfl) ?_
    obtain ⟨q6, h⟩ := am_ifn h
    refine am_Ex.irem rfl q6 ?_
    exact e_fL_law_224 d hk119 h
  · refine am_Ex.icmp_ne_f rfl (Decidable.not_not.mp q4) ?_
    refine am_Ex.seg 1 200 [.ref am_SCR, .ref 0, .int a2, .int a3, .ref 110, .ref 111, .ref 112, .ref 113, .int a8, .int a9, w10, w11, w12, w13, w14, w15, w16, w17, w18, w19, w20, w21] [.int (-1), .int a8, .ref 112] (am_up q2.2 111 ((a8).toNatClampNeg) q2.1) (fun _ => rfl) ?_
    refine am_Ex.goto rfl ?_
    exact e_fL_law_224 d hk119 h
set_option maxRecDepth 20000 in
set_option maxHeartbeats 1000000 in
theorem e_fL_law_119 {sL : Nat} {sX : Nat → Int32} (d : Nat) : ∀ n : Nat, ∀ {a2 : Int32} {a3 : Int32} {a8 : Int32} {w9 w10 w11 w12 w13 w14 w15 w16 w17 w18 w19 w20 w21 : Value} {μ : am_Mu} {out : Int32 × am_Mu}, fL_law_119 sL sX n a2 a3 a8 μ = some out → am_Ex (some (some (sL, sX))) (d + 7) 95 119 [.ref am_SCR, .ref 0, .int a2, .int a3, .ref 110, .ref 111, .ref 112, .ref 113, .int a8, w9, w10, w11, w12, w13, w14, w15, w16, w17, w18, w19, w20, w21] [] (am_SX (am_TL.take 6)) μ (some (.int out.1), (am_SX (am_TL.take 12)), out.2) := by
  intro n
  induction n with
  | zero => intros; contradiction
  | succ n ih =>
    have hk119 : ∀ {a2 : Int32} {a3 : Int32} {a8 : Int32} {w9 w10 w11 w12 w13 w14 w15 w16 w17 w18 w19 w20 w21 : Value} {μ : am_Mu} {out : Int32 × am_Mu}, (fL_law_119 sL sX n) a2 a3 a8 μ = some out → am_Ex (some (some (sL, sX))) (d + 7) 95 119 [.ref am_SCR, .ref 0, .int a2, .int a3, .ref 110, .ref 111, .ref 112, .ref 113, .int a8, w9, w10, w11, w12, w13, w14, w15, w16, w17, w18, w19, w20, w21] [] (am_SX (am_TL.take 6)) μ (some (.int out.1), (am_SX (am_TL.take 12)), out.2) := ih
    intro a2 a3 a8 w9 w10 w11 w12 w13 w14 w15 w16 w17 w18 w19 w20 w21 μ out h
    unfold fL_law_119 at h
    refine am_Ex.seg 2 123 [.ref am_SCR, .ref 0, .int a2, .int a3, .ref 110, .ref 111, .ref 112, .ref 113, .int a8, w9, w10, w11, w12, w13, w14, w15, w16, w17, w18, w19, w20, w21] [.int 14, .int a8] μ (fun _ => rfl) ?_
    rcases am_ite h with ⟨q1, h⟩ | ⟨q1, h⟩
    · refine am_Ex.icmp_ge_t rfl q1 ?_
      exact e_fL_law_289 d h
    · refine am_Ex.icmp_ge_f rfl q1 ?_
      refine am_Ex.seg 4 131 [.ref am_SCR, .ref 0, .int a2, .int a3, .ref 110, .ref 111, .ref 112, .ref 113, .int a8, w9, w10, w11, w12, w13, w14, w15, w16, w17, w18, w19, w20, w21] [.int ((1 : Int32) + a8), .ref am_SCR] μ (fun _ => rfl) ?_
      obtain ⟨q2, h_q2, h⟩ := am_bind h
      refine am_Ex.iskc (na := 2) rfl (As := [.ref am_SCR, .int ((1 : Int32) + a8)]) rfl rfl rfl rfl rfl rfl (e_fL_cell (d + 6) h_q2) ?_
      refine am_Ex.same 134 [.ref am_SCR, .ref 0, .int a2, .int a3, .ref 110, .ref 111, .ref 112, .ref 113, .int a8, w9, w10, w11, w12, w13, w14, w15, w16, w17, w18, w19, w20, w21] [.int q2.1] q2.2 rfl ?_
      refine am_Ex.seg 5 144 [.ref am_SCR, .ref 0, .int a2, .int a3, .ref 110, .ref 111, .ref 112, .ref 113, .int a8, .int q2.1, w10, w11, w12, w13, w14, w15, w16, w17, w18, w19, w20, w21] [.int 8, .int q2.1, .int a8, .ref 110] q2.2 (fun _ => rfl) ?_
      obtain ⟨q3, h_q3, h⟩ := am_bind h
      refine am_Ex.isk (na := 2) rfl (As := [.int q2.1, .int 8]) rfl rfl rfl rfl rfl rfl (e_fL_pick (d + 6) h_q3) ?_
      refine am_Ex.same 147 [.ref am_SCR, .ref 0, .int a2, .int a3, .ref 110, .ref 111, .ref 112, .ref 113, .int a8, .int q2.1, w10, w11, w12, w13, w14, w15, w16, w17, w18, w19, w20, w21] [.int q3.1, .int a8, .ref 110] q3.2 rfl ?_
      refine am_Ex.seg 1 148 [.ref am_SCR, .ref 0, .int a2, .int a3, .ref 110, .ref 111, .ref 112, .ref 113, .int a8, .int q2.1, w10, w11, w12, w13, w14, w15, w16, w17, w18, w19, w20, w21] [.int 5, .int q3.1, .int a8, .ref 110] q3.2 (fun _ => rfl) ?_
      rcases am_ite h with ⟨q4, h⟩ | ⟨q4, h⟩
      · refine am_Ex.icmp_ge_t rfl q4 ?_
        refine am_Ex.seg 2 159 [.ref am_SCR, .ref 0, .int a2, .int a3, .ref 110, .ref 111, .ref 112, .ref 113, .int a8, .int q2.1, w10, w11, w12, w13, w14, w15, w16, w17, w18, w19, w20, w21] [.int 8, .int q2.1, .int a8, .ref 110] q3.2 (fun _ => rfl) ?_
        obtain ⟨q5, h_q5, h⟩ := am_bind h
        refine am_Ex.isk (na := 2) rfl (As := [.int q2.1, .int 8]) rfl rfl rfl rfl rfl rfl (e_fL_pick (d + 6) h_q5) ?_
        refine am_Ex.same 162 [.ref am_SCR, .ref 0, .int a2, .int a3, .ref 110, .ref 111, .ref 112, .ref 113, .int a8, .int q2.1, w10, w11, w12, w13, w14, w15, w16, w17, w18, w19, w20, w21] [.int q5.1, .int a8, .ref 110] q5.2 rfl ?_
        refine am_Ex.seg 1 164 [.ref am_SCR, .ref 0, .int a2, .int a3, .ref 110, .ref 111, .ref 112, .ref 113, .int a8, .int q2.1, w10, w11, w12, w13, w14, w15, w16, w17, w18, w19, w20, w21] [.int 7, .int q5.1, .int a8, .ref 110] q5.2 (fun _ => rfl) ?_
        rcases am_ite h with ⟨q6, h⟩ | ⟨q6, h⟩
        · refine am_Ex.icmp_ge_t rfl q6 ?_
          refine am_Ex.seg 1 172 [.ref am_SCR, .ref 0, .int a2, .int a3, .ref 110, .ref 111, .ref 112, .ref 113, .int a8, .int q2.1, w10, w11, w12, w13, w14, w15, w16, w17, w18, w19, w20, w21] [.int 2, .int a8, .ref 110] q5.2 (fun _ => rfl) ?_
          exact e_fL_law_172 d hk119 h
        · refine am_Ex.icmp_ge_f rfl q6 ?_
          refine am_Ex.seg 1 168 [.ref am_SCR, .ref 0, .int a2, .int a3, .ref 110, .ref 111, .ref 112, .ref 113, .int a8, .int q2.1, w10, w11, w12, w13, w14, w15, w16, w17, w18, w19, w20, w21] [.int 1, .int a8, .ref 110] q5.2 (fun _ => rfl) ?_
          refine am_Ex.goto rfl ?_
          exact e_fL_law_172 d hk119 h
      · refine am_Ex.icmp_ge_f rfl q4 ?_
        refine am_Ex.seg 1 152 [.ref am_SCR, .ref 0, .int a2, .int a3, .ref 110, .ref 111, .ref 112, .ref 113, .int a8, .int q2.1, w10, w11, w12, w13, w14, w15, w16, w17, w18, w19, w20, w21] [.int 0, .int a8, .ref 110] q3.2 (fun _ => rfl) ?_
        refine am_Ex.goto rfl ?_
        exact e_fL_law_172 d hk119 h
set_option maxRecDepth 20000 in
set_option maxHeartbeats 1000000 in
theorem e_fL_law_92 {sL : Nat} {sX : Nat → Int32} (d : Nat) : ∀ {a2 : Int32} {a3 : Int32} {w4 w5 w6 w7 w8 w9 w10 w11 w12 w13 w14 w15 w16 w17 w18 w19 w20 w21 : Value} {μ : am_Mu} {out : Int32 × am_Mu}, fL_law_92 sL sX a2 a3 μ = some out → am_Ex (some (some (sL, sX))) (d + 7) 95 92 [.ref am_SCR, .ref 0, .int a2, .int a3, w4, w5, w6, w7, w8, w9, w10, w11, w12, w13, w14, w15, w16, w17, w18, w19, w20, w21] [] (am_SX (am_TL.take 2)) μ (some (.int out.1), (am_SX (am_TL.take 12)), out.2) := by
  intro a2 a3 w4 w5 w6 w7 w8 w9 w10 w11 w12 w13 w14 w15 w16 w17 w18 w19 w20 w21 μ out h
  unfold fL_law_92 at h
  refine am_Ex.seg 1 94 [.ref am_SCR, .ref 0, .int a2, .int a3, w4, w5, w6, w7, w8, w9, w10, w11, w12, w13, w14, w15, w16, w17, w18, w19, w20, w21] [.int 16] μ (fun _ => rfl) ?_
  refine am_Ex.newa (n := 110) (L1 := [.ref am_SCR, .ref 0, .int a2, .int a3, (am_mk 110 w4), (am_mk 110 w5), (am_mk 110 w6), (am_mk 110 w7), (am_mk 110 w8), (am_mk 110 w9), (am_mk 110 w10), (am_mk 110 w11), (am_mk 110 w12), (am_mk 110 w13), (am_mk 110 w14), (am_mk 110 w15), (am_mk 110 w16), (am_mk 110 w17), (am_mk 110 w18), (am_mk 110 w19), (am_mk 110 w20), (am_mk 110 w21)]) (sh1 := (am_SX (am_TL.take 3))) rfl rfl (by decide +kernel) rfl rfl rfl ?_
  refine am_Ex.seg 2 100 [.ref am_SCR, .ref 0, .int a2, .int a3, .ref 110, (am_mk 110 w5), (am_mk 110 w6), (am_mk 110 w7), (am_mk 110 w8), (am_mk 110 w9), (am_mk 110 w10), (am_mk 110 w11), (am_mk 110 w12), (am_mk 110 w13), (am_mk 110 w14), (am_mk 110 w15), (am_mk 110 w16), (am_mk 110 w17), (am_mk 110 w18), (am_mk 110 w19), (am_mk 110 w20), (am_mk 110 w21)] [.int 16] (am_row μ 110 (fun _ => 0)) (fun _ => rfl) ?_
  refine am_Ex.newa (n := 111) (L1 := [.ref am_SCR, .ref 0, .int a2, .int a3, .ref 110, (am_mk 111 (am_mk 110 w5)), (am_mk 111 (am_mk 110 w6)), (am_mk 111 (am_mk 110 w7)), (am_mk 111 (am_mk 110 w8)), (am_mk 111 (am_mk 110 w9)), (am_mk 111 (am_mk 110 w10)), (am_mk 111 (am_mk 110 w11)), (am_mk 111 (am_mk 110 w12)), (am_mk 111 (am_mk 110 w13)), (am_mk 111 (am_mk 110 w14)), (am_mk 111 (am_mk 110 w15)), (am_mk 111 (am_mk 110 w16)), (am_mk 111 (am_mk 110 w17)), (am_mk 111 (am_mk 110 w18)), (am_mk 111 (am_mk 110 w19)), (am_mk 111 (am_mk 110 w20)), (am_mk 111 (am_mk 110 w21))]) (sh1 := (am_SX (am_TL.take 4))) rfl rfl (by decide +kernel) rfl rfl rfl ?_
  refine am_Ex.seg 2 106 [.ref am_SCR, .ref 0, .int a2, .int a3, .ref 110, .ref 111, (am_mk 111 (am_mk 110 w6)), (am_mk 111 (am_mk 110 w7)), (am_mk 111 (am_mk 110 w8)), (am_mk 111 (am_mk 110 w9)), (am_mk 111 (am_mk 110 w10)), (am_mk 111 (am_mk 110 w11)), (am_mk 111 (am_mk 110 w12)), (am_mk 111 (am_mk 110 w13)), (am_mk 111 (am_mk 110 w14)), (am_mk 111 (am_mk 110 w15)), (am_mk 111 (am_mk 110 w16)), (am_mk 111 (am_mk 110 w17)), (am_mk 111 (am_mk 110 w18)), (am_mk 111 (am_mk 110 w19)), (am_mk 111 (am_mk 110 w20)), (am_mk 111 (am_mk 110 w21))] [.int 16] (am_row (am_row μ 110 (fun _ => 0)) 111 (fun _ => 0)) (fun _ => rfl) ?_
  refine am_Ex.newa (n := 112) (L1 := [.ref am_SCR, .ref 0, .int a2, .int a3, .ref 110, .ref 111, (am_mk 112 (am_mk 111 (am_mk 110 w6))), (am_mk 112 (am_mk 111 (am_mk 110 w7))), (am_mk 112 (am_mk 111 (am_mk 110 w8))), (am_mk 112 (am_mk 111 (am_mk 110 w9))), (am_mk 112 (am_mk 111 (am_mk 110 w10))), (am_mk 112 (am_mk 111 (am_mk 110 w11))), (am_mk 112 (am_mk 111 (am_mk 110 w12))), (am_mk 112 (am_mk 111 (am_mk 110 w13))), (am_mk 112 (am_mk 111 (am_mk 110 w14))), (am_mk 112 (am_mk 111 (am_mk 110 w15))), (am_mk 112 (am_mk 111 (am_mk 110 w16))), (am_mk 112 (am_mk 111 (am_mk 110 w17))), (am_mk 112 (am_mk 111 (am_mk 110 w18))), (am_mk 112 (am_mk 111 (am_mk 110 w19))), (am_mk 112 (am_mk 111 (am_mk 110 w20))), (am_mk 112 (am_mk 111 (am_mk 110 w21)))]) (sh1 := (am_SX (am_TL.take 5))) rfl rfl (by decide +kernel) rfl rfl rfl ?_
  refine am_Ex.seg 2 112 [.ref am_SCR, .ref 0, .int a2, .int a3, .ref 110, .ref 111, .ref 112, (am_mk 112 (am_mk 111 (am_mk 110 w7))), (am_mk 112 (am_mk 111 (am_mk 110 w8))), (am_mk 112 (am_mk 111 (am_mk 110 w9))), (am_mk 112 (am_mk 111 (am_mk 110 w10))), (am_mk 112 (am_mk 111 (am_mk 110 w11))), (am_mk 112 (am_mk 111 (am_mk 110 w12))), (am_mk 112 (am_mk 111 (am_mk 110 w13))), (am_mk 112 (am_mk 111 (am_mk 110 w14))), (am_mk 112 (am_mk 111 (am_mk 110 w15))), (am_mk 112 (am_mk 111 (am_mk 110 w16))), (am_mk 112 (am_mk 111 (am_mk 110 w17))), (am_mk 112 (am_mk 111 (am_mk 110 w18))), (am_mk 112 (am_mk 111 (am_mk 110 w19))), (am_mk 112 (am_mk 111 (am_mk 110 w20))), (am_mk 112 (am_mk 111 (am_mk 110 w21)))] [.int 18] (am_row (am_row (am_row μ 110 (fun _ => 0)) 111 (fun _ => 0)) 112 (fun _ => 0)) (fun _ => rfl) ?_
  refine am_Ex.newa (n := 113) (L1 := [.ref am_SCR, .ref 0, .int a2, .int a3, .ref 110, .ref 111, .ref 112, (am_mk 113 (am_mk 112 (am_mk 111 (am_mk 110 w7)))), (am_mk 113 (am_mk 112 (am_mk 111 (am_mk 110 w8)))), (am_mk 113 (am_mk 112 (am_mk 111 (am_mk 110 w9)))), (am_mk 113 (am_mk 112 (am_mk 111 (am_mk 110 w10)))), (am_mk 113 (am_mk 112 (am_mk 111 (am_mk 110 w11)))), (am_mk 113 (am_mk 112 (am_mk 111 (am_mk 110 w12)))), (am_mk 113 (am_mk 112 (am_mk 111 (am_mk 110 w13)))), (am_mk 113 (am_mk 112 (am_mk 111 (am_mk 110 w14)))), (am_mk 113 (am_mk 112 (am_mk 111 (am_mk 110 w15)))), (am_mk 113 (am_mk 112 (am_mk 111 (am_mk 110 w16)))), (am_mk 113 (am_mk 112 (am_mk 111 (am_mk 110 w17)))), (am_mk 113 (am_mk 112 (am_mk 111 (am_mk 110 w18)))), (am_mk 113 (am_mk 112 (am_mk 111 (am_mk 110 w19)))), (am_mk 113 (am_mk 112 (am_mk 111 (am_mk 110 w20)))), (am_mk 113 (am_mk 112 (am_mk 111 (am_mk 110 w21))))]) (sh1 := (am_SX (am_TL.take 6))) rfl rfl (by decide +kernel) rfl rfl rfl ?_
  refine am_Ex.seg 3 119 [.ref am_SCR, .ref 0, .int a2, .int a3, .ref 110, .ref 111, .ref 112, .ref 113, .int 0, (am_mk 113 (am_mk 112 (am_mk 111 (am_mk 110 w9)))), (am_mk 113 (am_mk 112 (am_mk 111 (am_mk 110 w10)))), (am_mk 113 (am_mk 112 (am_mk 111 (am_mk 110 w11)))), (am_mk 113 (am_mk 112 (am_mk 111 (am_mk 110 w12)))), (am_mk 113 (am_mk 112 (am_mk 111 (am_mk 110 w13)))), (am_mk 113 (am_mk 112 (am_mk 111 (am_mk 110 w14)))), (am_mk 113 (am_mk 112 (am_mk 111 (am_mk 110 w15)))), (am_mk 113 (am_mk 112 (am_mk 111 (am_mk 110 w16)))), (am_mk 113 (am_mk 112 (am_mk 111 (am_mk 110 w17)))), (am_mk 113 (am_mk 112 (am_mk 111 (am_mk 110 w18)))), (am_mk 113 (am_mk 112 (am_mk 111 (am_mk 110 w19)))), (am_mk 113 (am_mk 112 (am_mk 111 (am_mk 110 w20)))), (am_mk 113 (am_mk 112 (am_mk 111 (am_mk 110 w21))))] [] (am_row (am_row (am_row (am_row μ 110 (fun _ => 0)) 111 (fun _ => 0)) 112 (fun _ => 0)) 113 (fun _ => 0)) (fun _ => rfl) ?_
  exact e_fL_law_119 d am_F h
set_option maxRecDepth 20000 in
set_option maxHeartbeats 1000000 in
theorem e_fL_law_85 {sL : Nat} {sX : Nat → Int32} (d : Nat) {k60 : Int32 → Int32 → Int32 → am_Mu → Option (Int32 × am_Mu)} (hk60 : ∀ {a2 : Int32} {a3 : Int32} {a4 : Int32} {w5 w6 w7 w8 w9 w10 w11 w12 w13 w14 w15 w16 w17 w18 w19 w20 w21 : Value} {μ : am_Mu} {out : Int32 × am_Mu}, k60 a2 a3 a4 μ = some out → am_Ex (some (some (sL, sX))) (d + 7) 95 60 [.ref am_SCR, .ref 0, .int a2, .int a3, .int a4, w5, w6, w7, w8, w9, w10, w11, w12, w13, w14, w15, w16, w17, w18, w19, w20, w21] [] (am_SX (am_TL.take 2)) μ (some (.int out.1), (am_SX (am_TL.take 12)), out.2)) : ∀ {a2 : Int32} {a4 : Int32} {s0 : Int32} {w3 w5 w6 w7 w8 w9 w10 w11 w12 w13 w14 w15 w16 w17 w18 w19 w20 w21 : Value} {μ : am_Mu} {out : Int32 × am_Mu}, fL_law_85 sL sX k60 a2 a4 s0 μ = some out → am_Ex (some (some (sL, sX))) (d + 7) 95 85 [.ref am_SCR, .ref 0, .int a2, w3, .int a4, w5, w6, w7, w8, w9, w10, w11, w12, w13, w14, w15, w16, w17, w18, w19, w20, w21] [.int s0] (am_SX (am_TL.take 2)) μ (some (.int out.1), (am_SX (am_TL.take 12)), out.2) := by
  intro a2 a4 s0 w3 w5 w6 w7 w8 w9 w10 w11 w12 w13 w14 w15 w16 w17 w18 w19 w20 w21 μ out h
  unfold fL_law_85 at h
  refine am_Ex.seg 2 89 [.ref am_SCR, .ref 0, .int a2, .int s0, .int (a4 + 1), w5, w6, w7, w8, w9, w10, w11, w12, w13, w14, w15, w16, w17, w18, w19, w20, w21] [] μ (fun _ => rfl) ?_
  refine am_Ex.goto rfl ?_
  exact hk60 h
set_option maxRecDepth 20000 in
set_option maxHeartbeats 1000000 in
theorem e_fL_law_84 {sL : Nat} {sX : Nat → Int32} (d : Nat) {k60 : Int32 → Int32 → Int32 → am_Mu → Option (Int32 × am_Mu)} (hk60 : ∀ {a2 : Int32} {a3 : Int32} {a4 : Int32} {w5 w6 w7 w8 w9 w10 w11 w12 w13 w14 w15 w16 w17 w18 w19 w20 w21 : Value} {μ : am_Mu} {out : Int32 × am_Mu}, k60 a2 a3 a4 μ = some out → am_Ex (some (some (sL, sX))) (d + 7) 95 60 [.ref am_SCR, .ref 0, .int a2, .int a3, .int a4, w5, w6, w7, w8, w9, w10, w11, w12, w13, w14, w15, w16, w17, w18, w19, w20, w21] [] (am_SX (am_TL.take 2)) μ (some (.int out.1), (am_SX (am_TL.take 12)), out.2)) : ∀ {a2 : Int32} {a4 : Int32} {w3 w5 w6 w7 w8 w9 w10 w11 w12 w13 w14 w15 w16 w17 w18 w19 w20 w21 : Value} {μ : am_Mu} {out : Int32 × am_Mu}, fL_law_84 sL sX k60 a2 a4 μ = some out → am_Ex (some (some (sL, sX))) (d + 7) 95 84 [.ref am_SCR, .ref 0, .int a2, w3, .int a4, w5, w6, w7, w8, w9, w10, w11, w12, w13, w14, w15, w16, w17, w18, w19, w20, w21] [] (am_SX (am_TL.take 2)) μ (some (.int out.1), (am_SX (am_TL.take 12)), out.2) := by
  intro a2 a4 w3 w5 w6 w7 w8 w9 w10 w11 w12 w13 w14 w15 w16 w17 w18 w19 w20 w21 μ out h
  unfold fL_law_84 at h
  refine am_Ex.seg 1 85 [.ref am_SCR, .ref 0, .int a2, w3, .int a4, w5, w6, w7, w8, w9, w10, w11, w12, w13, w14, w15, w16, w17, w18, w19, w20, w21] [.int 0] μ (fun _ => rfl) ?_
  exact e_fL_law_85 d hk60 h
set_option maxRecDepth 20000 in
set_option maxHeartbeats 1000000 in
theorem e_fL_law_60 {sL : Nat} {sX : Nat → Int32} (d : Nat) : ∀ n : Nat, ∀ {a2 : Int32} {a3 : Int32} {a4 : Int32} {w5 w6 w7 w8 w9 w10 w11 w12 w13 w14 w15 w16 w17 w18 w19 w20 w21 : Value} {μ : am_Mu} {out : Int32 × am_Mu}, fL_law_60 sL sX n a2 a3 a4 μ = some out → am_Ex (some (some (sL, sX))) (d + 7) 95 60 [.ref am_SCR, .ref 0, .int a2, .int a3, .int a4, w5, w6, w7, w8, w9, w10, w11, w12, w13, w14, w15, w16, w17, w18, w19, w20, w21] [] (am_SX (am_TL.take 2)) μ (some (.int out.1), (am_SX (am_TL.take 12)), out.2) := by
  intro n
  induction n with
  | zero => intros; contradiction
  | succ n ih =>
    have hk60 : ∀ {a2 : Int32} {a3 : Int32} {a4 : Int32} {w5 w6 w7 w8 w9 w10 w11 w12 w13 w14 w15 w16 w17 w18 w19 w20 w21 : Value} {μ : am_Mu} {out : Int32 × am_Mu}, (fL_law_60 sL sX n) a2 a3 a4 μ = some out → am_Ex (some (some (sL, sX))) (d + 7) 95 60 [.ref am_SCR, .ref 0, .int a2, .int a3, .int a4, w5, w6, w7, w8, w9, w10, w11, w12, w13, w14, w15, w16, w17, w18, w19, w20, w21] [] (am_SX (am_TL.take 2)) μ (some (.int out.1), (am_SX (am_TL.take 12)), out.2) := ih
    intro a2 a3 a4 w5 w6 w7 w8 w9 w10 w11 w12 w13 w14 w15 w16 w17 w18 w19 w20 w21 μ out h
    unfold fL_law_60 at h
    refine am_Ex.seg 2 63 [.ref am_SCR, .ref 0, .int a2, .int a3, .int a4, w5, w6, w7, w8, w9, w10, w11, w12, w13, w14, w15, w16, w17, w18, w19, w20, w21] [.int a2, .int a4] μ (fun _ => rfl) ?_
    rcases am_ite h with ⟨q1, h⟩ | ⟨q1, h⟩
    · refine am_Ex.icmp_ge_t rfl q1 ?_
      exact e_fL_law_92 d h
    · refine am_Ex.icmp_ge_f rfl q1 ?_
      refine am_Ex.seg 1 67 [.ref am_SCR, .ref 0, .int a2, .int a3, .int a4, w5, w6, w7, w8, w9, w10, w11, w12, w13, w14, w15, w16, w17, w18, w19, w20, w21] [.int a3] μ (fun _ => rfl) ?_
      rcases am_ite h with ⟨q2, h⟩ | ⟨q2, h⟩
      · refine am_Ex.if_eq_t rfl q2 ?_
        exact e_fL_law_84 d hk60 h
      · refine am_Ex.if_eq_f rfl q2 ?_
        refine am_Ex.seg 2 72 [.ref am_SCR, .ref 0, .int a2, .int a3, .int a4, w5, w6, w7, w8, w9, w10, w11, w12, w13, w14, w15, w16, w17, w18, w19, w20, w21] [.int 0, .ref 0] μ (fun _ => rfl) ?_
        obtain ⟨q3, h_q3, h⟩ := am_bind h
        refine am_Ex.ivk (na := 2) (b := 0) (As' := [.int 0]) rfl rfl rfl rfl rfl rfl rfl rfl rfl (e_fB_thing (d + 4) h_q3) ?_
        refine am_Ex.same 75 [.ref am_SCR, .ref 0, .int a2, .int a3, .int a4, w5, w6, w7, w8, w9, w10, w11, w12, w13, w14, w15, w16, w17, w18, w19, w20, w21] [.int q3.1] q3.2 rfl ?_
        refine am_Ex.seg 1 77 [.ref am_SCR, .ref 0, .int a2, .int a3, .int a4, w5, w6, w7, w8, w9, w10, w11, w12, w13, w14, w15, w16, w17, w18, w19, w20, w21] [.int a4, .int q3.1] q3.2 (fun _ => rfl) ?_
        rcases am_ite h with ⟨q4, h⟩ | ⟨q4, h⟩
        · refine am_Ex.icmp_ne_t rfl q4 ?_
          exact e_fL_law_84 d hk60 h
        · refine am_Ex.icmp_ne_f rfl (Decidable.not_not.mp q4) ?_
          refine am_Ex.seg 1 81 [.ref am_SCR, .ref 0, .int a2, .int a3, .int a4, w5, w6, w7, w8, w9, w10, w11, w12, w13, w14, w15, w16, w17, w18, w19, w20, w21] [.int 1] q3.2 (fun _ => rfl) ?_
          refine am_Ex.goto rfl ?_
          exact e_fL_law_85 d hk60 h
